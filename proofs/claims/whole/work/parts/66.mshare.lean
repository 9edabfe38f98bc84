def ShS (V : WV) (lv r : Nat) (U : WV) : Prop := ∀ g, g < 12 → thV V g = true → blw (pfV V) r g = true → g ≠ r → U.1 15 g = shr V lv r g
def KeepS (U U' : WV) : Prop := ∀ o, o < 9 ∨ 16 ≤ o → U'.1 o = U.1 o
theorem KeepS.keep {U U' : WV} (h : KeepS U U') : Keep U U' := ⟨fun o h1 _ => h o (Or.inl h1), fun i _ => by rw [h 1 (by decide)]⟩
theorem KeepS.rel {V U U' : WV} (h : KeepS U U') (hR : Rel V (U.1 1)) : Rel V (U'.1 1) := by rw [h 1 (by decide)]; exact hR
theorem KeepT.toS {U U' : WV} (h : KeepT U U') : KeepS U U' := fun o ho => h o (by omega)
theorem KeepS.trans {U U' U'' : WV} (h : KeepS U U') (h' : KeepS U' U'') : KeepS U U'' := fun o ho => (h' o ho).trans (h o ho)
theorem KeepS.refl (U : WV) : KeepS U U := fun _ _ => rfl
section MSHARE
variable {V U : WV} {n : Nat} {o : Nat → Nat} {b : Nat} {P : WV → Hp}
theorem OrdOK.par (hO : OrdOK V n o) {g : Nat} (hg : g < 12) (ht : thV V g = true) (h0 : g ≠ 0) : ∃ u, u < 12 ∧ thV V u = true ∧ V.1 2 g = nI u ∧ pfV V g = some u := by
  obtain ⟨rk, hk1, hk2⟩ := hO.rk
  obtain ⟨q1, q2⟩ := hk2 g hg ht
  rcases Nat.eq_zero_or_pos (rk g) with z | z
  · rw [z, hO.2.2.2.1] at q2; exact absurd q2.symm h0
  · obtain ⟨j, hj, e, hpf, hj12⟩ := hO.pf z q1
    rw [q2] at e hpf
    exact ⟨o j, hj12, hO.th (by omega), e, hpf⟩
theorem OrdOK.blwP (hO : OrdOK V n o) {g u r : Nat} (hg : g < 12) (ht : thV V g = true) (hpf : pfV V g = some u) : blw (pfV V) r g = (decide (r = g) || blw (pfV V) r u) := by
  unfold blw
  rw [pth_cons hO.tree hg ht, hpf]
  simp
theorem m_sharedOut (hP : LM b P) (hR : Rel V (U.1 1)) (hO : OrdOK V n o) (hL : LimOK V) {lv r g u : Nat} (hg : g < 12) (ht : thV V g = true) (hr : r < 12) (hu : u < 12) (hut : thV V u = true) (e : V.1 2 g = nI u) (hpf : pfV V g = some u) (h13 : U.1 13 g = clm V lv g) (h14 : U.1 14 u = tog V lv u) (h15 : u ≠ r → U.1 15 u = shr V lv r u) : F_X10_sharedOut (P U) b (nI g) (nI r) = some (shr V lv r g, P U) := by
  have hs := shr_eq (lv := lv) (r := r) hO hg ht hpf
  unfold F_X10_sharedOut
  simp only [ml hP, m_parent hP hR hg ht, e, Option.bind_some, un, hg, hu, h13, h14]
  by_cases er : u = r
  · rw [if_pos (by rw [er]), hs, if_pos er]
  · rw [if_neg (fun z => er ((nI_eq (by omega) (by omega)).mp z)), h15 er]
    rw [if_neg er] at hs
    have hn := shr_nn (lv := lv) (r := r) hO hL hu hut
    by_cases c : shr V lv r u < tog V lv u
    · have c' := ti_lt.mp c
      have c1 : ¬ tog V lv u ≤ shr V lv r u := fun z => by have := ti_le.mp z; omega
      have c2 : ¬ tog V lv u ≤ 0 := fun z => by have := ti_le.mp z; rw [ti_0] at this; omega
      have hnz : ¬ tog V lv u = 0 := fun z => by rw [z, ti_0] at c'; omega
      rw [if_pos c, hs, if_neg (fun z => z.elim c1 c2)]
      simp only [dvI, if_neg hnz, Option.bind_some]
    · rw [if_neg c, hs, if_pos (Or.inl (Int32.not_lt.mp c))]
/-- what the model's shares are on the way -/
def ShI (V : WV) (lv r : Nat) (U a : WV) : Prop := (∀ c, c ≠ 15 → a.1 c = U.1 c) ∧ ∀ g, g < 12 → a.1 15 g = -1 ∨ (thV V g = true ∧ blw (pfV V) r g = true ∧ g ≠ r ∧ a.1 15 g = shr V lv r g)
def ShC (V : WV) (r : Nat) (a : WV) (i : Nat) : Prop := ∀ g, 0 < g → g < i → thV V g = true → g ≠ r → a.1 15 g = -1 → ∀ u, pfV V g = some u → u ≠ r ∧ a.1 15 u = -1
def ShN (a : WV) : Nat := cntN 12 (fun g => decide (a.1 15 g = -1))
theorem cnt_less {f g : Nat → Bool} {i : Nat} : ∀ (N : Nat), i < N → f i = true → g i = false → (∀ x, x ≠ i → g x = f x) → cntN N g < cntN N f
  | 0, h, _, _, _ => absurd h (Nat.not_lt_zero _)
  | N + 1, h, h1, h2, h3 => by
    rw [cntN_s, cntN_s]
    by_cases e : i = N
    · subst e
      rw [h1, h2]
      have : cntN i g = cntN i f := cntN_cong fun x hx => h3 x (by omega)
      rw [this]; simp
    · have := cnt_less N (by omega) h1 h2 h3
      rw [h3 N (fun z => e z.symm)]; omega
theorem m1_shr (hO : OrdOK V n o) (hL : LimOK V) {lv r g : Nat} (hg : g < 12) (ht : thV V g = true) : ¬ shr V lv r g = -1 := fun z => by
  have := (shr_nn (lv := lv) (r := r) hO hL hg ht).1
  rw [z] at this
  exact absurd this (by decide)
theorem m_shPass (hP : LM b P) (hO : OrdOK V n o) (hL : LimOK V) {lv r : Nat} (hr : r < 12) (hR : Rel V (U.1 1)) (h13 : ∀ g, g < 12 → thV V g = true → U.1 13 g = clm V lv g) (h14 : ∀ g, g < 12 → U.1 14 g = tog V lv g) (a : WV) (hS : ShI V lv r U a) :
    ∃ m a', loopF (fun x => F_X10_laysShares_L126 b (nI r) x.1 x.2.1 x.2.2) 6000 (0, 1, P a) = some (m, P a') ∧ ShI V lv r U a' ∧ ((m = 0 ∧ a' = a ∧ ShC V r a 12) ∨ (m = 1 ∧ ShN a' < ShN a)) := by
  obtain ⟨x, h1, h2⟩ := loop_inv (st := fun x => F_X10_laysShares_L126 b (nI r) x.1 x.2.1 x.2.2) (fun i (y : Int32 × WV) => (y.1, nI i, P y.2)) (fun y => (y.1, P y.2))
    (fun i y => 0 < i ∧ ShI V lv r U y.2 ∧ ((y.1 = 0 ∧ y.2 = a ∧ ShC V r a i) ∨ (y.1 = 1 ∧ ShN y.2 < ShN a))) 12
    (fun i y hi hI => by
      obtain ⟨i0, iS, iC⟩ := hI
      have hRy : Rel V (y.2.1 1) := by rw [iS.1 1 (by decide)]; exact hR
      have skip : (thV V i = true → i ≠ r → y.2.1 15 i = -1 → ∀ u, pfV V i = some u → u ≠ r ∧ y.2.1 15 u = -1) → (0 < i + 1 ∧ ShI V lv r U y.2 ∧ ((y.1 = 0 ∧ y.2 = a ∧ ShC V r a (i + 1)) ∨ (y.1 = 1 ∧ ShN y.2 < ShN a))) := fun hk => by
        refine ⟨by omega, iS, ?_⟩
        rcases iC with ⟨c1, c2, c3⟩ | c
        · refine Or.inl ⟨c1, c2, fun g g0 g1 gt gr gm u hu => ?_⟩
          by_cases e : g = i
          · subst e; rw [← c2] at gm ⊢; exact hk gt gr gm u hu
          · exact c3 g g0 (by omega) gt gr gm u hu
        · exact Or.inr c
      cases ht : thV V i
      · refine ⟨y, ?_, skip (fun z => by rw [ht] at z; cases z)⟩
        show F_X10_laysShares_L126 b (nI r) y.1 (nI i) (P y.2) = _
        unfold F_X10_laysShares_L126
        rw [h12I, if_neg (nI_ge hi (by decide))]
        simp [ml hP, m_isGroup' hP hRy hi, ht, bl, nI_1]
      · by_cases er : i = r
        · refine ⟨y, ?_, skip (fun _ z => absurd er z)⟩
          show F_X10_laysShares_L126 b (nI r) y.1 (nI i) (P y.2) = _
          unfold F_X10_laysShares_L126
          rw [h12I, if_neg (nI_ge hi (by decide))]
          simp only [ml hP, m_isGroup' hP hRy hi, ht, if_true, if_neg (show ¬ (1 : Int32) = 0 by decide), Option.bind_some, bl, nI_1, if_pos (show nI i = nI r by rw [er])]
        · have ern : ¬ nI i = nI r := fun z => er ((nI_eq (by omega) (by omega)).mp z)
          by_cases hm : y.2.1 15 i = -1
          · obtain ⟨u, hu, hut, e, hpf⟩ := hO.par hi ht (by omega)
            have h13' : y.2.1 13 i = clm V lv i := by rw [iS.1 13 (by decide)]; exact h13 i hi ht
            have h14' : y.2.1 14 u = tog V lv u := by rw [iS.1 14 (by decide)]; exact h14 u hu
            by_cases hgo : u = r ∨ ¬ y.2.1 15 u = -1
            · -- it is shared out
              have h15' : u ≠ r → y.2.1 15 u = shr V lv r u := fun z => by
                rcases hgo with q | q
                · exact absurd q z
                · rcases iS.2 u hu with q2 | q2
                  · exact absurd q2 q
                  · exact q2.2.2.2
              have hbi : blw (pfV V) r i = true := by
                rw [hO.blwP hi ht hpf]
                rcases hgo with q | q
                · rw [q, blw_self hO.tree hr (by rw [← q]; exact hut)]; simp
                · rcases iS.2 u hu with q2 | q2
                  · exact absurd q2 q
                  · rw [q2.2.1]; simp
              have hso := m_sharedOut hP hRy hO hL hi ht hr hu hut e hpf h13' h14' h15'
              have hne := m1_shr (lv := lv) (r := r) hO hL hi ht
              refine ⟨(1, sx y.2 15 (upd (y.2.1 15) i (shr V lv r i))), ?_, by omega, ⟨?_, ?_⟩, Or.inr ⟨rfl, ?_⟩⟩
              · show F_X10_laysShares_L126 b (nI r) y.1 (nI i) (P y.2) = _
                unfold F_X10_laysShares_L126
                rw [h12I, if_neg (nI_ge hi (by decide))]
                simp only [ml hP, m_isGroup' hP hRy hi, ht, if_true, if_neg (show ¬ (1 : Int32) = 0 by decide), Option.bind_some, bl, if_neg ern, hi, hm, m_parent hP hRy hi ht, e, un, hu, hso, nI_1]
                by_cases eu : u = r
                · rw [if_pos (by rw [eu])]
                · rw [if_neg (fun z => eu ((nI_eq (by omega) (by omega)).mp z)), if_neg (hgo.resolve_left eu)]
              · intro c hc; rw [sx_1, up_n _ _ hc]; exact iS.1 c hc
              · intro g hg
                show upd (y.2.1 15) i (shr V lv r i) g = -1 ∨ _ ∧ _ ∧ _ ∧ upd (y.2.1 15) i (shr V lv r i) g = _
                by_cases eg : g = i
                · subst eg; rw [upd_s]; exact Or.inr ⟨ht, hbi, er, rfl⟩
                · rw [upd_ne _ _ eg]; exact iS.2 g hg
              · have hl : ShN (sx y.2 15 (upd (y.2.1 15) i (shr V lv r i))) < ShN y.2 := by
                  unfold ShN
                  refine cnt_less (i := i) 12 hi (decide_eq_true hm) ?_ (fun x hx => ?_)
                  · show decide (upd (y.2.1 15) i (shr V lv r i) i = -1) = false
                    rw [upd_s]; exact decide_eq_false hne
                  · show decide (upd (y.2.1 15) i (shr V lv r i) x = -1) = _
                    rw [upd_ne _ _ hx]
                rcases iC with ⟨c1, c2, c3⟩ | c
                · rw [← c2]; exact hl
                · exact Nat.lt_trans hl c.2
            · have hg1 : u ≠ r := fun z => hgo (Or.inl z)
              have hg2 : y.2.1 15 u = -1 := by
                rcases Decidable.em (y.2.1 15 u = -1) with q | q
                · exact q
                · exact absurd (Or.inr q) hgo
              refine ⟨y, ?_, skip (fun _ _ _ u' hu' => by
                rw [hpf] at hu'; cases hu'; exact ⟨hg1, hg2⟩)⟩
              show F_X10_laysShares_L126 b (nI r) y.1 (nI i) (P y.2) = _
              unfold F_X10_laysShares_L126
              rw [h12I, if_neg (nI_ge hi (by decide))]
              simp only [ml hP, m_isGroup' hP hRy hi, ht, if_true, if_neg (show ¬ (1 : Int32) = 0 by decide), Option.bind_some, bl, if_neg ern, hi, hm, m_parent hP hRy hi ht, e, un, hu, nI_1]
              rw [if_neg (fun z => hg1 ((nI_eq (by omega) (by omega)).mp z)), if_pos hg2]
          · refine ⟨y, ?_, skip (fun _ _ z => absurd z hm)⟩
            show F_X10_laysShares_L126 b (nI r) y.1 (nI i) (P y.2) = _
            unfold F_X10_laysShares_L126
            rw [h12I, if_neg (nI_ge hi (by decide))]
            simp only [ml hP, m_isGroup' hP hRy hi, ht, if_true, if_neg (show ¬ (1 : Int32) = 0 by decide), Option.bind_some, bl, if_neg ern, hi, if_neg hm, nI_1])
    (fun y hI => by
      show F_X10_laysShares_L126 b (nI r) y.1 (nI 12) (P y.2) = _
      unfold F_X10_laysShares_L126
      rw [h12I, if_pos (nI_le (Nat.le_refl _) (by decide))])
    11 1 6000 (0, a) (by decide) (by decide) ⟨by decide, hS, Or.inl ⟨rfl, rfl, fun g g0 g1 => by omega⟩⟩
  exact ⟨x.1, x.2, h1, h2.2⟩
theorem m_shares (hP : LM b P) (hR : Rel V (U.1 1)) (hC : Cor V n o) (hL : LimOK V) {lv r : Nat} (hr : r < 12) (ht : thV V r = true) (hlv : lv < 2) : ∃ U', F_X10_laysShares (P U) b (nI r) (nI lv) = some (P U') ∧ KeepS U U' ∧ TotS V U' ∧ ShS V lv r U' := by
  obtain ⟨hO, hH, hTo, hOu⟩ := id hC
  obtain ⟨U1, t1, t2, t3⟩ := m_laysTotals hP hR hC
  have hR1 := t2.rel hR
  have hv0 : lv = 0 ∨ lv = 1 := by omega
  obtain ⟨U2, a1, b1, b2⟩ := loop_inv (st := fun x => F_X10_laysShares_L6 b (nI r) (nI lv) x.1 x.2) (fun i (a : WV) => (nI i, P a)) (fun a => P a)
    (fun i a => (∀ c, c ≠ 13 → c ≠ 14 → c ≠ 15 → a.1 c = U1.1 c) ∧ ∀ g, g < i → (thV V g = true → a.1 13 g = clm V lv g) ∧ a.1 14 g = 0 ∧ a.1 15 g = -1) 12
    (fun i a hi hI => by
      obtain ⟨i1, i2⟩ := hI
      have hRa : Rel V (a.1 1) := by rw [i1 1 (by decide) (by decide) (by decide)]; exact hR1
      have fin : ∀ x : Int32, (thV V i = true → x = clm V lv i) → ((∀ c, c ≠ 13 → c ≠ 14 → c ≠ 15 → (sx (sx (sx a 13 (upd (a.1 13) i x)) 14 (upd (a.1 14) i 0)) 15 (upd (a.1 15) i (-1))).1 c = U1.1 c) ∧ ∀ g, g < i + 1 → (thV V g = true → (sx (sx (sx a 13 (upd (a.1 13) i x)) 14 (upd (a.1 14) i 0)) 15 (upd (a.1 15) i (-1))).1 13 g = clm V lv g) ∧ (sx (sx (sx a 13 (upd (a.1 13) i x)) 14 (upd (a.1 14) i 0)) 15 (upd (a.1 15) i (-1))).1 14 g = 0 ∧ (sx (sx (sx a 13 (upd (a.1 13) i x)) 14 (upd (a.1 14) i 0)) 15 (upd (a.1 15) i (-1))).1 15 g = -1) := fun x hx => by
        refine ⟨fun c c1 c2 c3 => by rw [sx_1, up_n _ _ c3, sx_1, up_n _ _ c2, sx_1, up_n _ _ c1]; exact i1 c c1 c2 c3, fun g hg => ?_⟩
        show (thV V g = true → upd (a.1 13) i x g = clm V lv g) ∧ upd (a.1 14) i 0 g = 0 ∧ upd (a.1 15) i (-1) g = -1
        by_cases e : g = i
        · subst e; rw [upd_s, upd_s, upd_s]; exact ⟨hx, rfl, rfl⟩
        · rw [upd_ne _ _ e, upd_ne _ _ e, upd_ne _ _ e]; exact i2 g (by omega)
      cases hti : thV V i
      · refine ⟨_, ?_, fin 0 (fun z => by rw [hti] at z; cases z)⟩
        show F_X10_laysShares_L6 b (nI r) (nI lv) (nI i) (P a) = _
        unfold F_X10_laysShares_L6
        rw [h12I, if_neg (nI_ge hi (by decide))]
        simp only [ml hP, m_isGroup' hP hRa hi, hti, Bool.false_eq_true, if_false, if_true, Option.bind_some, bl, hi, nI_1]
        rfl
      · refine ⟨_, ?_, fin (clm V lv i) (fun _ => rfl)⟩
        show F_X10_laysShares_L6 b (nI r) (nI lv) (nI i) (P a) = _
        unfold F_X10_laysShares_L6
        rw [h12I, if_neg (nI_ge hi (by decide))]
        have e9 : a.1 9 i = V.1 15 i := by rw [i1 9 (by decide) (by decide) (by decide)]; exact (t3 i hi hti).1
        rcases hv0 with rfl | rfl
        · simp only [ml hP, m_isGroup' hP hRa hi, hti, if_true, if_neg (show ¬ (1 : Int32) = 0 by decide), if_pos (show nI 0 = 0 from rfl), Option.bind_some, bl, hi, nI_1, mo hP V, hRa, un, e9, m_lesser]
          rfl
        · simp only [ml hP, m_isGroup' hP hRa hi, hti, if_true, if_neg (show ¬ (1 : Int32) = 0 by decide), if_neg (show ¬ nI 1 = 0 by decide), Option.bind_some, bl, hi, nI_1, mo hP V, hRa, un, e9, m_lesser]
          rfl)
    (fun a hI => by
      show F_X10_laysShares_L6 b (nI r) (nI lv) (nI 12) (P a) = _
      unfold F_X10_laysShares_L6
      rw [h12I, if_pos (nI_le (Nat.le_refl _) (by decide))])
    12 0 6000 U1 (by decide) (by decide) ⟨fun _ _ _ _ => rfl, fun g hg => by omega⟩
  have hR2 : Rel V (U2.1 1) := by rw [b1 1 (by decide) (by decide) (by decide)]; exact hR1
  obtain ⟨U3, a2, c1, c2⟩ := loop_inv (st := fun x => F_X10_laysShares_L76 b (nI r) x.1 x.2) (fun i (a : WV) => (nI i, P a)) (fun a => P a)
    (fun i a => (∀ c, c ≠ 14 → a.1 c = U2.1 c) ∧ (∀ u, u < 12 → a.1 14 u = smI (List.range i) (fun c => if thV V c && decide (V.1 2 c = nI u) then clm V lv c else 0)) ∧ 0 < i) 12
    (fun i a hi hI => by
      obtain ⟨i1, i2, i0⟩ := hI
      have hRa : Rel V (a.1 1) := by rw [i1 1 (by decide)]; exact hR2
      cases hti : thV V i
      · refine ⟨a, ?_, i1, fun u hu => ?_, by omega⟩
        · show F_X10_laysShares_L76 b (nI r) (nI i) (P a) = _
          unfold F_X10_laysShares_L76
          rw [h12I, if_neg (nI_ge hi (by decide))]
          simp [ml hP, m_isGroup' hP hRa hi, hti, bl, nI_1]
        · rw [smI_succ, hti, i2 u hu]; simp
      · obtain ⟨u, hu, hut, e, hpf⟩ := hO.par hi hti (by omega)
        have e13 : a.1 13 i = clm V lv i := by rw [i1 13 (by decide)]; exact (b2 i hi).1 hti
        refine ⟨sx a 14 (upd (a.1 14) u (a.1 14 u + clm V lv i)), ?_, fun c hc => by rw [sx_1, up_n _ _ hc]; exact i1 c hc, fun v hv => ?_, by omega⟩
        · show F_X10_laysShares_L76 b (nI r) (nI i) (P a) = _
          unfold F_X10_laysShares_L76
          rw [h12I, if_neg (nI_ge hi (by decide))]
          simp only [ml hP, m_isGroup' hP hRa hi, hti, if_true, if_neg (show ¬ (1 : Int32) = 0 by decide), Option.bind_some, bl, hi, hu, nI_1, m_parent hP hRa hi hti, e, un, e13]
        · show upd (a.1 14) u (a.1 14 u + clm V lv i) v = _
          rw [smI_succ, hti, e]
          by_cases ev : v = u
          · subst ev; rw [upd_s, i2 v hv]; simp
          · have : ¬ nI u = nI v := fun z => ev ((nI_eq (by omega) (by omega)).mp z).symm
            rw [upd_ne _ _ ev, i2 v hv]; simp [this])
    (fun a hI => by
      show F_X10_laysShares_L76 b (nI r) (nI 12) (P a) = _
      unfold F_X10_laysShares_L76
      rw [h12I, if_pos (nI_le (Nat.le_refl _) (by decide))])
    11 1 6000 U2 (by decide) (by decide) ⟨fun _ _ => rfl, fun u hu => by
      have : ¬ (-1 : Int32) = nI u := (nI_ne1 (by omega)).symm
      rw [smI_succ, (b2 u hu).2.1, hO.2.2.2.2.2.2.1]
      simp [this, smI], by decide⟩
  have hR3 : Rel V (U3.1 1) := by rw [c1 1 (by decide)]; exact hR2
  have h13 : ∀ g, g < 12 → thV V g = true → U3.1 13 g = clm V lv g := fun g hg htg => by rw [c1 13 (by decide)]; exact (b2 g hg).1 htg
  have h14 : ∀ g, g < 12 → U3.1 14 g = tog V lv g := fun g hg => c2.1 g hg
  have h15 : ShI V lv r U3 U3 := ⟨fun _ _ => rfl, fun g hg => Or.inl (by rw [c1 15 (by decide)]; exact (b2 g hg).2.2)⟩
  obtain ⟨x, a3, d1⟩ := loop_wH (st := fun x => F_X10_laysShares_L117 b (nI r) x.1 x.2) (fun m x => ∃ a, x.2 = P a ∧ ShI V lv r U3 a ∧ ((x.1 = 1 ∧ m = ShN a + 1) ∨ (x.1 = 0 ∧ m = 0 ∧ ShC V r a 12))) (fun h => ∃ a, h = P a ∧ ShI V lv r U3 a ∧ ShC V r a 12)
    (fun m x hI => by
      obtain ⟨a, e1, e2, e3⟩ := hI
      rcases e3 with ⟨e3, e4⟩ | ⟨e3, e4, e5⟩
      · left
        obtain ⟨m', a', p1, p2, p3⟩ := m_shPass hP hO hL hr hR3 h13 h14 a e2
        refine ⟨(m', P a'), if m' = 1 then ShN a' + 1 else 0, ?_, ?_, a', rfl, p2, ?_⟩
        · show F_X10_laysShares_L117 b (nI r) x.1 x.2 = _
          unfold F_X10_laysShares_L117
          rw [e3, e1, if_neg (by decide), p1]; rfl
        · rcases p3 with ⟨p3, -⟩ | ⟨p3, p4⟩
          · rw [p3, if_neg (by decide)]; omega
          · rw [p3, if_pos rfl]; omega
        · rcases p3 with ⟨p3, p4, p5⟩ | ⟨p3, p4⟩
          · right; exact ⟨p3, by rw [p3, if_neg (by decide)], by rw [p4]; exact p5⟩
          · left; exact ⟨p3, by rw [p3, if_pos rfl]⟩
      · right
        refine ⟨P a, ?_, a, rfl, e2, e5⟩
        show F_X10_laysShares_L117 b (nI r) x.1 x.2 = _
        unfold F_X10_laysShares_L117
        rw [e3, e1, if_pos rfl])
    6000 (ShN U3 + 1) (1, P U3) (by have := cntN_le 12 (fun g => decide (U3.1 15 g = -1)); unfold ShN; omega) ⟨U3, rfl, h15, Or.inl ⟨rfl, rfl⟩⟩
  obtain ⟨U4, rfl, d2, d3⟩ := d1
  refine ⟨U4, ?_, ?_, ?_, ?_⟩
  · unfold F_X10_laysShares
    have a1' : loopF (fun x => F_X10_laysShares_L6 b (nI r) (nI lv) x.1 x.2) 6000 (0, P U1) = _ := a1
    have a2' : loopF (fun x => F_X10_laysShares_L76 b (nI r) x.1 x.2) 6000 (1, P U2) = _ := a2
    simp only [ml hP, t1, Option.bind_some, a1', a2', a3]
  · intro c hc
    rw [d2.1 c (by omega), c1 c (by omega), b1 c (by omega) (by omega) (by omega), t2 c (by omega)]
  · intro g hg htg
    rw [d2.1 9 (by decide), c1 9 (by decide), b1 9 (by decide) (by decide) (by decide), d2.1 10 (by decide), c1 10 (by decide), b1 10 (by decide) (by decide) (by decide), d2.1 11 (by decide), c1 11 (by decide), b1 11 (by decide) (by decide) (by decide), d2.1 12 (by decide), c1 12 (by decide), b1 12 (by decide) (by decide) (by decide)]
    exact t3 g hg htg
  · obtain ⟨rk, -, hk⟩ := hO.rank
    have key : ∀ (m g : Nat), rk g < m → g < 12 → thV V g = true → blw (pfV V) r g = true → g ≠ r → U4.1 15 g = shr V lv r g := by
      intro m
      induction m with
      | zero => intro g h; exact absurd h (Nat.not_lt_zero _)
      | succ m ih =>
        intro g hm hg htg hb hne
        rcases d2.2 g hg with q | q
        · have g0 : g ≠ 0 := by
            intro e; subst e
            rw [hO.blw0] at hb
            exact hne (of_decide_eq_true hb).symm
          obtain ⟨u, hu, hut, e, hpf⟩ := hO.par hg htg g0
          obtain ⟨y, hy1, hy2, hy3, hy4⟩ := hk.2.2.2 g hg htg g0
          rw [hpf] at hy1
          cases hy1
          obtain ⟨z1, z2⟩ := d3 g (by omega) hg htg hne q u hpf
          have hbu : blw (pfV V) r u = true := by
            rw [hO.blwP hg htg hpf] at hb
            simpa [Ne.symm hne] using hb
          rw [ih u (by omega) hu hut hbu z1] at z2
          exact absurd z2 (m1_shr hO hL hu hut)
        · exact q.2.2.2
    exact fun g hg htg hb hne => key _ g (Nat.lt_succ_self _) hg htg hb hne
theorem m_spareOf (hP : LM b P) (hR : Rel V (U.1 1)) (hO : OrdOK V n o) {lv r k : Nat} (hr : r < 12) (ht : thV V r = true) (hk : k < 2) (hT : TotS V U) (hS : ShS V lv r U) {g : Nat} (hg : g < 12) (htg : thV V g = true) (hb : blw (pfV V) r g = true) : F_X10_spareOf (P U) b (nI g) (nI r) (nI k) = some (sprF V lv r k g, P U) := by
  have hk' : k = 0 ∨ k = 1 := by omega
  have hTr := hO.tree
  let a0 : Int32 := if k = 0 then mnI (pgIn V (nI g) k) (V.1 0 5 - V.1 16 0) else pgIn V (nI g) k
  let f1 : Int32 → Nat → Int32 := fun a x => if blw (pfV V) r x && decide (x ≠ r) then mnI a (V.1 15 x - shr V lv r x) else a
  have hskip : ∀ (l : List Nat) (a : Int32), (∀ x ∈ l, x = r ∨ blw (pfV V) r x = false) → l.foldl f1 a = a := by
    intro l
    induction l with
    | nil => intro a _; rfl
    | cons y l ih =>
      intro a hy
      rw [List.foldl_cons]
      have : f1 a y = a := by
        rcases hy y List.mem_cons_self with e | e
        · simp [f1, e]
        · simp [f1, e]
      rw [this]; exact ih a (fun x hx => hy x (List.mem_cons_of_mem _ hx))
  obtain ⟨q1, l1, l2⟩ := loop_pH (st := fun x => F_X10_spareOf_L41 b (nI g) (nI r) (nI k) x.1 x.2.1 x.2.2) (fun l (a : Int32) => (a, hd l, P U)) (fun l a => Sfx (thV V) (pfV V) l ∧ r ∈ l ∧ (pth (pfV V) g).foldl f1 a0 = l.foldl f1 a) (fun y => y = ((pth (pfV V) g).foldl f1 a0, P U))
    (fun x l a hI => by
      obtain ⟨hs, hm, hf⟩ := hI
      obtain ⟨hx, htx, hp, hs', hl⟩ := hs.cons hTr
      by_cases e : x = r
      · right
        refine ⟨(a, P U), ?_, ?_⟩
        · show F_X10_spareOf_L41 b (nI g) (nI r) (nI k) a (nI x) (P U) = _
          unfold F_X10_spareOf_L41
          rw [if_pos (by rw [e])]
        · rw [hf, hskip]
          intro y hy
          by_cases ey : y = r
          · exact Or.inl ey
          · right
            rw [hp, e] at hy
            exact pth_up hO hr ht y hy ey
      · left
        have hrl : r ∈ l := by
          rcases List.mem_cons.mp hm with q | q
          · exact absurd q.symm e
          · exact q
        have hbx : blw (pfV V) r x = true := by unfold blw; rw [← hp]; exact decide_eq_true hm
        have hfx : f1 a x = mnI a (V.1 15 x - shr V lv r x) := by simp [f1, hbx, e]
        refine ⟨mnI a (V.1 15 x - shr V lv r x), ?_, hs', hrl, by rw [hf, List.foldl_cons, hfx]⟩
        show F_X10_spareOf_L41 b (nI g) (nI r) (nI k) a (nI x) (P U) = _
        unfold F_X10_spareOf_L41
        rw [if_neg (fun z => e ((nI_eq (by omega) (by omega)).mp z))]
        simp only [ml hP, hx, Option.bind_some, (hT x hx htx).1, hS x hx htx hbx e, m_lesser, m_parent hP hR hx htx, un, hO.hdv hs])
    (fun a hI => absurd hI.2.1 (by simp))
    (pth (pfV V) g) 6000 a0 (by have := pth_len (pfV V) g; omega) ⟨Sfx.pth hg htg, of_decide_eq_true hb, rfl⟩
  have l1' : loopF (fun x => F_X10_spareOf_L41 b (nI g) (nI r) (nI k) x.1 x.2.1 x.2.2) 6000 (a0, nI g, P U) = some ((pth (pfV V) g).foldl f1 a0, P U) := by
    rw [← l2, ← l1]
    show _ = loopF _ 6000 (a0, hd (pth (pfV V) g), P U)
    rw [pth_cons hTr hg htg]; rfl
  have l3 : loopF (fun x => F_X10_spareOf_L83 b (nI k) x.1 x.2.1 x.2.2) 6000 ((pth (pfV V) g).foldl f1 a0, nI g, P U) = some (sprF V lv r k g, P U) := by
    rcases hk' with rfl | rfl
    · have h := loop_list (st := fun x => F_X10_spareOf_L83 b (nI 0) x.1 x.2.1 x.2.2) (fun l (a : Int32) => (a, hd l, P U)) (fun a x => mnI a (mxI 0 (V.1 10 x - V.1 16 x))) (fun a => (a, P U)) (fun l _ => Sfx (thV V) (pfV V) l)
        (fun x l a hs => by
          obtain ⟨hx, htx, hp, hs', hl⟩ := hs.cons hTr
          refine ⟨?_, hs'⟩
          show F_X10_spareOf_L83 b (nI 0) a (nI x) (P U) = _
          unfold F_X10_spareOf_L83
          rw [if_neg (nI_ne1 (by omega)), if_pos (show nI 0 = 0 from rfl)]
          simp only [ml hP, mo hP V, hR, hx, htx, Option.bind_some, un, (hT x hx htx).2.2.2, m_lesser, m_greater, m_parent hP hR hx htx, hO.hdv hs])
        (fun a _ => by
          show F_X10_spareOf_L83 b (nI 0) a (-1) (P U) = _
          unfold F_X10_spareOf_L83
          rw [if_pos rfl])
        (pth (pfV V) g) 6000 ((pth (pfV V) g).foldl f1 a0) (by have := pth_len (pfV V) g; omega) (Sfx.pth hg htg)
      have h' := h.1
      have e : sprF V lv r 0 g = (pth (pfV V) g).foldl (fun a x => mnI a (mxI 0 (V.1 10 x - V.1 16 x))) ((pth (pfV V) g).foldl f1 a0) := rfl
      rw [e, ← h']
      show _ = loopF _ 6000 (_, hd (pth (pfV V) g), P U)
      have ehd : hd (pth (pfV V) g) = nI g := by rw [pth_cons hTr hg htg]; rfl
      rw [ehd]
    · show loopF _ (5999 + 1) _ = _
      rw [loopF]
      have : F_X10_spareOf_L83 b (nI 1) ((pth (pfV V) g).foldl f1 a0) (nI g) (P U) = some (.inr ((pth (pfV V) g).foldl f1 a0, P U)) := by
        unfold F_X10_spareOf_L83
        rw [if_neg (nI_ne1 (by omega)), if_neg (show ¬ nI 1 = 0 by decide)]
      rw [this]; rfl
  unfold F_X10_spareOf
  have ht0 : thV V 0 = true := by
    have := hO.th (i := 0) (by have := hO.1; omega)
    rw [hO.2.2.2.1] at this; exact this
  have e0 : (if nI k = 1 then (gR (P U) b 10 12).bind fun a9 => (aI (P U) a9 (nI g)).bind fun v10 => some (v10 : Int32) else (gR (P U) b 10 11).bind fun a2 => (aI (P U) a2 (nI g)).bind fun v3 => (gR (P U) b 10 1).bind fun a4 => (aI (P U) a4 5).bind fun v5 => (gR (P U) b 10 13).bind fun a6 => (aI (P U) a6 0).bind fun v7 => (F_X10_lesser (P U) v3 (v5 - v7)).bind fun v8 => some (v8 : Int32)) = some a0 := by
    rcases hk' with rfl | rfl
    · rw [if_neg (show ¬ nI 0 = 1 by decide)]
      simp only [ml hP, ml0 hP, hg, Option.bind_some, m_lesser, (hT g hg htg).2.1, (hT 0 (by decide) ht0).2.2.2, hR.1.2.2.2.2.2.1]
      have ha0 : a0 = mnI (pgIn V (nI g) 0) (V.1 0 5 - V.1 16 0) := if_pos rfl
      rw [ha0]
    · rw [if_pos (show nI 1 = 1 from rfl)]
      simp only [ml hP, hg, Option.bind_some, (hT g hg htg).2.2.1]
      have ha0 : a0 = pgIn V (nI g) 1 := if_neg (by decide)
      rw [ha0]
  rw [e0, Option.bind_some, l1', Option.bind_some]
  simp only [bl]
  rw [l3]; rfl
theorem m_nextOf (hP : LM b P) (hR : Rel V (U.1 1)) (hC : Cor V n o) (hL : LimOK V) {lv r k : Nat} (hr : r < 12) (ht : thV V r = true) (hlv : lv < 2) (hk : k < 2) : ∃ U', F_X10_nextOf (P U) b (nI r) (nI lv) (nI k) = some ((nxtF V lv r k).1, P U') ∧ KeepS U U' ∧ TotS V U' ∧ ShS V lv r U' := by
  obtain ⟨hO, hH, hTo, hOu⟩ := id hC
  obtain ⟨U1, s1, s2, s3, s4⟩ := m_shares hP hR hC hL hr ht hlv
  have hR1 := s2.rel hR
  refine ⟨U1, ?_, s2, s3, s4⟩
  have h := loop_rng (st := fun x => F_X10_nextOf_L15 b (nI r) (nI k) x.1 x.2.1 x.2.2.1 x.2.2.2) (fun i (a : Int32 × Int32) => (a.1, a.2, nI i, P U1)) (fun a g => if (thV V g && blw (pfV V) r g) && decide (¬ sprF V lv r k g ≤ a.2) then (nI g, sprF V lv r k g) else a) (fun a => (a.1, P U1)) 12
    (fun i a hi => by
      show F_X10_nextOf_L15 b (nI r) (nI k) a.1 a.2 (nI i) (P U1) = _
      unfold F_X10_nextOf_L15
      rw [h12I, if_neg (nI_ge hi (by decide))]
      simp only [ml hP, m_isGroup' hP hR1 hi, Option.bind_some]
      cases hti : thV V i
      · simp [bl, nI_1]
      · simp only [if_true, if_neg (show ¬ (1 : Int32) = 0 by decide), m_isBelow hP hR1 hO hi hti (show r < 2 ^ 31 by omega), Option.bind_some, un]
        cases hb : blw (pfV V) r i
        · simp [bl, nI_1]
        · simp only [if_true, if_neg (show ¬ (1 : Int32) = 0 by decide), ml hP, m_spareOf hP hR1 hO hr ht hk s3 s4 hi hti hb, Option.bind_some]
          by_cases hc : a.2 < sprF V lv r k i
          · have hn : ¬ sprF V lv r k i ≤ a.2 := fun z => by have := ti_le.mp z; have := ti_lt.mp hc; omega
            simp only [if_pos hc, hn, bl, nI_1, Option.bind_some, un, ml hP, m_spareOf hP hR1 hO hr ht hk s3 s4 hi hti hb, not_false_eq_true, decide_true, Bool.and_self, if_true]
          · have hn : sprF V lv r k i ≤ a.2 := Int32.not_lt.mp hc
            simp only [un, if_neg hc, hn, bl, nI_1, not_true_eq_false, decide_false, Bool.and_false, if_false, Bool.false_eq_true])
    (fun a => by
      show F_X10_nextOf_L15 b (nI r) (nI k) a.1 a.2 (nI 12) (P U1) = _
      unfold F_X10_nextOf_L15
      rw [h12I, if_pos (nI_le (Nat.le_refl _) (by decide))])
    (n := 6000) (by decide) (-1, 0)
  unfold F_X10_nextOf
  have h' : loopF (fun x => F_X10_nextOf_L15 b (nI r) (nI k) x.1 x.2.1 x.2.2.1 x.2.2.2) 6000 (-1, 0, 0, P U1) = _ := h
  simp only [ml hP, s1, Option.bind_some, h']
  rfl
end MSHARE
