/-! the model moves -/
section MMOVE
variable {V U : WV} {n : Nat} {o : Nat → Nat} {b : Nat} {P : WV → Hp}
theorem Rel.home {M : Nat → Int32} (h : Rel V M) {p g : Nat} (hp : p < 16) (ht : phV V p = true) (hg : g < 12) : Rel (reloV V p g) (upd M (415 + 8 * p + 0) (nI g)) := by
  obtain ⟨h1, h2, h3, h4, h5⟩ := h
  have hph : phV (reloV V p g) = phV V := by
    funext x
    show decide (upd (V.1 24) p (nI g) x ≠ -1) = decide (V.1 24 x ≠ -1)
    by_cases e : x = p
    · subst e
      rw [upd_s]
      have h1 : V.1 24 x ≠ -1 := by simpa [phV] using ht
      rw [decide_eq_true (nI_ne1 (by omega) : nI g ≠ -1), decide_eq_true h1]
    · rw [upd_ne _ _ e]
  have hc : ∀ c, c ≠ 15 → c ≠ 16 → c ≠ 24 → (reloV V p g).1 c = V.1 c := fun c a1 a2 a3 => by
    unfold reloV reD reC reB reA
    rw [sx_1, up_n _ _ a2, sx_1, up_n _ _ a1, sx_1, up_n _ _ a3, sx_1, up_n _ _ a2, sx_1, up_n _ _ a1]
  refine ⟨?_, ?_, ?_, ?_, ?_⟩
  · unfold RelS at h1 ⊢
    rw [thV_same (V := V) (V' := reloV V p g) rfl, hph, hc 0 (by decide) (by decide) (by decide), hc 52 (by decide) (by decide) (by decide), upd_ne _ _ (by omega), upd_ne _ _ (by omega), upd_ne _ _ (by omega), upd_ne _ _ (by omega), upd_ne _ _ (by omega), upd_ne _ _ (by omega), upd_ne _ _ (by omega)]; exact h1
  · intro x f hx htx hf hcf
    obtain ⟨c1, c2, c3, c4, c0, c52, c24, c9⟩ := cg_f1 f hf
    rw [hc _ c3 c4 c24, upd_ne _ _ (by omega)]
    exact h2 x f hx htx hf hcf
  · intro x k hx htx hk
    rw [upd_ne _ _ (by omega), upd_ne _ _ (by omega)]
    exact h3 x k hx htx hk
  · intro x f hx htx hf
    rw [hph] at htx
    by_cases ef : f = 0
    · subst ef
      show _ = upd (V.1 24) p (nI g) x
      by_cases ex : x = p
      · subst ex; rw [upd_s, upd_s]
      · rw [upd_ne _ _ (by omega), upd_ne _ _ ex]; exact h4 x 0 hx htx hf
    · obtain ⟨c1, c2, c3, c4, c0, c52, c24, c9⟩ := cp_f1 f hf
      rw [hc _ c3 c4 (fun e => ef (c9 e)), upd_ne _ _ (by omega)]
      exact h4 x f hx htx hf
  · intro i k hi hk
    rw [hc _ (by omega) (by omega) (by omega), upd_ne _ _ (by omega)]
    exact h5 i k hi hk
theorem m_mvJoin (hP : LM b P) (hR : Rel V (U.1 1)) (hC : Cor V n o) (hN : Num V) {p g : Nat} (hp : p < 16) (ht : phV V p = true) (hg : g < 12) (htg : thV V g = true) (z : Int32) : ∃ U', loopF (fun x => F_X10_move_L44 b (nI p) z (nI (hom V p)) x.1 x.2.1 x.2.2) 6000 (1, nI g, P U) = some (if (newP (pfV V) g (hom V p)).all (rmB V p) then 1 else 0, P U') ∧ KeepT U U' := by
  obtain ⟨g1, g2, g3⟩ := hC.2.1.at hp ht
  have hT := hC.1.tree
  obtain ⟨y, y1, U', y2, y3⟩ := loop_pH (st := fun x => F_X10_move_L44 b (nI p) z (nI (hom V p)) x.1 x.2.1 x.2.2) (fun l (a : Bool × WV) => (if a.1 then 1 else 0, hd l, P a.2))
    (fun l a => Sfx (thV V) (pfV V) l ∧ KeepT U a.2 ∧ (newP (pfV V) g (hom V p)).all (rmB V p) = (a.1 && (l.takeWhile (fun x => !blw (pfV V) x (hom V p))).all (rmB V p)))
    (fun y => ∃ U', KeepT U U' ∧ y = (if (newP (pfV V) g (hom V p)).all (rmB V p) then 1 else 0, P U'))
    (fun x l a hI => by
      obtain ⟨hs, hk, hf⟩ := hI
      obtain ⟨hx, htx, hp', hs', hl⟩ := hs.cons hT
      have hRa := hk.rel hR
      have hib := m_isBelow hP hRa hC.1 g1 g2 (r := x) (by omega)
      cases hb : blw (pfV V) x (hom V p)
      · left
        obtain ⟨U1, r1, r2⟩ := m_hasRoom hP hRa hC hN hp ht hx htx
        have hR1 := r2.rel hRa
        refine ⟨(a.1 && rmB V p x, U1), ?_, hs', hk.trans r2, by rw [hf, List.takeWhile_cons]; simp [hb, Bool.and_assoc]⟩
        show F_X10_move_L44 b (nI p) z (nI (hom V p)) (if a.1 then 1 else 0) (nI x) (P a.2) = _
        unfold F_X10_move_L44
        rw [if_neg (nI_ne1 (by omega))]
        simp only [ml hP, hib, hb, Bool.false_eq_true, if_false, if_true, Option.bind_some, un, r1, bl, m_parent hP hR1 hx htx, hC.1.hdv hs]
        cases a.1 <;> cases rmB V p x <;> rfl
      · right
        refine ⟨(if a.1 then 1 else 0, P a.2), ?_, a.2, hk, by rw [hf, List.takeWhile_cons]; simp [hb]⟩
        show F_X10_move_L44 b (nI p) z (nI (hom V p)) (if a.1 then 1 else 0) (nI x) (P a.2) = _
        unfold F_X10_move_L44
        rw [if_neg (nI_ne1 (by omega))]
        simp only [ml hP, hib, hb, if_true, Option.bind_some, un, if_neg (show ¬ (1 : Int32) = 0 by decide)])
    (fun a hI => by
      refine ⟨(if a.1 then 1 else 0, P a.2), ?_, a.2, hI.2.1, by rw [hI.2.2]; simp⟩
      show F_X10_move_L44 b (nI p) z (nI (hom V p)) (if a.1 then 1 else 0) (-1) (P a.2) = _
      unfold F_X10_move_L44
      rw [if_pos rfl])
    (pth (pfV V) g) 6000 (true, U) (by have := pth_len (pfV V) g; omega) ⟨Sfx.pth hg htg, KeepT.refl U, by rw [Bool.true_and]; rfl⟩
  refine ⟨U', ?_, y2⟩
  rw [← y3, ← y1]
  show _ = loopF _ 6000 (1, hd (pth (pfV V) g), P U)
  rw [pth_cons hT hg htg]; rfl
/-- once it can't be, it goes on to the end all the same -/
theorem m_mvRest (hP : LM b P) {p r : Nat} {d z : Int32} (h0 : 0 ≤ d.toInt) (h9 : d.toInt ≤ 999) (hr : r < 12) : ∀ (l : List Nat) (N : Nat) (V U : WV), TI V n o → MaxOK V → Sfx (thV V) (pfV V) l → thV V r = true → Rel V (U.1 1) → l.length < N → ∃ U', loopF (fun x => F_X10_move_L105 b (nI p) z (nI r) d x.1 x.2.1 x.2.2) N (0, hd l, P U) = some (0, P U') ∧ Keep U U'
  | [], 0, _, _, _, _, _, _, _, h => absurd h (Nat.not_lt_zero _)
  | [], N + 1, V, U, _, _, _, _, hR, _ => by
    refine ⟨U, ?_, Keep.refl U⟩
    rw [loopF]
    have : F_X10_move_L105 b (nI p) z (nI r) d 0 (-1) (P U) = some (.inr (0, P U)) := by
      unfold F_X10_move_L105
      rw [if_pos rfl]
    show (F_X10_move_L105 b (nI p) z (nI r) d 0 (-1) (P U)).bind _ = _
    rw [this]; rfl
  | x :: l, 0, _, _, _, _, _, _, _, h => absurd h (Nat.not_lt_zero _)
  | x :: l, N + 1, V, U, hI, hM, hs, htr, hR, hN => by
    obtain ⟨hx, htx, hp', hs', hl⟩ := hs.cons hI.1.1.tree
    have hib := m_isBelow hP hR hI.1.1 hr htr (r := x) (by omega)
    cases hb : blw (pfV V) x r
    · obtain ⟨m1, m2, m3⟩ := mF_I hI hM hx htx h0 h9
      obtain ⟨U1, a1, a2, -⟩ := m_totalOf hP hR hI.1 hx htx
      have hR1 := a2.rel hR
      have a3 : F_X10_of (P U1) b (nI x) 3 0 = some (V.1 8 x, P U1) := m_of (f := 3) hP hR1 hx htx (by decide) (by decide)
      by_cases c : 0 < mF V x d
      · have c' := ti_lt.mp c
        rw [ti_0] at c'
        have hIe := hI.ev (c := 21) (by decide) (by decide) x
        obtain ⟨y, hT⟩ := tk_ex hIe (r := x) m3
        obtain ⟨b1, b2, b3, -, -, -⟩ := tk_post hIe m3 hT
        have fr1 : Fr V y.1 := (fr_ev V (by decide) (by decide) x).trans b2.fr
        have htx1 : thV y.1 x = true := by rw [fr1.th]; exact htx
        have e1 : F_X10_of (P U1) b (nI x) 13 1 = some (V.1 21 x + 1, P (sx U1 1 (upd (U1.1 1) (7 + 34 * x + 13) (V.1 21 x + 1)))) := m_ofD (f := 13) hP hR1 hx htx (by decide) (by decide) 1
        have hRa : Rel (evA V 21 x) ((sx U1 1 (upd (U1.1 1) (7 + 34 * x + 13) (V.1 21 x + 1))).1 1) := hR1.evG (k := 2) (by decide) hx
        obtain ⟨U2, d1, d2, d3⟩ := m_takes hP hRa hIe hx htx m3 (by omega) hT
        have d1' : F_X10_takes (P (sx U1 1 (upd (U1.1 1) (7 + 34 * x + 13) (V.1 21 x + 1)))) b (nI x) (V.1 15 x + d - V.1 8 x) = some (y.2, P U2) := d1
        obtain ⟨U3, f1, f2, -⟩ := m_totalOf hP d3 b1.1 hx htx1
        have hR3 := f2.rel d3
        have f3 : F_X10_of (P U3) b (nI x) 3 0 = some (y.1.1 8 x, P U3) := m_of (f := 3) hP hR3 hx htx1 (by decide) (by decide)
        obtain ⟨U', g1, g2⟩ := m_mvRest (p := p) (z := z) hP h0 h9 hr l N y.1 U3 b1 (hM.le b3 fr1) (by rw [fr1.th, fr1.pf]; exact hs') (by rw [fr1.th]; exact htr) hR3 (by simp at hN; omega)
        have hpar : F_X10_parentOf (P U3) b (nI x) = some (hd l, P U3) := by rw [m_parent hP hR3 hx htx1, fr1.1 2 (by decide), hI.1.1.hdv hs]
        refine ⟨U', ?_, a2.keep.trans ((Keep.up U1 (by omega) _).trans (d2.trans (f2.keep.trans g2)))⟩
        rw [loopF]
        have : F_X10_move_L105 b (nI p) z (nI r) d 0 (nI x) (P U) = some (.inl (0, hd l, P U3)) := by
          unfold F_X10_move_L105
          rw [if_neg (nI_ne1 (by omega))]
          have c2 : 0 < V.1 15 x + d - V.1 8 x := c
          simp only [ml hP, hib, hb, Bool.false_eq_true, if_false, if_true, Option.bind_some, un, a1, a3, bl, if_pos c2, e1, d1', f1, f3]
          by_cases hq : y.1.1 8 x < y.1.1 15 x + d
          · simp only [if_pos hq, Option.bind_some, hpar, un, ml hP]; rfl
          · simp only [if_neg hq, Option.bind_some, hpar, un, ml hP]; rfl
        show (F_X10_move_L105 b (nI p) z (nI r) d 0 (nI x) (P U)).bind _ = _
        rw [this]; exact g1
      · obtain ⟨U', g1, g2⟩ := m_mvRest (p := p) (z := z) hP h0 h9 hr l N V U1 hI hM hs' htr hR1 (by simp at hN; omega)
        refine ⟨U', ?_, a2.keep.trans g2⟩
        rw [loopF]
        have : F_X10_move_L105 b (nI p) z (nI r) d 0 (nI x) (P U) = some (.inl (0, hd l, P U1)) := by
          unfold F_X10_move_L105
          rw [if_neg (nI_ne1 (by omega))]
          have c2 : ¬ 0 < V.1 15 x + d - V.1 8 x := c
          simp only [ml hP, hib, hb, Bool.false_eq_true, if_false, if_true, Option.bind_some, un, a1, a3, bl, if_neg c2, m_parent hP hR1 hx htx, hI.1.1.hdv hs]
        show (F_X10_move_L105 b (nI p) z (nI r) d 0 (nI x) (P U)).bind _ = _
        rw [this]; exact g1
    · refine ⟨U, ?_, Keep.refl U⟩
      rw [loopF]
      have : F_X10_move_L105 b (nI p) z (nI r) d 0 (nI x) (P U) = some (.inr (0, P U)) := by
        unfold F_X10_move_L105
        rw [if_neg (nI_ne1 (by omega))]
        simp only [ml hP, hib, hb, if_true, Option.bind_some, un, if_neg (show ¬ (1 : Int32) = 0 by decide)]
      show (F_X10_move_L105 b (nI p) z (nI r) d 0 (nI x) (P U)).bind _ = _
      rw [this]; rfl
theorem m_mv (hP : LM b P) {p r : Nat} {d z : Int32} (h0 : 0 ≤ d.toInt) (h9 : d.toInt ≤ 999) (hr : r < 12) {res : Bool × WV} : ∀ (l : List Nat) (N : Nat) (V U : WV), MvR d (l.takeWhile (fun x => !blw (pfV V) x r)) V res → TI V n o → MaxOK V → Sfx (thV V) (pfV V) l → thV V r = true → Rel V (U.1 1) → l.length < N → ∃ U', loopF (fun x => F_X10_move_L105 b (nI p) z (nI r) d x.1 x.2.1 x.2.2) N (1, hd l, P U) = some (if res.1 then 1 else 0, P U') ∧ Keep U U' ∧ (res.1 = true → Rel res.2 (U'.1 1))
  | [], 0, _, _, _, _, _, _, _, _, h => absurd h (Nat.not_lt_zero _)
  | [], N + 1, V, U, hv, _, _, _, _, hR, _ => by
    have h' : res = (true, V) := hv
    subst h'
    refine ⟨U, ?_, Keep.refl U, fun _ => hR⟩
    rw [loopF]
    have : F_X10_move_L105 b (nI p) z (nI r) d 1 (-1) (P U) = some (.inr (1, P U)) := by
      unfold F_X10_move_L105
      rw [if_pos rfl]
    show (F_X10_move_L105 b (nI p) z (nI r) d 1 (-1) (P U)).bind _ = _
    rw [this]; rfl
  | x :: l, 0, _, _, _, _, _, _, _, _, h => absurd h (Nat.not_lt_zero _)
  | x :: l, N + 1, V, U, hv, hI, hM, hs, htr, hR, hN => by
    obtain ⟨hx, htx, hp', hs', hl⟩ := hs.cons hI.1.1.tree
    have hib := m_isBelow hP hR hI.1.1 hr htr (r := x) (by omega)
    cases hb : blw (pfV V) x r
    · have htw : (x :: l).takeWhile (fun x => !blw (pfV V) x r) = x :: l.takeWhile (fun x => !blw (pfV V) x r) := by
        rw [List.takeWhile_cons]; simp [hb]
      rw [htw] at hv
      unfold MvR at hv
      obtain ⟨m1, m2, m3⟩ := mF_I hI hM hx htx h0 h9
      obtain ⟨U1, a1, a2, -⟩ := m_totalOf hP hR hI.1 hx htx
      have hR1 := a2.rel hR
      have a3 : F_X10_of (P U1) b (nI x) 3 0 = some (V.1 8 x, P U1) := m_of (f := 3) hP hR1 hx htx (by decide) (by decide)
      by_cases c : V.1 15 x + d ≤ V.1 8 x
      · rw [if_pos c] at hv
        obtain ⟨U', g1, g2, g3⟩ := m_mv hP h0 h9 hr l N V U1 hv hI hM hs' htr hR1 (by simp at hN; omega)
        refine ⟨U', ?_, a2.keep.trans g2, g3⟩
        rw [loopF]
        have : F_X10_move_L105 b (nI p) z (nI r) d 1 (nI x) (P U) = some (.inl (1, hd l, P U1)) := by
          unfold F_X10_move_L105
          rw [if_neg (nI_ne1 (by omega))]
          have c2 : ¬ 0 < V.1 15 x + d - V.1 8 x := fun q => by
            have q1 := ti_lt.mp q
            have q2 : (mF V x d).toInt = (V.1 15 x + d - V.1 8 x).toInt := rfl
            have := ti_le.mp c
            rw [ti_0] at q1
            omega
          simp only [ml hP, hib, hb, Bool.false_eq_true, if_false, if_true, Option.bind_some, un, a1, a3, bl, if_neg c2, m_parent hP hR1 hx htx, hI.1.1.hdv hs]
        show (F_X10_move_L105 b (nI p) z (nI r) d 1 (nI x) (P U)).bind _ = _
        rw [this]; exact g1
      · rw [if_neg c] at hv
        obtain ⟨V1, t, hT, hv2⟩ := hv
        have cI : ¬ (V.1 15 x + d).toInt ≤ (V.1 8 x).toInt := fun q => c (ti_le.mpr q)
        have hIe := hI.ev (c := 21) (by decide) (by decide) x
        obtain ⟨b1, b2, b3, -, -, -⟩ := tk_post hIe m3 hT
        have fr1 : Fr V V1 := (fr_ev V (by decide) (by decide) x).trans b2.fr
        have htx1 : thV V1 x = true := by rw [fr1.th]; exact htx
        have b1' : TI V1 n o := b1
        have e1 : F_X10_of (P U1) b (nI x) 13 1 = some (V.1 21 x + 1, P (sx U1 1 (upd (U1.1 1) (7 + 34 * x + 13) (V.1 21 x + 1)))) := m_ofD (f := 13) hP hR1 hx htx (by decide) (by decide) 1
        have hRa : Rel (evA V 21 x) ((sx U1 1 (upd (U1.1 1) (7 + 34 * x + 13) (V.1 21 x + 1))).1 1) := hR1.evG (k := 2) (by decide) hx
        obtain ⟨U2, d1, d2, d3⟩ := m_takes hP hRa hIe hx htx m3 (by omega) hT
        have d1' : F_X10_takes (P (sx U1 1 (upd (U1.1 1) (7 + 34 * x + 13) (V.1 21 x + 1)))) b (nI x) (V.1 15 x + d - V.1 8 x) = some (t, P U2) := d1
        obtain ⟨U3, f1, f2, -⟩ := m_totalOf hP d3 b1.1 hx htx1
        have hR3 := f2.rel d3
        have f3 : F_X10_of (P U3) b (nI x) 3 0 = some (V1.1 8 x, P U3) := m_of (f := 3) hP hR3 hx htx1 (by decide) (by decide)
        have hpar : F_X10_parentOf (P U3) b (nI x) = some (hd l, P U3) := by rw [m_parent hP hR3 hx htx1, fr1.1 2 (by decide), hI.1.1.hdv hs]
        have c2 : 0 < V.1 15 x + d - V.1 8 x := ti_lt.mpr (by
          have q2 : (mF V x d).toInt = (V.1 15 x + d - V.1 8 x).toInt := rfl
          rw [ti_0]; omega)
        have hkk : Keep U U3 := a2.keep.trans ((Keep.up U1 (by omega) _).trans (d2.trans f2.keep))
        by_cases k1 : V1.1 15 x + d ≤ V1.1 8 x
        · rw [if_pos k1] at hv2
          have k1' : ¬ V1.1 8 x < V1.1 15 x + d := fun q => by have := ti_le.mp k1; have := ti_lt.mp q; omega
          obtain ⟨U', g1, g2, g3⟩ := m_mv hP h0 h9 hr l N V1 U3 (by rw [fr1.pf]; exact hv2) b1' (hM.le b3 fr1) (by rw [fr1.th, fr1.pf]; exact hs') (by rw [fr1.th]; exact htr) hR3 (by simp at hN; omega)
          refine ⟨U', ?_, hkk.trans g2, g3⟩
          rw [loopF]
          have : F_X10_move_L105 b (nI p) z (nI r) d 1 (nI x) (P U) = some (.inl (1, hd l, P U3)) := by
            unfold F_X10_move_L105
            rw [if_neg (nI_ne1 (by omega))]
            simp only [ml hP, hib, hb, Bool.false_eq_true, if_false, if_true, Option.bind_some, un, a1, a3, bl, if_pos c2, e1, d1', f1, f3, if_neg k1', hpar]
            rfl
          show (F_X10_move_L105 b (nI p) z (nI r) d 1 (nI x) (P U)).bind _ = _
          rw [this]; exact g1
        · rw [if_neg k1] at hv2
          have k1' : V1.1 8 x < V1.1 15 x + d := Int32.not_le.mp k1
          obtain ⟨U', g1, g2⟩ := m_mvRest hP (p := p) (z := z) h0 h9 hr l N V1 U3 b1' (hM.le b3 fr1) (by rw [fr1.th, fr1.pf]; exact hs') (by rw [fr1.th]; exact htr) hR3 (by simp at hN; omega)
          subst hv2
          refine ⟨U', ?_, hkk.trans g2, fun e => by cases e⟩
          rw [loopF]
          have : F_X10_move_L105 b (nI p) z (nI r) d 1 (nI x) (P U) = some (.inl (0, hd l, P U3)) := by
            unfold F_X10_move_L105
            rw [if_neg (nI_ne1 (by omega))]
            simp only [ml hP, hib, hb, Bool.false_eq_true, if_false, if_true, Option.bind_some, un, a1, a3, bl, if_pos c2, e1, d1', f1, f3, if_pos k1', hpar]
            rfl
          show (F_X10_move_L105 b (nI p) z (nI r) d 1 (nI x) (P U)).bind _ = _
          rw [this]; exact g1
    · have htw : (x :: l).takeWhile (fun x => !blw (pfV V) x r) = [] := by
        rw [List.takeWhile_cons]; simp [hb]
      rw [htw] at hv
      have h' : res = (true, V) := hv
      subst h'
      refine ⟨U, ?_, Keep.refl U, fun _ => hR⟩
      rw [loopF]
      have : F_X10_move_L105 b (nI p) z (nI r) d 1 (nI x) (P U) = some (.inr (1, P U)) := by
        unfold F_X10_move_L105
        rw [if_neg (nI_ne1 (by omega))]
        simp only [ml hP, hib, hb, if_true, Option.bind_some, un, if_neg (show ¬ (1 : Int32) = 0 by decide)]
      show (F_X10_move_L105 b (nI p) z (nI r) d 1 (nI x) (P U)).bind _ = _
      rw [this]; rfl
end MMOVE
