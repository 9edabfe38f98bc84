/-! the model takes -/
section MTAKE
variable {V U : WV} {n : Nat} {o : Nat → Nat} {b : Nat} {P : WV → Hp}
theorem m_drains (hP : LM b P) (hR : Rel V (U.1 1)) (hO : OrdOK V n o) {r : Nat} (hr : r < 12) : ∃ U', F_X10_drains (P U) b (nI r) = some (stkF V r, P U') ∧ Keep U U' ∧ Rel (sx V 14 (noStk V r)) (U'.1 1) := by
  let N : Nat → Nat → Int32 := fun i g => if g < i ∧ thV V g = true ∧ blw (pfV V) r g = true then 0 else V.1 14 g
  obtain ⟨a, h1, h2, h3, h4⟩ := loop_inv (st := fun x => F_X10_drains_L4 b (nI r) x.1 x.2.1 x.2.2) (fun i (a : Int32 × WV) => (a.1, nI i, P a.2)) (fun a => (a.1, P a.2))
    (fun i a => a.1 = smI (List.range i) (fun g => if thV V g && blw (pfV V) r g then V.1 14 g else 0) ∧ Keep U a.2 ∧ Rel (sx V 14 (N i)) (a.2.1 1)) 12
    (fun i a hi hI => by
      obtain ⟨i1, i2, i3⟩ := hI
      have hO' : OrdOK (sx V 14 (N i)) n o := hO
      have hNs : (thV V i && blw (pfV V) r i) = false → N (i + 1) = N i := fun hf => by
        funext g
        show (if g < i + 1 ∧ _ then _ else _) = if g < i ∧ _ then _ else _
        by_cases e : g = i
        · subst e
          have : ¬ (thV V g = true ∧ blw (pfV V) r g = true) := fun z => by rw [z.1, z.2] at hf; cases hf
          rw [if_neg (fun z => this z.2), if_neg (fun z => this z.2)]
        · have : g < i + 1 ↔ g < i := by omega
          simp only [this]
      cases ht : thV V i
      · refine ⟨a, ?_, ?_, i2, ?_⟩
        · show F_X10_drains_L4 b (nI r) a.1 (nI i) (P a.2) = _
          unfold F_X10_drains_L4
          rw [h12I, if_neg (nI_ge hi (by decide))]
          have hg : F_X10_isGroup (P a.2) b (nI i) = some 0 := by
            rw [m_isGroup' hP i3 hi]; show some (if thV V i then (1 : Int32) else 0) = _; rw [ht]; rfl
          simp [ml hP, hg, bl, nI_1]
        · rw [smI_succ, ht, i1]; simp
        · rw [hNs (by rw [ht]; rfl)]; exact i3
      · have ht' : thV (sx V 14 (N i)) i = true := ht
        have hg : F_X10_isGroup (P a.2) b (nI i) = some 1 := by
          rw [m_isGroup' hP i3 hi, ht']; rfl
        have hbw := m_isBelow hP i3 hO' hi ht' (show r < 2 ^ 31 by omega)
        cases hb : blw (pfV V) r i
        · have hbw' : F_X10_isBelow (P a.2) b (nI i) (nI r) = some (0, P a.2) := by
            rw [hbw]; show some (if blw (pfV V) r i then (1 : Int32) else 0, P a.2) = _; rw [hb]; rfl
          refine ⟨a, ?_, ?_, i2, ?_⟩
          · show F_X10_drains_L4 b (nI r) a.1 (nI i) (P a.2) = _
            unfold F_X10_drains_L4
            rw [h12I, if_neg (nI_ge hi (by decide))]
            simp [ml hP, hg, hbw', bl, nI_1, un]
          · rw [smI_succ, ht, hb, i1]; simp
          · rw [hNs (by rw [hb]; simp)]; exact i3
        · have hbw' : F_X10_isBelow (P a.2) b (nI i) (nI r) = some (1, P a.2) := by
            rw [hbw]; show some (if blw (pfV V) r i then (1 : Int32) else 0, P a.2) = _; rw [hb]; rfl
          have hN : (sx V 14 (N i)).1 14 i = V.1 14 i := by
            show (if i < i ∧ _ then _ else _) = _
            rw [if_neg (fun z => Nat.lt_irrefl _ z.1)]
          have hof : F_X10_of (P a.2) b (nI i) 10 0 = some (V.1 14 i, P a.2) := by
            have := m_of (f := 10) hP i3 hi ht' (by decide) (by decide)
            rw [show cg 10 = 14 from rfl, hN] at this; exact this
          have hla : F_X10_lays (P a.2) b (nI i) 10 0 = some (P (sx a.2 1 (upd (a.2.1 1) (7 + 34 * i + 10) 0))) := m_lays (f := 10) hP hi (by decide) 0
          refine ⟨(a.1 + V.1 14 i, sx a.2 1 (upd (a.2.1 1) (7 + 34 * i + 10) 0)), ?_, ?_, i2.trans (Keep.up _ (by omega) _), ?_⟩
          · show F_X10_drains_L4 b (nI r) a.1 (nI i) (P a.2) = _
            unfold F_X10_drains_L4
            rw [h12I, if_neg (nI_ge hi (by decide))]
            simp only [ml hP, hg, hbw', hof, hla, Option.bind_some, if_neg (show ¬ (1 : Int32) = 0 by decide), un, bl, nI_1]
          · rw [smI_succ, ht, hb, i1]; simp
          · have := i3.grp (f := 10) (g := i) hi (by decide) (by decide) (by decide) 0
            rw [show cg 10 = 14 from rfl, sx_sx] at this
            have e : upd ((sx V 14 (N i)).1 14) i 0 = N (i + 1) := by
              funext g
              show upd (N i) i 0 g = if g < i + 1 ∧ _ then _ else _
              by_cases e : g = i
              · subst e; rw [upd_s, if_pos ⟨by omega, ht, hb⟩]
              · have h : g < i + 1 ↔ g < i := by omega
                rw [upd_ne _ _ e]
                show (if g < i ∧ thV V g = true ∧ blw (pfV V) r g = true then (0 : Int32) else V.1 14 g) = _
                simp only [h]
            rw [e] at this; exact this)
    (fun a hI => by
      show F_X10_drains_L4 b (nI r) a.1 (nI 12) (P a.2) = _
      unfold F_X10_drains_L4
      rw [h12I, if_pos (nI_le (Nat.le_refl _) (by decide))])
    12 0 6000 (0, U) (by decide) (by decide) ⟨rfl, Keep.refl U, by
      have e : N 0 = V.1 14 := by
        funext g
        show (if g < 0 ∧ _ then _ else _) = _
        rw [if_neg (fun z => Nat.not_lt_zero _ z.1)]
      rw [e, sx_id]; exact hR⟩
  refine ⟨a.2, ?_, h3, h4⟩
  unfold F_X10_drains
  have h1' : loopF (fun x => F_X10_drains_L4 b (nI r) x.1 x.2.1 x.2.2) 6000 (0, 0, P U) = some (a.1, P a.2) := h1
  rw [h1', h2]
  rfl
theorem Rel.tk {M : Nat → Int32} (h : Rel V M) {p k : Nat} (hp : p < 16) (hk : k < 2) (i : Int32) : Rel (tkV V p k i) (upd (upd M (415 + 8 * p + (2 + k)) (V.1 (27 + k) p + -i)) (415 + 8 * p + 5) (V.1 29 p + (if k = 0 then i else 0))) := by
  have hk' : k = 0 ∨ k = 1 := by omega
  have h1 := h.prc (f := 2 + k) hp (by omega) (by omega) (V.1 (27 + k) p + -i)
  rw [cp_k hk] at h1
  have h2 := h1.prc (f := 5) hp (by decide) (by decide) (V.1 29 p + (if k = 0 then i else 0))
  refine h2.same ?_
  rw [show cp 5 = 29 from rfl]
  rcases hk' with rfl | rfl
  · refine ⟨fun c c1 c3 c15 c16 => ?_, rfl⟩
    show (sx (sx (sx (sx V 27 _) 15 _) 29 _) 16 _).1 c = (sx (sx V 27 _) 29 _).1 c
    rw [sx_1, up_n _ _ c16]
    by_cases e : c = 29
    · subst e; rw [sx_1, up_s, sx_1, up_s]; rfl
    · rw [sx_1, up_n _ _ e, sx_1, up_n _ _ c15]
      exact (up_n _ _ e).symm
  · refine ⟨fun c c1 c3 c15 c16 => ?_, rfl⟩
    show (sx (sx V 28 _) 15 _).1 c = (sx (sx V 28 _) 29 _).1 c
    rw [sx_1, up_n _ _ c15]
    by_cases e : c = 29
    · subst e
      rw [sx_1 (sx V 28 _) 29, up_s, if_neg (by decide), Int32.add_zero]
      show V.1 29 = upd (V.1 29) p (V.1 29 p)
      rw [upd_id]
    · rw [sx_1 (sx V 28 _) 29, up_n _ _ e]
theorem m_takesOf (hP : LM b P) {r : Nat} (hr : r < 12) {m : Int32} (hm : m.toInt ≤ 999) (hm0 : 0 ≤ m.toInt) {res : WV × Int32} {way : Nat} (hw : way < 4) {W : WV} {t0 : Int32} (hR : Rel W (U.1 1)) (hI : TI W n o) (ht : thV W r = true) (h0 : 0 ≤ t0.toInt) (h9 : t0.toInt ≤ 999) (hE : Ev (tkP r m) (W, t0, way) res) :
    ∃ t' W' U', F_X10_takesOf (P U) b (nI r) (nI (way / 2)) (nI (1 - way % 2)) (m - t0) = some (t', P U') ∧ Keep U U' ∧ Rel W' (U'.1 1) ∧ TI W' n o ∧ thV W' r = true ∧ 0 ≤ (t0 + t').toInt ∧ (t0 + t').toInt ≤ 999 ∧ ((m ≤ t0 + t' ∧ res = (W', t0 + t')) ∨ (¬ m ≤ t0 + t' ∧ Ev (tkP r m) (if way = 1 then evA W' 19 r else W', t0 + t', way + 1) res)) := by
  have hk2 : 1 - way % 2 < 2 := by omega
  have hlv : way / 2 < 2 := by omega
  have hL0 : (m - t0).toInt = m.toInt - t0.toInt := ti_sub (by omega) (by omega)
  obtain ⟨y, y1, y2⟩ := loop_wH (st := fun x => F_X10_takesOf_L3 b (nI r) (nI (way / 2)) (nI (1 - way % 2)) (m - t0) x.1 x.2)
    (fun μ x => ∃ (Wc Uc : WV) (t : Int32), x = (t, P Uc) ∧ Keep U Uc ∧ Rel Wc (Uc.1 1) ∧ TI Wc n o ∧ thV Wc r = true ∧ 0 ≤ t.toInt ∧ (t0 + t).toInt = t0.toInt + t.toInt ∧ (t0 + t).toInt ≤ 999 ∧ Ev (tkP r m) (Wc, t0 + t, way) res ∧ μ = (m.toInt - t0.toInt - t.toInt).toNat)
    (fun y => ∃ t' W' U', (y = .inl (t', P U') ∨ y = .inr (t', P U')) ∧ Keep U U' ∧ Rel W' (U'.1 1) ∧ TI W' n o ∧ thV W' r = true ∧ 0 ≤ (t0 + t').toInt ∧ (t0 + t').toInt ≤ 999 ∧ ((m ≤ t0 + t' ∧ res = (W', t0 + t')) ∨ (¬ m ≤ t0 + t' ∧ Ev (tkP r m) (if way = 1 then evA W' 19 r else W', t0 + t', way + 1) res)))
    (fun μ x hx => by
      obtain ⟨Wc, Uc, t, rfl, i1, i2, i3, i4, i5, i6, i7, i8, i9⟩ := hx
      have hLt : (m - t0 - t).toInt = m.toInt - t0.toInt - t.toInt := by rw [ti_sub (by omega) (by omega), hL0]
      by_cases c1 : m ≤ t0 + t
      · right
        have c1' := ti_le.mp c1
        refine ⟨.inr (t, P Uc), ?_, t, Wc, Uc, Or.inr rfl, i1, i2, i3, i4, by omega, i7, Or.inl ⟨c1, i8.fin (by unfold tkP; rw [if_pos c1])⟩⟩
        show F_X10_takesOf_L3 b (nI r) _ _ (m - t0) t (P Uc) = _
        unfold F_X10_takesOf_L3
        rw [if_pos (ti_le.mpr (by rw [hL0]; omega))]
      · have c1' : (t0 + t).toInt < m.toInt := Int.not_le.mp (fun z => c1 (ti_le.mpr z))
        have hcn : ¬ (m - t0) ≤ t := fun z => by have := ti_le.mp z; rw [hL0] at this; omega
        have hLL : m - t0 - t = m - (t0 + t) := Int32.toInt_inj.mp (by rw [hLt, ti_sub (by omega) (by omega), i6]; omega)
        obtain ⟨U1, u1, u2, u3, u4⟩ := m_nextOf hP i2 i3.1 (i3.2.1.lim i3.1.2.2.1 i3.2.2.1) (lv := way / 2) (r := r) (k := 1 - way % 2) hr i4 hlv hk2
        have hR1 := u2.rel i2
        rcases tk_one i3 (r := r) (lv := way / 2) hk2 (L := m - (t0 + t)) (by rw [← hLL, hLt]; omega) with ⟨n1, n2⟩ | ⟨g, p, g1, g2, g3, g4, g5, g6, g7, g8, g9, g10, g11, g12, g13, g14⟩
        · right
          refine ⟨.inl (t, P U1), ?_, t, Wc, U1, Or.inl rfl, i1.trans u2.keep, hR1, i3, i4, by omega, i7, Or.inr ⟨c1, i8.next (tkP_none c1 hw n2)⟩⟩
          show F_X10_takesOf_L3 b (nI r) _ _ (m - t0) t (P Uc) = _
          unfold F_X10_takesOf_L3
          rw [if_neg hcn]
          simp only [ml hP, u1, n1, Option.bind_some, un, if_true]
        · left
          obtain ⟨i, hi⟩ : ∃ i, i = itsF Wc (way / 2) r (1 - way % 2) g p (m - (t0 + t)) := ⟨_, rfl⟩
          have hiF : mnI (mnI 4 (m - t0 - t)) (mnI (sprF Wc (way / 2) r (1 - way % 2) g) (Wc.1 (27 + (1 - way % 2)) p)) = i := by rw [hLL, hi]; rfl
          rw [← hi] at g9 g10 g11 g12 g13 g14
          have hti : (t0 + (t + i)).toInt = t0.toInt + (t + i).toInt ∧ (t + i).toInt = t.toInt + i.toInt := by
            have : (t + i).toInt = t.toInt + i.toInt := ti_add (by omega) (by rw [← hLL, hLt] at g11; omega)
            rw [← hLL, hLt] at g11
            exact ⟨ti_add (by omega) (by omega), this⟩
          have hass : t0 + t + i = t0 + (t + i) := Int32.add_assoc _ _ _
          obtain ⟨mo1, -⟩ := m_mostIn (g := g) hP hR1 hk2
          rw [g5] at mo1
          have sp1 := m_spareOf hP hR1 i3.1.1 hr i4 hk2 u3 u4 g1 g2 g3
          have pr1 := m_prk hP hR1 g7 g8 hk2
          have pr2 := m_prD hP hR1 g7 g8 (show 2 + (1 - way % 2) < 8 by omega) (-i)
          rw [cp_k hk2] at pr2
          obtain ⟨U2, hU2⟩ : ∃ U2, U2 = sx U1 1 (upd (U1.1 1) (415 + 8 * p + (2 + (1 - way % 2))) (Wc.1 (27 + (1 - way % 2)) p + -i)) := ⟨_, rfl⟩
          rw [← hU2] at pr2
          have hk01 : 1 - way % 2 = 0 ∨ 1 - way % 2 = 1 := by omega
          have hR2 : Rel (sx Wc (27 + (1 - way % 2)) (upd (Wc.1 (27 + (1 - way % 2))) p (Wc.1 (27 + (1 - way % 2)) p + -i))) (U2.1 1) := by
            have := hR1.prc (f := 2 + (1 - way % 2)) g7 (by omega) (by omega) (Wc.1 (27 + (1 - way % 2)) p + -i)
            rw [cp_k hk2] at this
            rw [hU2]; exact this
          have hp2 : phV (sx Wc (27 + (1 - way % 2)) (upd (Wc.1 (27 + (1 - way % 2))) p (Wc.1 (27 + (1 - way % 2)) p + -i))) p = true := by
            rcases hk01 with e | e <;> rw [e] <;> exact g8
          have e29 : (sx Wc (27 + (1 - way % 2)) (upd (Wc.1 (27 + (1 - way % 2))) p (Wc.1 (27 + (1 - way % 2)) p + -i))).1 (cp 5) p = Wc.1 29 p := by
            rcases hk01 with e | e <;> rw [e] <;> rfl
          have pr3 := m_prD (f := 5) hP hR2 g7 hp2 (by decide) (if 1 - way % 2 = 0 then i else 0)
          rw [e29] at pr3
          have hR3 : Rel (tkV Wc p (1 - way % 2) i) ((sx U2 1 (upd (U2.1 1) (415 + 8 * p + 5) (Wc.1 29 p + (if 1 - way % 2 = 0 then i else 0)))).1 1) := by
            have := hR1.tk g7 hk2 i
            rw [hU2]; exact this
          have htk := tkP_some c1 hw g9
          refine ⟨(t + i, P (sx U2 1 (upd (U2.1 1) (415 + 8 * p + 5) (Wc.1 29 p + (if 1 - way % 2 = 0 then i else 0))))), (m.toInt - t0.toInt - (t + i).toInt).toNat, ?_, ?_, tkV Wc p (1 - way % 2) i, _, t + i, rfl, ?_, hR3, g12, ?_, ?_, hti.1, ?_, ?_, rfl⟩
          · show F_X10_takesOf_L3 b (nI r) _ _ (m - t0) t (P Uc) = _
            unfold F_X10_takesOf_L3
            rw [if_neg hcn]
            have pr2' : F_X10_ofProcess (P U1) b (nI p) (2 + nI (1 - way % 2)) (-i) = some (Wc.1 (27 + (1 - way % 2)) p + -i, P U2) := by
              rw [show (2 : Int32) + nI (1 - way % 2) = nI (2 + (1 - way % 2)) from nI_add 2 _]; exact pr2
            have hif : (if nI (1 - way % 2) = 0 then some i else some (0 : Int32)) = some (if 1 - way % 2 = 0 then i else 0) := by
              rcases hk01 with e | e
              · rw [e, if_pos (show nI 0 = 0 from rfl), if_pos rfl]
              · rw [e, if_neg (show ¬ nI 1 = 0 by decide), if_neg (by decide)]
            have pr3' : F_X10_ofProcess (P U2) b (nI p) 5 (if 1 - way % 2 = 0 then i else 0) = _ := pr3
            simp only [ml hP, u1, g4, if_neg (nI_ne1 (show g < 2 ^ 31 by omega)), mo1, oI, Option.bind_some, un, m_lesser, sp1, pr1, hiF, pr2', hif, pr3', bl]
          · rw [i9]
            have := hti.2
            rw [i6] at c1'
            omega
          · refine i1.trans (u2.keep.trans ?_)
            have k1 : Keep U1 U2 := by rw [hU2]; exact Keep.up _ (by omega) _
            exact k1.trans (Keep.up _ (by omega) _)
          · have := congrFun g13.th r
            rw [this]; exact i4
          · have := hti.2; omega
          · rw [hti.1, hti.2]
            rw [← hLL, hLt] at g11
            omega
          · have := i8.next htk
            rw [← hass]; exact this)
    6000 (m.toInt - t0.toInt - (0 : Int32).toInt).toNat (0, P U) (by rw [ti_0]; omega) ⟨W, U, 0, rfl, Keep.refl U, hR, hI, ht, by decide, by rw [Int32.add_zero, ti_0]; omega, by rw [Int32.add_zero]; exact h9, by rw [Int32.add_zero]; exact hE, rfl⟩
  obtain ⟨t', W', U', z1, z2⟩ := y2
  refine ⟨t', W', U', ?_, z2⟩
  unfold F_X10_takesOf
  have y1' : loopF (fun x => F_X10_takesOf_L3 b (nI r) (nI (way / 2)) (nI (1 - way % 2)) (m - t0) x.1 x.2) 6000 (0, P U) = some y := y1
  rw [y1', Option.bind_some]
  rcases z1 with rfl | rfl <;> rfl
theorem Rel.evG {M : Nat → Int32} (h : Rel V M) {k g : Nat} (hk : k < 4) (hg : g < 12) : Rel (evA V (19 + k) g) (upd M (7 + 34 * g + (11 + k)) (V.1 (19 + k) g + 1)) := by
  have e : cg (11 + k) = 19 + k := (by decide : ∀ k, k < 4 → cg (11 + k) = 19 + k) k hk
  have := h.grp (f := 11 + k) hg (by omega) (by rw [e]; omega) (by omega) (V.1 (19 + k) g + 1)
  rw [e] at this; exact this
theorem m_takes (hP : LM b P) (hR : Rel V (U.1 1)) (hI : TI V n o) {r : Nat} (hr : r < 12) (ht : thV V r = true) {m : Int32} (hm : m.toInt ≤ 999) (hm0 : 0 ≤ m.toInt) {res : WV × Int32} (hT : TkRes V r m res) : ∃ U', F_X10_takes (P U) b (nI r) m = some (res.2, P U') ∧ Keep U U' ∧ Rel res.1 (U'.1 1) := by
  obtain ⟨V1, hD, hE⟩ := hT
  obtain ⟨d1, d2, d3⟩ := drn_post hI hD
  obtain ⟨U1, u1, u2, u3⟩ := m_drains hP hR hI.1.1 hr
  have hR1 : Rel V1 (U1.1 1) := by
    obtain ⟨t, rfl, -⟩ := hD
    exact u3.same ⟨fun c c1 c3 c15 c16 => by rw [sx_1, up_n _ _ c15], rfl⟩
  obtain ⟨s1, s2, s3⟩ := stkF_I hI.2.1 r
  have hs9 : (stkF V r).toInt ≤ 999 := by have := hI.2.1.2.2; have := hI.2.1.pgs0; omega
  obtain ⟨y, y1, U', y2, y3, y4⟩ := loop_cH (st := fun x => F_X10_takes_L9 b (nI r) m x.1 x.2.1 x.2.2) (fun i (a : Int32 × WV) => (a.1, nI i, P a.2))
    (fun i a => ∃ W, Rel W (a.2.1 1) ∧ Keep U a.2 ∧ TI W n o ∧ thV W r = true ∧ 0 ≤ a.1.toInt ∧ a.1.toInt ≤ 999 ∧ ((m ≤ a.1 ∧ res = (W, a.1)) ∨ (¬ m ≤ a.1 ∧ Ev (tkP r m) (if i = 1 then evA W 19 r else W, a.1, 2 * i) res)))
    (fun y => ∃ U', y = (res.2, P U') ∧ Keep U U' ∧ Rel res.1 (U'.1 1)) 2
    (fun i a hi hx => by
      obtain ⟨W, i1, i2, i3, i4, i5, i6, i7⟩ := hx
      rcases i7 with ⟨c1, c2⟩ | ⟨c1, c2⟩
      · right
        refine ⟨(a.1, P a.2), ?_, a.2, by rw [c2], i2, by rw [c2]; exact i1⟩
        show F_X10_takes_L9 b (nI r) m a.1 (nI i) (P a.2) = _
        unfold F_X10_takes_L9
        rw [h2I, if_neg (nI_ge hi (by decide)), if_pos c1]
      · left
        -- the event
        obtain ⟨W1, U2, e1, e2, e3, e4, e5⟩ : ∃ W1 U2, W1 = (if i = 1 then evA W 19 r else W) ∧ (if nI i = 1 then ((cO (P a.2) b 10 (F_X10_of (P a.2) b (nI r) 11 1)).bind (un fun v11 h12 => some h12)) else some (P a.2)) = some (P U2) ∧ Rel W1 (U2.1 1) ∧ Keep U U2 ∧ (TI W1 n o ∧ thV W1 r = true) := by
          by_cases ei : i = 1
          · subst ei
            refine ⟨evA W 19 r, sx a.2 1 (upd (a.2.1 1) (7 + 34 * r + 11) (W.1 19 r + 1)), by rw [if_pos rfl], ?_, i1.evG (k := 0) (by decide) hr, i2.trans (Keep.up _ (by omega) _), i3.ev (by decide) (by decide) r, i4⟩
            have := m_ofD (f := 11) hP i1 hr i4 (by decide) (by decide) 1
            have t : F_X10_of (P a.2) b (nI r) 11 1 = some (W.1 19 r + 1, P (sx a.2 1 (upd (a.2.1 1) (7 + 34 * r + 11) (W.1 19 r + 1)))) := this
            rw [if_pos (show nI 1 = 1 from rfl)]
            simp only [ml hP, t, Option.bind_some, un]
          · have e0 : i = 0 := by omega
            subst e0
            exact ⟨W, a.2, by rw [if_neg (by decide)], by rw [if_neg (show ¬ nI 0 = 1 by decide)], i1, i2, i3, i4⟩
        rw [← e1] at c2
        have hw1 : 2 * i < 4 := by omega
        obtain ⟨t2, W2, U3, f1, f2, f3, f4, f5, f6, f7, f8⟩ := m_takesOf hP hr hm hm0 hw1 e3 e5.1 e5.2 i5 i6 c2
        have hd2 : 2 * i / 2 = i := by omega
        have hd3 : 1 - 2 * i % 2 = 1 := by omega
        rw [hd2, hd3] at f1
        have hE2 : Ev (tkP r m) (W2, a.1 + t2, 2 * i + 1) res := by
          rcases f8 with ⟨z1, z2⟩ | ⟨z1, z2⟩
          · rw [z2]; exact Ev.done (by unfold tkP; rw [if_pos z1])
          · rw [if_neg (by omega)] at z2; exact z2
        obtain ⟨t3, W3, U4, k1, k2, k3, k4, k5, k6, k7, k8⟩ := m_takesOf (way := 2 * i + 1) hP hr hm hm0 (by omega) f3 f4 f5 f6 f7 hE2
        have hd4 : (2 * i + 1) / 2 = i := by omega
        have hd5 : 1 - (2 * i + 1) % 2 = 0 := by omega
        rw [hd4, hd5] at k1
        refine ⟨(a.1 + t2 + t3, U4), ?_, W3, k3, e4.trans (f2.trans k2), k4, k5, k6, k7, ?_⟩
        · show F_X10_takes_L9 b (nI r) m a.1 (nI i) (P a.2) = _
          unfold F_X10_takes_L9
          rw [h2I, if_neg (nI_ge hi (by decide)), if_neg c1, e2]
          have f1' : F_X10_takesOf (P U2) b (nI r) (nI i) 1 (m - a.1) = _ := f1
          have k1' : F_X10_takesOf (P U3) b (nI r) (nI i) 0 (m - (a.1 + t2)) = _ := k1
          simp only [ml hP, Option.bind_some, f1', k1', un, bl, nI_1]
        · rcases k8 with z | ⟨z1, z2⟩
          · exact Or.inl z
          · refine Or.inr ⟨z1, ?_⟩
            have e : 2 * (i + 1) = 2 * i + 1 + 1 := by omega
            rw [e]
            by_cases ei : i = 0
            · subst ei; exact z2
            · rw [if_neg (by omega)] at z2
              rw [if_neg (by omega)]; exact z2)
    (fun a hx => by
      obtain ⟨W, i1, i2, i3, i4, i5, i6, i7⟩ := hx
      have hres : res = (W, a.1) := by
        rcases i7 with ⟨c1, c2⟩ | ⟨c1, c2⟩
        · exact c2
        · rw [if_neg (by decide)] at c2
          exact c2.fin (by unfold tkP; simp only [if_neg c1, if_pos (show 4 ≤ 2 * 2 by decide)])
      refine ⟨(a.1, P a.2), ?_, a.2, by rw [hres], i2, by rw [hres]; exact i1⟩
      show F_X10_takes_L9 b (nI r) m a.1 (nI 2) (P a.2) = _
      unfold F_X10_takes_L9
      rw [h2I, if_pos (nI_le (Nat.le_refl _) (by decide))])
    2 0 6000 (stkF V r, U1) (by decide) (by decide) ⟨V1, hR1, u2, d1, by rw [d2.th]; exact ht, s2, hs9, by
      by_cases c : m ≤ stkF V r
      · exact Or.inl ⟨c, hE.fin (by unfold tkP; rw [if_pos c])⟩
      · exact Or.inr ⟨c, hE⟩⟩
  refine ⟨U', ?_, y3, y4⟩
  unfold F_X10_takes
  have y1' : loopF (fun x => F_X10_takes_L9 b (nI r) m x.1 x.2.1 x.2.2) 6000 (stkF V r, 0, P U1) = some y := y1
  simp only [ml hP, u1, Option.bind_some, un, y1', y2, bl]
end MTAKE
