/-! the model makes room -/
section MROOM
variable {V U : WV} {n : Nat} {o : Nat → Nat} {b : Nat} {P : WV → Hp}
theorem m_firstAbove (hP : LM b P) (hR : Rel V (U.1 1)) (hC : Cor V n o) {g : Nat} (hg : g < 12) (ht : thV V g = true) (d : Int32) : ∃ U', F_X10_firstAbove (P U) b (nI g) d = some (oI (fstAb V g d), P U') ∧ KeepT U U' := by
  have hT := hC.1.tree
  obtain ⟨y, y1, U', y2, y3⟩ := loop_pH (st := fun x => F_X10_firstAbove_L2 b d x.1 x.2) (fun l (a : WV) => (hd l, P a)) (fun l a => Sfx (thV V) (pfV V) l ∧ KeepT U a ∧ fstAb V g d = l.find? (fun r => decide (¬ V.1 15 r + d ≤ V.1 8 r)))
    (fun y => ∃ U', KeepT U U' ∧ y = match fstAb V g d with | some f => .inl (nI f, P U') | none => .inr (P U'))
    (fun x l a hI => by
      obtain ⟨hs, hk, hf⟩ := hI
      obtain ⟨hx, htx, hp, hs', hl⟩ := hs.cons hT
      obtain ⟨U1, t1, t2, t3⟩ := m_totalOf hP (hk.rel hR) hC hx htx
      have hR1 := t2.rel (hk.rel hR)
      by_cases hc : V.1 15 x + d ≤ V.1 8 x
      · left
        refine ⟨U1, ?_, hs', hk.trans t2, by rw [hf, List.find?_cons]; simp [hc]⟩
        show F_X10_firstAbove_L2 b d (nI x) (P a) = _
        unfold F_X10_firstAbove_L2
        rw [if_neg (nI_ne1 (by omega))]
        simp only [ml hP, t1, mo hP V, hR1, hx, htx, Option.bind_some, un, if_pos hc, m_parent hP hR1 hx htx, hC.1.hdv hs]
      · right
        refine ⟨.inl (nI x, P U1), ?_, U1, hk.trans t2, by rw [hf, List.find?_cons]; simp [hc]⟩
        show F_X10_firstAbove_L2 b d (nI x) (P a) = _
        unfold F_X10_firstAbove_L2
        rw [if_neg (nI_ne1 (by omega))]
        simp only [ml hP, t1, mo hP V, hR1, hx, htx, Option.bind_some, un, if_neg hc])
    (fun a hI => ⟨.inr (P a), by
      show F_X10_firstAbove_L2 b d (-1) (P a) = _
      unfold F_X10_firstAbove_L2
      rw [if_pos rfl], a, hI.2.1, by rw [hI.2.2]; rfl⟩)
    (pth (pfV V) g) 6000 U (by have := pth_len (pfV V) g; omega) ⟨Sfx.pth hg ht, KeepT.refl U, rfl⟩
  refine ⟨U', ?_, y2⟩
  have y1' : loopF (fun x => F_X10_firstAbove_L2 b d x.1 x.2) 6000 (nI g, P U) = some y := by
    rw [← y1]
    show _ = loopF _ 6000 (hd (pth (pfV V) g), P U)
    rw [pth_cons hT hg ht]; rfl
  unfold F_X10_firstAbove
  rw [y1', Option.bind_some, y3]
  cases fstAb V g d <;> rfl
theorem m_areWithin (hP : LM b P) (hR : Rel V (U.1 1)) (hC : Cor V n o) {g : Nat} (hg : g < 12) (ht : thV V g = true) (d : Int32) : ∃ U', F_X10_areWithin (P U) b (nI g) d = some (if (fstAb V g d).isNone then 1 else 0, P U') ∧ KeepT U U' := by
  have hT := hC.1.tree
  obtain ⟨y, y1, U', y2, y3⟩ := loop_pH (st := fun x => F_X10_areWithin_L2 b d x.1 x.2) (fun l (a : WV) => (hd l, P a)) (fun l a => Sfx (thV V) (pfV V) l ∧ KeepT U a ∧ fstAb V g d = l.find? (fun r => decide (¬ V.1 15 r + d ≤ V.1 8 r)))
    (fun y => ∃ U', KeepT U U' ∧ y = match fstAb V g d with | some f => .inl (0, P U') | none => .inr (P U'))
    (fun x l a hI => by
      obtain ⟨hs, hk, hf⟩ := hI
      obtain ⟨hx, htx, hp, hs', hl⟩ := hs.cons hT
      obtain ⟨U1, t1, t2, t3⟩ := m_totalOf hP (hk.rel hR) hC hx htx
      have hR1 := t2.rel (hk.rel hR)
      by_cases hc : V.1 15 x + d ≤ V.1 8 x
      · left
        refine ⟨U1, ?_, hs', hk.trans t2, by rw [hf, List.find?_cons]; simp [hc]⟩
        show F_X10_areWithin_L2 b d (nI x) (P a) = _
        unfold F_X10_areWithin_L2
        rw [if_neg (nI_ne1 (by omega))]
        simp only [ml hP, t1, mo hP V, hR1, hx, htx, Option.bind_some, un, if_pos hc, m_parent hP hR1 hx htx, hC.1.hdv hs]
      · right
        refine ⟨.inl (0, P U1), ?_, U1, hk.trans t2, by rw [hf, List.find?_cons]; simp [hc]⟩
        show F_X10_areWithin_L2 b d (nI x) (P a) = _
        unfold F_X10_areWithin_L2
        rw [if_neg (nI_ne1 (by omega))]
        simp only [ml hP, t1, mo hP V, hR1, hx, htx, Option.bind_some, un, if_neg hc])
    (fun a hI => ⟨.inr (P a), by
      show F_X10_areWithin_L2 b d (-1) (P a) = _
      unfold F_X10_areWithin_L2
      rw [if_pos rfl], a, hI.2.1, by rw [hI.2.2]; rfl⟩)
    (pth (pfV V) g) 6000 U (by have := pth_len (pfV V) g; omega) ⟨Sfx.pth hg ht, KeepT.refl U, rfl⟩
  refine ⟨U', ?_, y2⟩
  have y1' : loopF (fun x => F_X10_areWithin_L2 b d x.1 x.2) 6000 (nI g, P U) = some y := by
    rw [← y1]
    show _ = loopF _ 6000 (hd (pth (pfV V) g), P U)
    rw [pth_cons hT hg ht]; rfl
  unfold F_X10_areWithin
  rw [y1', Option.bind_some, y3]
  cases fstAb V g d <;> rfl
theorem m_room {p g : Nat} {d : Int32} (hP : LM b P) (hg : g < 12) (h0 : 0 ≤ d.toInt) (h9 : d.toInt ≤ 999) (hp : p < 16) {res : Int32 × WV} : ∀ (k N : Nat) (V U : WV) (told : Int32), MkR p g d k V told res → TI V n o → MaxOK V → thV V g = true → (told = 0 ∨ told = 1 ∨ told = 2) → phV V p = true → V.1 24 p = nI g → Rel V (U.1 1) → k ≤ N → ∃ U' y, loopF (fun x => F_X10_makesRoom_L14 b (nI p) d x.1 x.2.1 x.2.2) N (told, oI (fstAb V g d), P U) = some y ∧ (y = .inl (res.1, P U') ∨ y = .inr (res.1, P U')) ∧ Keep U U' ∧ Rel res.2 (U'.1 1)
  | 0, _, _, _, _, h, _, _, _, _, _, _, _, _ => absurd h id
  | k + 1, 0, _, _, _, _, _, _, _, _, _, _, _, hN => by omega
  | k + 1, N + 1, V, U, told, h, hI, hM, ht, hto, hph, hho, hR, hN => by
    unfold MkR at h
    cases hf : fstAb V g d with
    | none =>
      rw [hf] at h
      subst h
      refine ⟨U, .inr (told, P U), ?_, Or.inr rfl, Keep.refl U, hR⟩
      rw [loopF]
      have : F_X10_makesRoom_L14 b (nI p) d told (-1) (P U) = some (.inr (.inr (told, P U))) := by
        unfold F_X10_makesRoom_L14
        rw [if_pos rfl]
      show (F_X10_makesRoom_L14 b (nI p) d told (-1) (P U)).bind _ = _
      rw [this]; rfl
    | some f =>
      rw [hf] at h
      obtain ⟨f1, f2, f3, f4⟩ := fst_mem hI.1.1 hg ht hf
      obtain ⟨m1, m2, m3⟩ := mF_I hI hM f1 f2 h0 h9
      have hm0 : 0 ≤ (mF V f d).toInt := by
        have h8 : ¬ (V.1 15 f + d).toInt ≤ (V.1 8 f).toInt := fun z => f3 (ti_le.mpr z)
        rw [m2]; omega
      obtain ⟨V1, t, h1, h2⟩ := h
      have hIe := hI.ev (c := 21) (by decide) (by decide) f
      obtain ⟨a1, a2, a3, a4, -, -⟩ := tk_post hIe m3 h1
      have fr1 : Fr V V1 := (fr_ev V (by decide) (by decide) f).trans a2.fr
      have a3' : TotLe V V1 := a3
      have h24 : V1.1 24 = V.1 24 := a2.1 24 (by decide) (by decide) (by decide) (by decide) (by decide) (by decide) (by decide)
      have hp1 : phV V1 p = true := by rw [phV_same h24]; exact hph
      have hM1 : MaxOK V1 := hM.le a3' fr1
      have ht1 : thV V1 g = true := by rw [fr1.th]; exact ht
      have htf1 : thV V1 f = true := by rw [fr1.th]; exact f2
      -- the model's steps
      have e1 := m_ofD (f := 13) hP hR f1 f2 (by decide) (by decide) 1
      have e1' : F_X10_of (P U) b (nI f) 13 1 = some (V.1 21 f + 1, P (sx U 1 (upd (U.1 1) (7 + 34 * f + 13) (V.1 21 f + 1)))) := e1
      obtain ⟨Ua, hUa⟩ : ∃ Ua, Ua = sx U 1 (upd (U.1 1) (7 + 34 * f + 13) (V.1 21 f + 1)) := ⟨_, rfl⟩
      rw [← hUa] at e1'
      have hRa : Rel (evA V 21 f) (Ua.1 1) := by
        rw [hUa]; exact hR.evG (k := 2) (by decide) f1
      have hka : Keep U Ua := by rw [hUa]; exact Keep.up _ (by omega) _
      obtain ⟨Ub, b1, b2, -⟩ := m_totalOf hP hRa hIe.1 f1 f2
      have hRb := b2.rel hRa
      have b3 : F_X10_of (P Ub) b (nI f) 3 0 = some (V.1 8 f, P Ub) := m_of (f := 3) hP hRb f1 f2 (by decide) (by decide)
      obtain ⟨Uc, c1, c2, c3⟩ := m_takes hP hRb hIe f1 f2 m3 hm0 h1
      have b1' : F_X10_totalOf (P Ua) b (nI f) = some (V.1 15 f, P Ub) := b1
      have c1' : F_X10_takes (P Ub) b (nI f) (V.1 15 f + d - V.1 8 f) = some (t, P Uc) := c1
      obtain ⟨Ud, d1, d2, -⟩ := m_totalOf hP c3 a1.1 f1 htf1
      have hRd := d2.rel c3
      have d3 : F_X10_of (P Ud) b (nI f) 3 0 = some (V1.1 8 f, P Ud) := m_of (f := 3) hP hRd f1 htf1 (by decide) (by decide)
      have hkd : Keep U Ud := hka.trans (b2.keep.trans (c2.trans d2.keep))
      have hf1n : ¬ nI f = -1 := nI_ne1 (by omega)
      have htold : (if told = 0 then some (1 : Int32) else some told) = some (mxI told 1) := by
        rcases hto with rfl | rfl | rfl <;> decide
      have hto' : mxI told 1 = 0 ∨ mxI told 1 = 1 ∨ mxI told 1 = 2 := by
        rcases hto with rfl | rfl | rfl
        · right; left; decide
        · right; left; decide
        · right; right; decide
      by_cases k1 : V1.1 15 f + d ≤ V1.1 8 f
      · rw [if_pos k1] at h2
        have k1' : ¬ V1.1 8 f < V1.1 15 f + d := fun z => by have := ti_lt.mp z; have := ti_le.mp k1; omega
        have hho1 : V1.1 24 p = nI g := by rw [h24]; exact hho
        have g1 := m_home hP hRd hp hp1
        obtain ⟨Ue, e2, e3⟩ := m_firstAbove hP hRd a1.1 hg ht1 d
        obtain ⟨U', y, y1, y2, y3, y4⟩ := m_room hP hg h0 h9 hp k N V1 Ue _ h2 a1 hM1 ht1 hto' hp1 hho1 (e3.rel hRd) (by omega)
        refine ⟨U', y, ?_, y2, hkd.trans (e3.keep.trans y3), y4⟩
        rw [loopF]
        have : F_X10_makesRoom_L14 b (nI p) d told (nI f) (P U) = some (.inl (mxI told 1, oI (fstAb V1 g d), P Ue)) := by
          unfold F_X10_makesRoom_L14
          rw [if_neg hf1n]
          simp only [ml hP, e1', b1', b3, c1', htold, d1, d3, Option.bind_some, un, bl, if_neg k1', g1, hho1, e2]
        show (F_X10_makesRoom_L14 b (nI p) d told (nI f) (P U)).bind _ = _
        rw [this]; exact y1
      · rw [if_neg k1] at h2
        have k1' : V1.1 8 f < V1.1 15 f + d := Int32.not_le.mp k1
        obtain ⟨Ue, e2, e3, e4⟩ := m_death hP hRd a1.1 f1 htf1
        obtain ⟨s1, s2, s3, s4, s5⟩ := str_TI a1 f
        have fr2 : Fr V (strV V1 f) := fr1.trans (str_fr a1 f)
        have le2 : TotLe V (strV V1 f) := fun x hx htx => Int.le_trans (s2 x hx (by rw [fr1.th]; exact htx)) (a3' x hx htx)
        by_cases k2 : mkB 16 (dyS V1 f) = 0
        · rw [if_pos k2] at h2
          subst h2
          refine ⟨Ue, .inl (-4, P Ue), ?_, Or.inl rfl, hkd.trans e3, e4⟩
          rw [loopF]
          have : F_X10_makesRoom_L14 b (nI p) d told (nI f) (P U) = some (.inr (.inl (-4, P Ue))) := by
            unfold F_X10_makesRoom_L14
            rw [if_neg hf1n]
            simp only [ml hP, e1', b1', b3, c1', htold, d1, d3, Option.bind_some, un, bl, if_pos k1', e2, if_pos k2]
          show (F_X10_makesRoom_L14 b (nI p) d told (nI f) (P U)).bind _ = _
          rw [this]; rfl
        · rw [if_neg k2] at h2
          have hbp : bt (mkB 16 (dyS V1 f)) p = dyS V1 f p := by rw [bt_mkB (by decide) (by omega)]; simp [hp]
          by_cases k3 : dyS V1 f p = true
          · rw [if_pos k3] at h2
            subst h2
            refine ⟨Ue, .inl (3, P Ue), ?_, Or.inl rfl, hkd.trans e3, e4⟩
            rw [loopF]
            have : F_X10_makesRoom_L14 b (nI p) d told (nI f) (P U) = some (.inr (.inl (3, P Ue))) := by
              unfold F_X10_makesRoom_L14
              rw [if_neg hf1n]
              simp only [ml hP, e1', b1', b3, c1', htold, d1, d3, Option.bind_some, un, bl, if_pos k1', e2, if_neg k2, m_has _ _ (show p < 31 by omega), hbp, k3, if_true, if_neg (show ¬ (1 : Int32) = 0 by decide)]
            show (F_X10_makesRoom_L14 b (nI p) d told (nI f) (P U)).bind _ = _
            rw [this]; rfl
          · rw [if_neg k3] at h2
            have k3' : dyS V1 f p = false := by simpa using k3
            have hp2 : phV (strV V1 f) p = true := by rw [s4 p hp, hp1]; simp [k3']
            have hho2 : (strV V1 f).1 24 p = nI g := by rw [s5 p hp k3' 24 (by decide) (by decide), h24]; exact hho
            have ht2 : thV (strV V1 f) g = true := by rw [fr2.th]; exact ht
            have g1 := m_home hP e4 hp hp2
            obtain ⟨Uf, e5, e6⟩ := m_firstAbove hP e4 s1.1 hg ht2 d
            obtain ⟨U', y, y1, y2, y3, y4⟩ := m_room hP hg h0 h9 hp k N (strV V1 f) Uf 2 h2 s1 (hM.le le2 fr2) ht2 (Or.inr (Or.inr rfl)) hp2 hho2 (e6.rel e4) (by omega)
            refine ⟨U', y, ?_, y2, hkd.trans (e3.trans (e6.keep.trans y3)), y4⟩
            rw [loopF]
            have : F_X10_makesRoom_L14 b (nI p) d told (nI f) (P U) = some (.inl (2, oI (fstAb (strV V1 f) g d), P Uf)) := by
              unfold F_X10_makesRoom_L14
              rw [if_neg hf1n]
              simp only [ml hP, e1', b1', b3, c1', htold, d1, d3, Option.bind_some, un, bl, if_pos k1', e2, if_neg k2, m_has _ _ (show p < 31 by omega), hbp, k3', Bool.false_eq_true, if_false, if_true, g1, hho2, e5]
            show (F_X10_makesRoom_L14 b (nI p) d told (nI f) (P U)).bind _ = _
            rw [this]; exact y1
theorem m_makesRoom (hP : LM b P) (hR : Rel V (U.1 1)) (h : TI V n o) (hM : MaxOK V) {p : Nat} (hp : p < 16) (ht : phV V p = true) {d : Int32} (h0 : 0 ≤ d.toInt) (h9 : d.toInt ≤ 999) {k : Nat} (hk : k ≤ 6000) {res : Int32 × WV} (hr : MkR p (hom V p) d k V 0 res) : ∃ U', F_X10_makesRoom (P U) b (nI p) d = some (res.1, P U') ∧ Keep U U' ∧ Rel res.2 (U'.1 1) := by
  obtain ⟨g1, g2, g3⟩ := h.1.2.1.at hp ht
  obtain ⟨U1, u1, u2⟩ := m_firstAbove hP hR h.1 g1 g2 d
  obtain ⟨U', y, y1, y2, y3, y4⟩ := m_room hP g1 h0 h9 hp k 6000 V U1 0 hr h hM g2 (Or.inl rfl) ht g3 (u2.rel hR) hk
  refine ⟨U', ?_, u2.keep.trans y3, y4⟩
  unfold F_X10_makesRoom
  simp only [ml hP, m_home hP hR hp ht, g3, Option.bind_some, un, u1, y1]
  rcases y2 with rfl | rfl <;> rfl
end MROOM
