section MCHARGE
variable {V U : WV} {n : Nat} {o : Nat → Nat} {b : Nat} {P : WV → Hp}
theorem Rel.stkM {M : Nat → Int32} (h : Rel V M) {g : Nat} (hg : g < 12) (d : Int32) : Rel (stkA V g d) (upd M (7 + 34 * g + 10) (V.1 14 g + d)) := by
  have := h.grp (f := 10) hg (by decide) (by decide) (by decide) (V.1 14 g + d)
  rw [show cg 10 = 14 from rfl] at this
  exact this.same ⟨fun c c1 c3 c15 c16 => up_n _ _ c15, rfl⟩
theorem Rel.pgsM {M : Nat → Int32} (h : Rel V M) {p k : Nat} (hp : p < 16) (hk : k < 2) (d : Int32) : Rel (pgsA V p k d) (upd M (415 + 8 * p + (2 + k)) (V.1 (27 + k) p + d)) := by
  have := h.prc (f := 2 + k) hp (by omega) (by omega) (V.1 (27 + k) p + d)
  rw [cp_k hk] at this
  exact this.same ⟨fun c c1 c3 c15 c16 => up_n _ _ c15, rfl⟩
theorem stk_pgs {p k g : Nat} (hk : k < 2) (d e : Int32) : SameB (pgsA (stkA V g e) p k d) (stkA (pgsA V p k d) g e) := by
  have hk' : k = 0 ∨ k = 1 := by omega
  refine ⟨fun c c1 c3 c15 c16 => ?_, by rcases hk' with rfl | rfl <;> rfl⟩
  have eL : (stkA (pgsA V p k d) g e).1 c = if c = 14 then upd (V.1 14) g (V.1 14 g + e) else (pgsA V p k d).1 c := by
    unfold stkA
    rw [sx_1, up_n _ _ c15, sx_1]
    by_cases h : c = 14
    · subst h
      rw [if_pos rfl, up_s, pgsA_14 hk]
    · rw [if_neg h, up_n _ _ h]
  rw [eL]
  by_cases h : c = 14
  · subst h
    rw [if_pos rfl, pgsA_14 hk]; rfl
  · rw [if_neg h]
    by_cases h2 : c = 27 + k
    · subst h2
      rcases hk' with rfl | rfl <;> rfl
    · rw [pgsA_c d c15 h2, pgsA_c d c15 h2]
      unfold stkA
      rw [sx_1, up_n _ _ c15, sx_1, up_n _ _ h]
theorem m_charges (hP : LM b P) (hR : Rel V (U.1 1)) (h : TI V n o) (hM : MaxOK V) (hd : DedOK V) {p k : Nat} (hp : p < 16) (ht : phV V p = true) (hk : k < 2) {d : Int32} (h0 : 1 ≤ d.toInt) (h9 : d.toInt ≤ 99) (hb : 0 ≤ (V.1 0 4).toInt ∧ (V.1 0 4).toInt ≤ 8) (hst : StB V p) {res : Int32 × WV} (hr : CgR V p k d res) : ∃ U', F_X10_charges (P U) b (nI p) (nI k) d = some (res.1, P U') ∧ Keep U U' ∧ Rel res.2 (U'.1 1) := by
  obtain ⟨g1, g2, g3⟩ := h.1.2.1.at hp ht
  obtain ⟨r, hA, hH⟩ := hr
  obtain ⟨p1, p2, p3, p4⟩ := ad_post h hM hd hp ht hk h0 h9 hb hA
  have hbat : (if d ≤ V.1 0 4 then (gR (P U) b 10 1).bind fun a6 => (aI (P U) a6 3).bind fun v7 => some (v7 : Int32) else some (d : Int32)) = some (mxI d (V.1 0 4)) := by
    unfold mxI
    by_cases c : d < V.1 0 4
    · rw [if_pos c, if_pos (Int32.le_of_lt c)]
      simp only [ml hP, ml0 hP, Option.bind_some, hR.1.2.2.2.1]
    · by_cases c2 : d ≤ V.1 0 4
      · rw [if_neg c, if_pos c2]
        simp only [ml hP, ml0 hP, Option.bind_some, hR.1.2.2.2.1]
        rw [Int32.le_antisymm c2 (Int32.not_lt.mp c)]
      · rw [if_neg c, if_neg c2]
  -- behind the pages
  have tail : ∀ (W Ux : WV) (told : Int32), Rel W (Ux.1 1) → phV W p = true → told = r.1 → SameB (pgsA W p k d) r.2 → (r.1 = 0 ∨ r.1 = 1 ∨ r.1 = 2) → Keep U Ux → ∃ U', ((cO (P Ux) b 10 (F_X10_ofProcess (P Ux) b (nI p) (2 + nI k) d)).bind (un fun v22 h23 => (cO h23 b 10 (F_X10_meetsHigh h23 b (nI p))).bind fun h24 => some (told, h24))) = some (res.1, P U') ∧ Keep U U' ∧ Rel res.2 (U'.1 1) := by
    intro W Ux told hW hph htold hsame ho hku
    subst htold
    obtain ⟨V', hV, hres⟩ : ∃ V', HiR p (pth (pfV r.2) (hom r.2 p)) r.2 V' ∧ res = (r.1, V') := by
      rcases hH with ⟨a1, a2, a3, -⟩ | ⟨-, hx⟩
      · rcases ho with e | e | e
        · exact absurd e a1
        · exact absurd e a2
        · exact absurd e a3
      · exact hx
    have e1 := m_prD hP hW hp hph (show 2 + k < 8 by omega) d
    rw [cp_k hk] at e1
    have e1' : F_X10_ofProcess (P Ux) b (nI p) (2 + nI k) d = some (W.1 (27 + k) p + d, P (sx Ux 1 (upd (Ux.1 1) (415 + 8 * p + (2 + k)) (W.1 (27 + k) p + d)))) := by
      rw [show (2 : Int32) + nI k = nI (2 + k) from nI_add 2 k]; exact e1
    obtain ⟨Ua, hUa⟩ : ∃ Ua, Ua = sx Ux 1 (upd (Ux.1 1) (415 + 8 * p + (2 + k)) (W.1 (27 + k) p + d)) := ⟨_, rfl⟩
    rw [← hUa] at e1'
    have hRa : Rel r.2 (Ua.1 1) := by
      have := (hW.pgsM hp hk d).same hsame
      rw [hUa]; exact this
    have hka : Keep Ux Ua := by rw [hUa]; exact Keep.up _ (by omega) _
    have hph2 : phV r.2 p = true := by
      rcases p4 with e | ⟨-, e | e⟩
      · rw [e] at ho; exact absurd ho (by decide)
      · rw [e] at ho; exact absurd ho (by decide)
      · exact e.2
    have hst2 : StB r.2 p := by
      unfold StB
      rw [(p2.2.2 p hp hph2).2.2.2.1]; exact hst
    obtain ⟨U', u1, u2, u3⟩ := m_meetsHigh hP hRa p1 hp hph2 hst2 hV
    refine ⟨U', ?_, hku.trans (hka.trans u2), by rw [hres]; exact u3⟩
    simp only [ml hP, e1', Option.bind_some, un, u1, hres]
  have hof : F_X10_of (P U) b (nI (hom V p)) 10 0 = some (V.1 14 (hom V p), P U) := m_of (f := 10) hP hR g1 g2 (by decide) (by decide)
  unfold AdR at hA
  unfold F_X10_charges
  simp only [ml hP, ml0 hP, m_home hP hR hp ht, g3, Option.bind_some, un, hR.1.2.2.2.1]
  simp only [ml hP, ml0 hP, Option.bind_some, hR.1.2.2.2.1] at hbat
  rw [hbat]
  simp only [Option.bind_some, hof, un, bl]
  by_cases c1 : V.1 14 (hom V p) < d
  · rw [if_pos c1] at hA
    rw [if_pos c1]
    obtain ⟨U1, u1, u2⟩ := m_areWithin hP hR h.1 g1 g2 (mxI d (V.1 0 4))
    have hR1 := u2.rel hR
    by_cases c2 : fstAb V (hom V p) (mxI d (V.1 0 4)) = none
    · rw [if_pos c2] at hA
      have e2 := m_ofD (f := 10) hP hR1 g1 g2 (by decide) (by decide) (mxI d (V.1 0 4) - d)
      have e2' : F_X10_of (P U1) b (nI (hom V p)) 10 (mxI d (V.1 0 4) - d) = some (V.1 14 (hom V p) + (mxI d (V.1 0 4) - d), P (sx U1 1 (upd (U1.1 1) (7 + 34 * hom V p + 10) (V.1 14 (hom V p) + (mxI d (V.1 0 4) - d))))) := e2
      obtain ⟨U', v1, v2, v3⟩ := tail (stkA V (hom V p) (mxI d (V.1 0 4) - d)) (sx U1 1 (upd (U1.1 1) (7 + 34 * hom V p + 10) (V.1 14 (hom V p) + (mxI d (V.1 0 4) - d)))) 0 (hR1.stkM g1 _) ht (by rw [hA]) (by rw [hA]; exact stk_pgs hk _ _) (by rw [hA]; exact Or.inl rfl) (u2.keep.trans (Keep.up _ (by omega) _))
      refine ⟨U', ?_, v2, v3⟩
      simp only [ml hP, u1, c2, Option.isNone_none, if_true, Option.bind_some, un, if_neg (show ¬ (1 : Int32) = 0 by decide), e2']
      simp only [ml hP] at v1
      exact v1
    · rw [if_neg c2] at hA
      obtain ⟨m, r', hm, hmk, hor⟩ := hA
      have hnn : (fstAb V (hom V p) (mxI d (V.1 0 4))).isNone = false := by
        cases hf : fstAb V (hom V p) (mxI d (V.1 0 4)) with
        | none => exact absurd hf c2
        | some f => rfl
      obtain ⟨U2, w1, w2, w3⟩ := m_makesRoom hP hR1 h hM hp ht (d := d) (by omega) (by omega) (k := m) (by omega) hmk
      obtain ⟨b1, b2, b3, b4, b5⟩ := mk_post g1 (by omega) (by omega) m V 0 hmk h hM g2 (Or.inl rfl) ht hp
      have hku : Keep U U2 := u2.keep.trans w2
      rcases hor with ⟨o1, o2, o3, rfl⟩ | ⟨ho, hr2⟩
      · have hres : res = r := by
          rcases hH with ⟨-, -, -, e⟩ | ⟨e, -⟩
          · exact e
          · rcases e with e | e | e
            · exact absurd e o1
            · exact absurd e o2
            · exact absurd e o3
        rw [hres]
        refine ⟨U2, ?_, hku, w3⟩
        simp only [ml hP, u1, hnn, Bool.false_eq_true, if_false, Option.bind_some, un, if_true, w1]
        rcases b5 with e | e | ⟨e, -, -⟩
        · rw [if_pos e]
        · rw [if_pos e]
          split <;> rfl
        · rcases e with e | e | e
          · exact absurd e o1
          · exact absurd e o2
          · exact absurd e o3
      · have hph2 : phV r'.2 p = true := by
          rcases b5 with e | e | e
          · rw [e] at ho; exact absurd ho (by decide)
          · rw [e] at ho; exact absurd ho (by decide)
          · exact e.2.1
        have ho4 : ¬ r'.1 = -4 := fun e => by rw [e] at ho; exact absurd ho (by decide)
        have ho3 : ¬ r'.1 = 3 := fun e => by rw [e] at ho; exact absurd ho (by decide)
        obtain ⟨U', v1, v2, v3⟩ := tail r'.2 U2 r'.1 w3 hph2 (by rw [hr2]) (by rw [hr2]; exact ⟨fun _ _ _ _ _ => rfl, rfl⟩) (by rw [hr2]; exact ho) hku
        refine ⟨U', ?_, v2, v3⟩
        simp only [ml hP, u1, hnn, Bool.false_eq_true, if_false, Option.bind_some, un, if_true, w1, if_neg ho4, if_neg ho3]
        simp only [ml hP] at v1
        exact v1
  · rw [if_neg c1] at hA
    rw [if_neg c1]
    have e2 := m_ofD (f := 10) hP hR g1 g2 (by decide) (by decide) (-d)
    have e2' : F_X10_of (P U) b (nI (hom V p)) 10 (-d) = some (V.1 14 (hom V p) + -d, P (sx U 1 (upd (U.1 1) (7 + 34 * hom V p + 10) (V.1 14 (hom V p) + -d)))) := e2
    obtain ⟨U', v1, v2, v3⟩ := tail (stkA V (hom V p) (-d)) (sx U 1 (upd (U.1 1) (7 + 34 * hom V p + 10) (V.1 14 (hom V p) + -d))) 0 (hR.stkM g1 _) ht (by rw [hA]) (by rw [hA]; exact ⟨fun _ _ _ _ _ => rfl, rfl⟩) (by rw [hA]; exact Or.inl rfl) (Keep.up _ (by omega) _)
    refine ⟨U', ?_, v2, v3⟩
    simp only [ml hP, Option.bind_some, un, e2']
    simp only [ml hP] at v1
    exact v1
/-- taking comes to something -/
theorem tk_ex (h : TI V n o) {r : Nat} {m : Int32} (hm : m.toInt ≤ 999) : ∃ x, TkRes V r m x := by
  have hD : DrnV V r (sx (sx V 14 (noStk V r)) 15 (totF (sx V 14 (noStk V r)))) := ⟨_, rfl, fun g _ _ => rfl⟩
  obtain ⟨d1, d2, d3⟩ := drn_post h hD
  obtain ⟨s1, s2, s3⟩ := stkF_I h.2.1 r
  have hs9 : (stkF V r).toInt ≤ 999 := by have := h.2.1.2.2; have := h.2.1.pgs0; omega
  obtain ⟨x, hx⟩ := Ev.ex (st := tkP r m) (fun μ s => TI s.1 n o ∧ 0 ≤ s.2.1.toInt ∧ s.2.1.toInt ≤ 999 ∧ s.2.2 ≤ 4 ∧ μ = (m.toInt - s.2.1.toInt).toNat + (4 - s.2.2)) (fun μ s hI => by
    obtain ⟨W, t, way⟩ := s
    obtain ⟨i1, i2, i3, i4, i5⟩ : TI W n o ∧ 0 ≤ t.toInt ∧ t.toInt ≤ 999 ∧ way ≤ 4 ∧ μ = (m.toInt - t.toInt).toNat + (4 - way) := hI
    by_cases c1 : m ≤ t
    · exact Or.inr ⟨(W, t), by unfold tkP; rw [if_pos c1]⟩
    · have c1' : t.toInt < m.toInt := Int.not_le.mp (fun z => c1 (ti_le.mpr z))
      by_cases c2 : 4 ≤ way
      · exact Or.inr ⟨(W, t), by unfold tkP; simp only [if_neg c1, if_pos c2]⟩
      · left
        have hL : (m - t).toInt = m.toInt - t.toInt := ti_sub (by omega) (by omega)
        have hk2 : 1 - way % 2 < 2 := by omega
        rcases tk_one i1 (r := r) (lv := way / 2) hk2 (L := m - t) (by omega) with ⟨n1, n2⟩ | ⟨g, p, g1, g2, g3, g4, g5, g6, g7, g8, g9, g10, g11, g12, g13, g14⟩
        · refine ⟨_, (m.toInt - t.toInt).toNat + (4 - (way + 1)), tkP_none c1 (by omega) n2, by omega, ?_, i2, i3, by show way + 1 ≤ 4; omega, rfl⟩
          show TI (if way = 1 then evA W 19 r else W) n o
          by_cases w1 : way = 1
          · rw [if_pos w1]; exact i1.ev (by decide) (by decide) r
          · rw [if_neg w1]; exact i1
        · obtain ⟨i, hi⟩ : ∃ i, i = itsF W (way / 2) r (1 - way % 2) g p (m - t) := ⟨_, rfl⟩
          rw [← hi] at g9 g10 g11 g12
          have hti : (t + i).toInt = t.toInt + i.toInt := ti_add (by omega) (by omega)
          exact ⟨_, (m.toInt - (t + i).toInt).toNat + (4 - way), tkP_some c1 (by omega) g9, by omega, g12, by show 0 ≤ (t + i).toInt; omega, by show (t + i).toInt ≤ 999; omega, i4, rfl⟩) _ (sx (sx V 14 (noStk V r)) 15 (totF (sx V 14 (noStk V r))), stkF V r, 0) ⟨d1, s2, hs9, by show 0 ≤ 4; omega, rfl⟩
  exact ⟨x, _, hD, hx⟩
theorem hi_ex {p : Nat} : ∀ (l : List Nat) (V : WV), TI V n o → Sfx (thV V) (pfV V) l → ∃ V', HiR p l V V'
  | [], V, _, _ => ⟨V, rfl⟩
  | x :: l, V, hI, hs => by
    obtain ⟨hx, htx, hp, hs', hl⟩ := hs.cons hI.1.1.tree
    unfold HiR
    by_cases hc : V.1 15 x ≤ V.1 7 x
    · simp only [if_pos hc]
      exact hi_ex l V hI hs'
    · simp only [if_neg hc]
      obtain ⟨m1, m2⟩ := hi_m hI hx htx
      have hIe := hI.ev (c := 20) (by decide) (by decide) x
      obtain ⟨y, hy⟩ := tk_ex hIe (r := x) m2
      obtain ⟨a1, a2, a3, a4, -, -⟩ := tk_post hIe m2 hy
      have k2 : HiK p V (stl y.1 p (y.1.1 15 x - y.1.1 7 x)) := (a2.hik p x).trans (stl_hik _ _ _)
      obtain ⟨V', hV⟩ := hi_ex l (stl y.1 p (y.1.1 15 x - y.1.1 7 x)) a1 (by rw [k2.th, k2.pf]; exact hs')
      exact ⟨V', y.1, y.2, hy, hV⟩
end MCHARGE
