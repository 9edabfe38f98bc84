/-! calls that act: use -/
variable {kt : Nat}
def SwGe (V V' : WV) : Prop := ∀ q, q < 16 → phV V' q = true → (V.1 29 q).toInt ≤ (V'.1 29 q).toInt
section USE
variable {V : WV} {n s : Nat} {o : Nat → Nat} {M : Nat → Int32}
theorem SwGe.refl (V : WV) : SwGe V V := fun _ _ _ => Int.le_refl _
theorem SwGe.trans {V' V'' : WV} (h : SwGe V V') (h' : SwGe V' V'') (hf : Fr V' V'') : SwGe V V'' := fun q hq ht => Int.le_trans (h q hq (hf.2.2 q hq ht).1) (h' q hq ht)
theorem SwGe.same {V' : WV} (h : V'.1 29 = V.1 29) : SwGe V V' := fun q _ _ => by rw [h]; exact Int.le_refl _
theorem tk_sw (h : TI V n o) {r : Nat} {m : Int32} (hm : m.toInt ≤ 999) {x : WV × Int32} (hT : TkRes V r m x) : SwGe V x.1 := by
  obtain ⟨V1, hD, hE⟩ := hT
  obtain ⟨d1, d2, d3⟩ := drn_post h hD
  obtain ⟨s1, s2, s3⟩ := stkF_I h.2.1 r
  have hs9 : (stkF V r).toInt ≤ 999 := by have := h.2.1.2.2; have := h.2.1.pgs0; omega
  have h24 : ∀ W : WV, TkK V W → phV W = phV V := fun W hk => phV_same (hk.1 24 (by decide) (by decide) (by decide) (by decide) (by decide) (by decide) (by decide))
  refine (hE.ind (fun s => TI s.1 n o ∧ TkK V s.1 ∧ SwGe V s.1 ∧ 0 ≤ s.2.1.toInt ∧ s.2.1.toInt ≤ 999) (fun x => TkK V x.1 ∧ SwGe V x.1) (fun s hI => ?_) ⟨d1, d2, ?_, s2, hs9⟩).2
  · obtain ⟨W, t, way⟩ := s
    obtain ⟨i1, i2, i4, i5, i6⟩ : TI W n o ∧ TkK V W ∧ SwGe V W ∧ 0 ≤ t.toInt ∧ t.toInt ≤ 999 := hI
    by_cases c1 : m ≤ t
    · have e : tkP r m (W, t, way) = .inr (W, t) := by unfold tkP; rw [if_pos c1]
      rw [e]; exact ⟨i2, i4⟩
    · have c1' : t.toInt < m.toInt := Int.not_le.mp (fun z => c1 (ti_le.mpr z))
      by_cases c2 : 4 ≤ way
      · have e : tkP r m (W, t, way) = .inr (W, t) := by unfold tkP; simp only [if_neg c1, if_pos c2]
        rw [e]; exact ⟨i2, i4⟩
      · have hL : (m - t).toInt = m.toInt - t.toInt := ti_sub (by omega) (by omega)
        have hk2 : 1 - way % 2 < 2 := by omega
        rcases tk_one i1 (r := r) (lv := way / 2) hk2 (L := m - t) (by omega) with ⟨n1, n2⟩ | ⟨g, p, g1, g2, g3, g4, g5, g6, g7, g8, g9, g10, g11, g12, g13, g14⟩
        · rw [tkP_none c1 (by omega) n2]
          by_cases w1 : way = 1
          · simp only [if_pos w1]
            exact ⟨TI.ev i1 (by decide) (by decide) r, i2.trans ⟨fun c a1 a2 a3 a4 a5 a6 a7 => by unfold evA; rw [sx_1, up_n _ _ a4], rfl⟩, i4, i5, i6⟩
          · simp only [if_neg w1]
            exact ⟨i1, i2, i4, i5, i6⟩
        · rw [tkP_some c1 (by omega) g9]
          obtain ⟨i, hi⟩ : ∃ i, i = itsF W (way / 2) r (1 - way % 2) g p (m - t) := ⟨_, rfl⟩
          rw [← hi] at g10 g11 g12 g13 ⊢
          have hti : (t + i).toInt = t.toInt + i.toInt := ti_add (by omega) (by omega)
          refine ⟨g12, i2.trans g13, fun x hx hpx => ?_, by show 0 ≤ (t + i).toInt; omega, by show (t + i).toInt ≤ 999; omega⟩
          have hpV : phV V x = true := by rw [← h24 _ (i2.trans g13)]; exact hpx
          have hWx : phV W x = true := by rw [h24 W i2]; exact hpV
          have a1 := i4 x hx hWx
          have hsw := (i1.2.1.sw hx hWx)
          have hsn := i1.2.2.2
          have h29 := (i1.2.1.2.1 x hx hWx).2.2
          have hk01 : 1 - way % 2 = 0 ∨ 1 - way % 2 = 1 := by omega
          show (V.1 29 x).toInt ≤ ((tkV W p (1 - way % 2) i).1 29 x).toInt
          rcases hk01 with e | e
          · rw [e]
            have e29 : (tkV W p 0 i).1 29 x = upd (W.1 29) p (W.1 29 p + i) x := rfl
            rw [e29]
            by_cases ex : x = p
            · subst ex
              rw [upd_s, ti_add (by have := hsn.1; have := hsn.2; omega) (by have := hsn.1; have := hsn.2; omega)]; omega
            · rw [upd_ne _ _ ex]; exact a1
          · rw [e]
            have e29 : (tkV W p 1 i).1 29 x = W.1 29 x := rfl
            rw [e29]; exact a1
  · obtain ⟨t, rfl, -⟩ := hD
    exact fun x _ _ => Int.le_refl _
theorem str_sw (h : TI V n o) (r : Nat) : SwGe V (strV V r) := fun q hq ht => by
  obtain ⟨-, -, -, h4, h5⟩ := str_TI h r
  rw [h4 q hq] at ht
  obtain ⟨p1, p2⟩ := Bool.and_eq_true_iff.mp ht
  have hd : dyS V r q = false := by simpa using p2
  rw [h5 q hq hd 29 (by decide) (by decide)]; exact Int.le_refl _
theorem mk_sw {p g : Nat} {d : Int32} (hg : g < 12) (h0 : 0 ≤ d.toInt) (h9 : d.toInt ≤ 999) {res : Int32 × WV} : ∀ (k : Nat) (V : WV) (told : Int32), MkR p g d k V told res → TI V n o → MaxOK V → thV V g = true → SwGe V res.2 ∧ Fr V res.2
  | 0, V, told, h, _, _, _ => h.elim
  | k + 1, V, told, h, hI, hM, ht => by
    unfold MkR at h
    cases hf : fstAb V g d with
    | none =>
      rw [hf] at h
      have h' : res = (told, V) := h
      rw [h']; exact ⟨SwGe.refl V, Fr.refl V⟩
    | some f =>
      rw [hf] at h
      obtain ⟨V1, t, hT, h⟩ := h
      obtain ⟨f1, f2, f3, f4⟩ := fst_mem hI.1.1 hg ht hf
      obtain ⟨m1, m2, m3⟩ := mF_I hI hM f1 f2 h0 h9
      have hIe := hI.ev (c := 21) (by decide) (by decide) f
      obtain ⟨b1, b2, b3, -, -, -⟩ := tk_post hIe m3 hT
      have fr1 : Fr V V1 := (fr_ev V (by decide) (by decide) f).trans b2.fr
      have sw1 : SwGe V V1 := fun q hq hp => tk_sw hIe m3 hT q hq hp
      have hM1 : MaxOK V1 := hM.le b3 fr1
      have ht1 : thV V1 g = true := by rw [fr1.th]; exact ht
      have st := str_TI b1 f
      have frS := str_fr b1 f
      have swS := str_sw b1 f
      by_cases c1 : V1.1 15 f + d ≤ V1.1 8 f
      · rw [if_pos c1] at h
        obtain ⟨a1, a2⟩ := mk_sw hg h0 h9 k V1 _ h b1 hM1 ht1
        exact ⟨sw1.trans a1 a2, fr1.trans a2⟩
      · rw [if_neg c1] at h
        by_cases c2 : mkB 16 (dyS V1 f) = 0
        · rw [if_pos c2] at h
          rw [h]; exact ⟨sw1.trans swS frS, fr1.trans frS⟩
        · rw [if_neg c2] at h
          by_cases c3 : dyS V1 f p = true
          · rw [if_pos c3] at h
            rw [h]; exact ⟨sw1.trans swS frS, fr1.trans frS⟩
          · rw [if_neg c3] at h
            obtain ⟨a1, a2⟩ := mk_sw hg h0 h9 k (strV V1 f) _ h st.1 (hM1.le st.2.1 frS) (by rw [frS.th]; exact ht1)
            exact ⟨(sw1.trans swS frS).trans a1 a2, (fr1.trans frS).trans a2⟩
theorem hi_sw {p : Nat} : ∀ (l : List Nat) (V V' : WV), HiR p l V V' → TI V n o → Sfx (thV V) (pfV V) l → ∀ q, q < 16 → phV V q = true → (V.1 29 q).toInt ≤ (V'.1 29 q).toInt
  | [], V, V', h, _, _, q, _, _ => by
    have h' : V' = V := h
    rw [h']; exact Int.le_refl _
  | x :: l, V, V', h, hI, hs, q, hq, hp => by
    obtain ⟨hx, htx, hp', hs', hl⟩ := hs.cons hI.1.1.tree
    unfold HiR at h
    by_cases hc : V.1 15 x ≤ V.1 7 x
    · rw [if_pos hc] at h
      exact hi_sw l V V' h hI hs' q hq hp
    · rw [if_neg hc] at h
      obtain ⟨V1, t, hT, h⟩ := h
      obtain ⟨m1, m2⟩ := hi_m hI hx htx
      have hIe := hI.ev (c := 20) (by decide) (by decide) x
      obtain ⟨b1, b2, b3, -, -, -⟩ := tk_post hIe m2 hT
      have hik := b2.hik p x
      have ph1 : phV V1 = phV V := hik.ph
      have s1 := tk_sw hIe m2 hT q hq (by show phV V1 q = true; rw [ph1]; exact hp)
      have hst : TI (stl V1 p (V1.1 15 x - V1.1 7 x)) n o := by
        obtain ⟨hC, hN, hL, hS⟩ := b1
        exact ⟨⟨hC.1.same rfl rfl rfl, hC.2.1.same rfl rfl, hC.2.2.1.same rfl rfl rfl rfl rfl rfl, hC.2.2.2.same rfl rfl rfl rfl⟩, hN.same rfl rfl rfl rfl rfl rfl, hL, hS⟩
      have th1 : thV V1 = thV V := hik.th
      have pf1 : pfV V1 = pfV V := hik.pf
      have s2 := hi_sw l (stl V1 p (V1.1 15 x - V1.1 7 x)) V' h hst (by
        have e1 : thV (stl V1 p (V1.1 15 x - V1.1 7 x)) = thV V1 := rfl
        have e2 : pfV (stl V1 p (V1.1 15 x - V1.1 7 x)) = pfV V1 := rfl
        rw [e1, e2, th1, pf1]; exact hs') q hq (by
        have e1 : phV (stl V1 p (V1.1 15 x - V1.1 7 x)) = phV V1 := rfl
        rw [e1, ph1]; exact hp)
      exact Int.le_trans s1 s2
theorem ad_sw (hW : WOK kt V n o s) {p k : Nat} (hp : p < 16) (ht : phV V p = true) (hk : k < 2) {d : Int32} (h0 : 1 ≤ d.toInt) (h9 : d.toInt ≤ 99) {r : Int32 × WV} (hr : AdR V p k d r) : SwGe V r.2 := by
  obtain ⟨g1, g2, g3⟩ := hW.ti.1.2.1.at hp ht
  have p29 : ∀ W : WV, (pgsA W p k d).1 29 = W.1 29 := fun W => pgsA_c d (by decide) (by omega)
  have s29 : ∀ (W : WV) (g : Nat) (x : Int32), (stkA W g x).1 29 = W.1 29 := fun W g x => by unfold stkA; rw [sx_1, up_n _ _ (by decide), sx_1, up_n _ _ (by decide)]
  unfold AdR at hr
  by_cases c1 : V.1 14 (hom V p) < d
  · rw [if_pos c1] at hr
    by_cases c2 : fstAb V (hom V p) (mxI d (V.1 0 4)) = none
    · rw [if_pos c2] at hr
      have h2 : r.2 = stkA (pgsA V p k d) (hom V p) (mxI d (V.1 0 4) - d) := by rw [hr]
      rw [h2]
      exact SwGe.same ((s29 _ _ _).trans (p29 V))
    · rw [if_neg c2] at hr
      obtain ⟨m, r', -, hM, hc⟩ := hr
      have hb := mk_sw g1 (by omega) (by omega) m V 0 hM hW.ti hW.mx g2
      rcases hc with ⟨-, -, -, h2⟩ | ⟨-, h2⟩
      · rw [h2]; exact hb.1
      · have h3 : r.2 = pgsA r'.2 p k d := by rw [h2]
        rw [h3]
        exact hb.1.trans (SwGe.same (p29 r'.2)) (pgsA_fr hk d)
  · rw [if_neg c1] at hr
    have h2 : r.2 = pgsA (stkA V (hom V p) (-d)) p k d := by rw [hr]
    rw [h2]
    exact SwGe.same ((p29 (stkA V (hom V p) (-d))).trans (s29 _ _ _))
theorem cg_sw (hW : WOK kt V n o s) {p k : Nat} (hp : p < 16) (ht : phV V p = true) (hk : k < 2) {d : Int32} (h0 : 1 ≤ d.toInt) (h9 : d.toInt ≤ 99) {res : Int32 × WV} (hr : CgR V p k d res) (hpr : phV res.2 p = true) : (V.1 29 p).toInt ≤ (res.2.1 29 p).toInt := by
  obtain ⟨r, h1, h2⟩ := hr
  have hs := ad_sw hW hp ht hk h0 h9 h1
  rcases h2 with ⟨-, -, -, rfl⟩ | ⟨q1, V', q2, rfl⟩
  · exact hs p hp hpr
  · rcases ad_wok hW hp ht hk h0 h9 h1 with h | ⟨hA, h | ⟨h2, h3⟩⟩
    · rw [h] at q1; exact absurd q1 (by decide)
    · rw [h] at q1; exact absurd q1 (by decide)
    · obtain ⟨g1, g2, g3⟩ := hA.ti.1.2.1.at hp h3
      exact Int.le_trans (hs p hp h3) (hi_sw _ _ _ q2 hA.ti (Sfx.pth g1 g2) p hp h3)
/-- pages come back from swap, the process stalls for them -/
def useV (V : WV) (p : Nat) (m : Int32) : WV := addSt (swpA V p (-m)) p ((m + 3) / 4)
theorem wok_use (hW : WOK kt V n o s) {p : Nat} (hp : p < 16) (ht : phV V p = true) {m : Int32} (h0 : 1 ≤ m.toInt) (h9 : m.toInt ≤ 99) (hm : m.toInt ≤ (V.1 29 p).toInt) : WOK kt (useV V p m) n o s := by
  obtain ⟨hC, hN, hL, hS⟩ := id hW.ti
  have hneg : (-m).toInt = -m.toInt := ti_neg (by omega)
  have hsw := hN.sw hp ht
  have e29 : (swpA V p (-m)).1 29 = upd (V.1 29) p (V.1 29 p + -m) := rfl
  have v29 : (V.1 29 p + -m).toInt = (V.1 29 p).toInt - m.toInt := by
    rw [ti_add (by rw [hneg]; have := hS.1; have := hS.2; omega) (by rw [hneg]; have := hS.1; have := hS.2; omega), hneg]; omega
  have cs := hC.swap hp ht (-m)
  have c : ∀ c, c ≠ 16 → c ≠ 29 → c ≠ 30 → (useV V p m).1 c = V.1 c := fun c h1 h2 h3 => by
    unfold useV addSt swpA
    rw [sx_1, up_n _ _ h3, sx_1, up_n _ _ h1, sx_1, up_n _ _ h2]
  have u29 : (useV V p m).1 29 = upd (V.1 29) p (V.1 29 p + -m) := rfl
  have u30 : (useV V p m).1 30 = upd (V.1 30) p (mnI 20 (V.1 30 p + (m + 3) / 4)) := rfl
  have e24 := c 24 (by decide) (by decide) (by decide)
  have e2 := c 2 (by decide) (by decide) (by decide)
  have e0 := c 0 (by decide) (by decide) (by decide)
  have hph : phV (useV V p m) = phV V := phV_same e24
  refine ⟨⟨⟨cs.1.same rfl rfl rfl, cs.2.1.same rfl rfl, cs.2.2.1.same rfl rfl rfl rfl rfl rfl, cs.2.2.2.same rfl rfl rfl rfl⟩, ⟨?_, fun q hq hh => ?_, ?_⟩, ?_, ?_⟩, ?_, ?_, ?_, fun q hq hh => ?_, ?_, ?_, ?_, ?_⟩
  · rw [thV_same e2, c 14 (by decide) (by decide) (by decide)]; exact hN.1
  · rw [hph] at hh
    rw [c 27 (by decide) (by decide) (by decide), c 28 (by decide) (by decide) (by decide), u29]
    have h := hN.2.1 q hq hh
    refine ⟨h.1, h.2.1, ?_⟩
    by_cases e : q = p
    · rw [e, upd_s, v29]; omega
    · rw [upd_ne _ _ e]; exact h.2.2
  · have h := hN.2.2
    unfold stkI pgsI at h ⊢
    rw [thV_same e2, hph, c 14 (by decide) (by decide) (by decide), c 27 (by decide) (by decide) (by decide), c 28 (by decide) (by decide) (by decide)]; exact h
  · have h := hL
    unfold LimR at h ⊢
    rw [thV_same e2, c 5 (by decide) (by decide) (by decide), c 6 (by decide) (by decide) (by decide), c 7 (by decide) (by decide) (by decide), c 8 (by decide) (by decide) (by decide), c 10 (by decide) (by decide) (by decide), c 11 (by decide) (by decide) (by decide), c 12 (by decide) (by decide) (by decide)]; exact h
  · have e : swpI (useV V p m) = swpI V + (-m.toInt) := by
      unfold swpI
      refine isum_upd (k := p) 16 hp ?_ (fun q hq hne => ?_)
      · rw [hph, ht, u29, upd_s, if_pos rfl, if_pos rfl, v29]; omega
      · rw [hph, u29, upd_ne _ _ hne]
    unfold SwN
    rw [e, e0]
    have := hS.1; have := hS.2; omega
  · have h := hW.mx
    unfold MaxOK at h ⊢
    rw [thV_same e2, c 15 (by decide) (by decide) (by decide), c 8 (by decide) (by decide) (by decide)]; exact h
  · have h := hW.dd
    unfold DedOK at h ⊢
    rw [hph, c 27 (by decide) (by decide) (by decide), c 28 (by decide) (by decide) (by decide), c 31 (by decide) (by decide) (by decide)]; exact h
  · have h := hW.tg
    unfold TrgN trg tww at h ⊢
    rw [c 52 (by decide) (by decide) (by decide), c 53 (by decide) (by decide) (by decide), c 54 (by decide) (by decide) (by decide), thV_same e2]; exact h
  · rw [hph] at hh
    unfold StB
    rw [u30]
    by_cases e : q = p
    · rw [e, upd_s]
      have hb := q4_bd (a := m) (by omega) (by omega)
      have hst := hW.st p hp ht
      have h1 := hst.1
      have h2 := hst.2
      have t20 : (20 : Int32).toInt = 20 := rfl
      rw [ti_mn, t20, ti_add (by omega) (by omega)]; omega
    · rw [upd_ne _ _ e]; exact hW.st q hq hh
  · have h := hW.td
    unfold TdB at h ⊢
    rw [hph, c 31 (by decide) (by decide) (by decide)]; exact h
  · rw [e0]; exact hW.bt
  · rw [e0]; exact hW.cap
  · rw [e0]; exact hW.tik
theorem Rel.swpM (h : Rel V M) {p : Nat} (hp : p < 16) (d : Int32) : Rel (swpA V p d) (upd M (415 + 8 * p + 5) (V.1 29 p + d)) := by
  have h1 := h.prc (p := p) (f := 5) hp (by decide) (by decide) (V.1 29 p + d)
  exact h1.same ⟨fun c _ _ _ h16 => by unfold swpA; rw [sx_1, up_n _ _ h16]; rfl, rfl⟩
theorem T_use (p x : Int32) : TH (fun h => F_X9_use h 0 p x) (fun h => F_X10_use h 756 p x) := act fun im N G z e n o s hG hW => by
  have hN := hG.n
  have c0 : (0 : Int64).toInt = 0 := rfl
  have c2 : (2 : Int64).toInt = 2 := rfl
  have d1 : (1 : Int32).toInt = 1 := rfl
  have d99 : (99 : Int32).toInt = 99 := rfl
  rcases p_cs (get 1 G) p with hf | ⟨a, ha, rfl, ht⟩
  · left
    refine ⟨-2, ?_, fun P U hP _ hR => ⟨thr U, ?_, thr_same U⟩⟩
    · unfold F_X9_use
      simp only [gl hN, gv hN, g_phas hN, hf, Bool.false_eq_true, if_false, if_true, Option.bind_some]
    · have hw : wrgF (get 1 G) p 0 x = -2 := by unfold wrgF; rw [hf]; rfl
      unfold F_X10_use
      simp only [m_thr hP, ml hP, Option.bind_some, m_refused hP (U := thr U) hR, hw, if_neg (show ¬ (-2 : Int32) = 0 by decide)]
  · have hal : (inb (nI a) 16 && phV (get 1 G) (nI a).toNatClampNeg) = true := by rw [inb_nI ha (by decide), nI_clamp (by omega), ht]; rfl
    by_cases hx : 1 ≤ x.toInt ∧ x.toInt ≤ 99
    · have hw : wrgF (get 1 G) (nI a) 0 x = 0 := by unfold wrgF; rw [hal, if_pos rfl, if_pos (by decide), if_pos hx]
      have r1 : gR (PG im N G) 24 0 3 = some 30 := at_lv (F := fun h => gR h 24 0 3) hN G fun P hX => (cl hX.1.lc).2.2.2.2.1 _
      have r2 : aI (PG im N G) 30 (nI a) = some ((get 1 G).1 29 a) := at_lv (F := fun h => aI h 30 (nI a)) hN G fun P hX => hX.1.ldi (V := get 1 G) (o := 29) (by decide) (by decide) rfl (by decide) ha
      by_cases hs : x ≤ (get 1 G).1 29 a
      · right
        obtain ⟨G1, V1, Q1, t1, t2, t3⟩ := c_try hG
        have hL2 := l2_at (im := im) (w1 N) hN G1
        have hW1 := t1.wok hW
        have htV : phV V1 a = true := by rw [t1.ph ha]; exact ht
        obtain ⟨r, Q2, res, Q3, a1, a2, a3, a4⟩ := c_cg hL2 hW1 ha htV (k := 0) (by decide) hx.1 hx.2 Q1
        have a1' : F_X3_admit (P2 im N 1 G1 V1 Q1) 752 1 (nI a) 0 x = some (r.1, P2 im N 1 G1 r.2 Q2) := a1
        have a2' : F_X3_pressToHigh (P2 im N 1 G1 r.2 Q2) 752 1 (nI a) r.1 = some (res.1, P2 im N 1 G1 res.2 Q3) := a2
        have hb := hW1.bt
        have hwk := cg_wok hW1 ha htV (k := 0) (by decide) hx.1 hx.2 a3
        have mC : ∀ (P : WV → Hp) (U : WV), LM 756 P → Rel (get 1 G) (U.1 1) → ∃ U2, F_X10_charges (P (bgn (thr U))) 756 (nI a) 0 x = some (res.1, P U2) ∧ Keep (bgn (thr U)) U2 ∧ Rel res.2 (U2.1 1) := fun P U hP hR => m_charges hP (U := bgn (thr U)) (by rw [bgn_1]; exact t1.rel hR) hW1.ti hW1.mx hW1.dd ha htV (k := 0) (by decide) hx.1 hx.2 ⟨by omega, hb.2⟩ (hW1.st a ha htV) a3
        have f0 : ∀ (P : WV → Hp) (U : WV), LM 756 P → Rel (get 1 G) (U.1 1) → F_X10_ofProcess (P (thr U)) 756 (nI a) 5 0 = some ((get 1 G).1 29 a, P (thr U)) := fun P U hP hR => m_pr hP (U := thr U) hR ha ht (f := 5) (by decide)
        by_cases h012 : res.1 = 0 ∨ res.1 = 1 ∨ res.1 = 2
        · obtain ⟨hWr, hpr⟩ : WOK _ res.2 n o s ∧ phV res.2 a = true := by
            rcases hwk with h | ⟨h1, h | ⟨-, h3⟩⟩
            · rw [h] at h012; exact absurd h012 (by decide)
            · rw [h] at h012; exact absurd h012 (by decide)
            · exact ⟨h1, h3⟩
          have hsw := cg_sw hW1 ha htV (k := 0) (by decide) hx.1 hx.2 a3 hpr
          have hsx : x.toInt ≤ (res.2.1 29 a).toInt := by
            rw [t1.c 29 (by omega) a ha] at hsw
            rw [ti_le] at hs; omega
          have hW' := wok_use hWr ha hpr hx.1 hx.2 hsx
          have hp : 0 ≤ res.1 := by rcases h012 with h | h | h <;> rw [h] <;> decide
          have hin : 0 ≤ res.1.toInt ∧ res.1.toInt ≤ 2 := by rcases h012 with h | h | h <;> rw [h] <;> decide
          have hn : ¬ res.1 < 0 := Int32.not_lt.mpr hp
          have hol : ∀ h : Hp, F_X9_outlives h res.1 = some 1 := fun h => by
            unfold F_X9_outlives
            rcases h012 with q | q | q <;> rw [q] <;> rfl
          have w1' : F_X8_swapOut (P2 im N 1 G1 res.2 Q3) 1 (nI a) (-x) = some (P2 im N 1 G1 (swpA res.2 a (-x)) Q3) := s_swapOut (hL2.1 Q3) hWr.ti.1.1 hWr.ti.1.2.1 ha hpr (-x)
          have w2' : F_X0_addStall (P2 im N 1 G1 (swpA res.2 a (-x)) Q3) (1 + 23) (nI a) ((x + 3) / 4) = some (P2 im N 1 G1 (useV res.2 a x) Q3) := s_addStall (V := swpA res.2 a (-x)) (hL2.1 Q3).lc ha _
          obtain ⟨G3, s1, s2⟩ := t3 (useV res.2 a x) Q3 res.1
          rw [if_pos hp] at s2
          refine ⟨res.1, useV res.2 a x, G3, ?_, by rw [if_pos hp]; exact ⟨s2, n, o, s, hW'.mono (by omega)⟩, fun P U hP _ hR h8 => ?_⟩
          · unfold F_X9_use
            simp only [gl hN, gv hN, g_phas' hN G ha, ht, if_true, if_neg i10, o_out, d1, d99, if_pos hx, Option.bind_some, r1, r2, if_pos hs, t2, g2 hN 1 G1, a1', a2', un, hol, ol (hL2.1 Q3).lo, cl (hL2.1 Q3).lc, w1', s_stallFor, w2', s1]
          · obtain ⟨U2, b1, b2, b3⟩ := mC P U hP hR
            have f1 : F_X10_ofProcess (P U2) 756 (nI a) 5 (-x) = some (res.2.1 29 a + -x, P (sx U2 1 (upd (U2.1 1) (415 + 8 * a + 5) (res.2.1 29 a + -x)))) := m_prD hP b3 ha hpr (f := 5) (by decide) (-x)
            obtain ⟨U4, hU4⟩ : ∃ U4, U4 = sx U2 1 (upd (U2.1 1) (415 + 8 * a + 5) (res.2.1 29 a + -x)) := ⟨_, rfl⟩
            rw [← hU4] at f1
            have hR4 : Rel (swpA res.2 a (-x)) (U4.1 1) := by rw [hU4]; exact b3.swpM ha (-x)
            obtain ⟨q1, q2⟩ := m_stallsMore hP hR4 ha hpr x
            have k4 : Keep U2 U4 := by rw [hU4]; exact Keep.up U2 (by omega) _
            obtain ⟨U3, m1, m2⟩ := m_told hP (thr_same U) hG.2.1 h8 (b2.trans (k4.trans (Keep.up U4 (by omega) _))) q2 res.1
            refine ⟨U3, ?_, by rw [if_pos hp]; exact m2⟩
            unfold F_X10_use
            simp only [m_thr hP, ml hP, m_refused hP (U := thr U) hR, hw, if_true, Option.bind_some, f0 P U hP hR, un, if_pos hs, m_bgn hP, b1, m_within, c0, c2, if_pos hin, if_neg i10, f1, q1, if_neg hn, m1]
        · have hol : ∀ h : Hp, F_X9_outlives h res.1 = some 0 := fun h => by
            unfold F_X9_outlives
            rw [if_neg (fun q => h012 (Or.inl q)), if_neg (fun q => h012 (Or.inr (Or.inl q))), if_neg (fun q => h012 (Or.inr (Or.inr q)))]
          have hin : ¬ (0 ≤ res.1.toInt ∧ res.1.toInt ≤ 2) := fun hq => by
            obtain ⟨j, hj, e⟩ := v_in (K := 2) (by decide) hq
            have : j = 0 ∨ j = 1 ∨ j = 2 := by omega
            rcases this with rfl | rfl | rfl
            · exact h012 (Or.inl e)
            · exact h012 (Or.inr (Or.inl e))
            · exact h012 (Or.inr (Or.inr e))
          obtain ⟨G3, s1, s2⟩ := t3 res.2 Q3 res.1
          refine ⟨res.1, res.2, G3, ?_, ?_, fun P U hP _ hR h8 => ?_⟩
          · unfold F_X9_use
            simp only [gl hN, gv hN, g_phas' hN G ha, ht, if_true, if_neg i10, o_out, d1, d99, if_pos hx, Option.bind_some, r1, r2, if_pos hs, t2, g2 hN 1 G1, a1', a2', un, hol, s1]
          · by_cases hp : 0 ≤ res.1
            · rw [if_pos hp] at s2 ⊢
              rcases hwk with h | ⟨h, -⟩
              · rw [h] at hp; exact absurd hp (by decide)
              · exact ⟨s2, n, o, s, h.mono (by omega)⟩
            · rw [if_neg hp] at s2 ⊢; exact s2
          · obtain ⟨U2, b1, b2, b3⟩ := mC P U hP hR
            by_cases hp : 0 ≤ res.1
            · obtain ⟨U3, m1, m2⟩ := m_told hP (thr_same U) hG.2.1 h8 b2 b3 res.1
              have hn : ¬ res.1 < 0 := Int32.not_lt.mpr hp
              refine ⟨U3, ?_, by rw [if_pos hp]; exact m2⟩
              unfold F_X10_use
              simp only [m_thr hP, ml hP, m_refused hP (U := thr U) hR, hw, if_true, Option.bind_some, f0 P U hP hR, un, if_pos hs, m_bgn hP, b1, m_within, c0, c2, if_neg hin, if_neg hn, m1]
            · obtain ⟨U3, m1, m2⟩ := m_not hP (thr_same U) b2 res.1
              have hn : res.1 < 0 := Int32.not_le.mp hp
              refine ⟨U3, ?_, by rw [if_neg hp]; exact m2⟩
              unfold F_X10_use
              simp only [m_thr hP, ml hP, m_refused hP (U := thr U) hR, hw, if_true, Option.bind_some, f0 P U hP hR, un, if_pos hs, m_bgn hP, b1, m_within, c0, c2, if_neg hin, if_pos hn, m1]
      · left
        refine ⟨-3, ?_, fun P U hP _ hR => ⟨thr U, ?_, thr_same U⟩⟩
        · unfold F_X9_use
          simp only [gl hN, gv hN, g_phas' hN G ha, ht, if_true, if_neg i10, o_out, d1, d99, if_pos hx, Option.bind_some, r1, r2, if_neg hs]
        · have f0 : F_X10_ofProcess (P (thr U)) 756 (nI a) 5 0 = some ((get 1 G).1 29 a, P (thr U)) := m_pr hP (U := thr U) hR ha ht (f := 5) (by decide)
          unfold F_X10_use
          simp only [m_thr hP, ml hP, m_refused hP (U := thr U) hR, hw, if_true, Option.bind_some, f0, un, if_neg hs]
    · left
      have hw : wrgF (get 1 G) (nI a) 0 x = -3 := by unfold wrgF; rw [hal, if_pos rfl, if_pos (by decide), if_neg hx]
      refine ⟨-3, ?_, fun P U hP _ hR => ⟨thr U, ?_, thr_same U⟩⟩
      · unfold F_X9_use
        simp only [gl hN, gv hN, g_phas' hN G ha, ht, if_true, if_neg i10, o_out, d1, d99, if_neg hx, Option.bind_some]
      · unfold F_X10_use
        simp only [m_thr hP, ml hP, m_refused hP (U := thr U) hR, hw, if_neg (show ¬ (-3 : Int32) = 0 by decide), Option.bind_some]
end USE
