/-! HIGH is met -/
def stl (V : WV) (p : Nat) (a : Int32) : WV := addSt V p ((mxI 0 a + 3) / 4)
def HiR (p : Nat) : List Nat → WV → WV → Prop
  | [], V, V' => V' = V
  | x :: l, V, V' => if V.1 15 x ≤ V.1 7 x then HiR p l V V' else ∃ V1 t, TkRes (evA V 20 x) x (V.1 15 x - V.1 7 x) (V1, t) ∧ HiR p l (stl V1 p (V1.1 15 x - V1.1 7 x)) V'
/-- what meeting HIGH leaves as it is -/
def HiK (p : Nat) (V V' : WV) : Prop := (∀ c, c < 14 ∨ c = 17 ∨ c = 18 ∨ c = 21 ∨ c = 22 ∨ c = 24 ∨ c = 25 ∨ c = 31 ∨ c = 32 ∨ 33 ≤ c → V'.1 c = V.1 c) ∧ V'.2 = V.2 ∧ ∀ q, q ≠ p → V'.1 30 q = V.1 30 q
theorem HiK.refl (p : Nat) (V : WV) : HiK p V V := ⟨fun _ _ => rfl, rfl, fun _ _ => rfl⟩
theorem HiK.trans {p : Nat} {V V' V'' : WV} (h : HiK p V V') (h' : HiK p V' V'') : HiK p V V'' := ⟨fun c hc => (h'.1 c hc).trans (h.1 c hc), h'.2.1.trans h.2.1, fun q hq => (h'.2.2 q hq).trans (h.2.2 q hq)⟩
theorem HiK.th {p : Nat} {V V' : WV} (h : HiK p V V') : thV V' = thV V := thV_same (h.1 2 (by decide))
theorem HiK.pf {p : Nat} {V V' : WV} (h : HiK p V V') : pfV V' = pfV V := pfV_same (h.1 2 (by decide))
theorem HiK.ph {p : Nat} {V V' : WV} (h : HiK p V V') : phV V' = phV V := phV_same (h.1 24 (by decide))
theorem TkK.hik {V V' : WV} (p x : Nat) (h : TkK (evA V 20 x) V') : HiK p V V' := by
  have e : ∀ c, c ≠ 14 → c ≠ 15 → c ≠ 16 → c ≠ 19 → c ≠ 27 → c ≠ 28 → c ≠ 29 → c ≠ 20 → V'.1 c = V.1 c := fun c a1 a2 a3 a4 a5 a6 a7 a8 => (h.1 c a1 a2 a3 a4 a5 a6 a7).trans (up_n _ _ a8)
  exact ⟨fun c hc => e c (by omega) (by omega) (by omega) (by omega) (by omega) (by omega) (by omega) (by omega), h.2, fun q _ => by rw [e 30 (by decide) (by decide) (by decide) (by decide) (by decide) (by decide) (by decide) (by decide)]⟩
theorem stl_hik (V : WV) (p : Nat) (a : Int32) : HiK p V (stl V p a) := ⟨fun c hc => up_n _ _ (by omega), rfl, fun q hq => upd_ne _ _ hq⟩
def StB (V : WV) (p : Nat) : Prop := 0 ≤ (V.1 30 p).toInt ∧ (V.1 30 p).toInt ≤ 20
theorem q4_bd {a : Int32} (h0 : 0 ≤ a.toInt) (h9 : a.toInt ≤ 1000) : 0 ≤ ((a + 3) / 4).toInt ∧ ((a + 3) / 4).toInt ≤ 1003 := by
  have e3 : (3 : Int32).toInt = 3 := rfl
  have e4 : (4 : Int32).toInt = 4 := rfl
  have ha : (a + 3).toInt = a.toInt + 3 := by rw [ti_add (by omega) (by omega), e3]
  rw [Int32.toInt_div_of_ne_right _ _ (by decide), ha, e4, Int.tdiv_eq_ediv_of_nonneg (by omega)]
  omega
theorem stl_st {V : WV} {p : Nat} (h : StB V p) {a : Int32} (h9 : a.toInt ≤ 1000) : StB (stl V p a) p := by
  unfold StB at h ⊢
  have e : (stl V p a).1 30 p = mnI 20 (V.1 30 p + (mxI 0 a + 3) / 4) := upd_s _ _ _
  have hm : 0 ≤ (mxI 0 a).toInt ∧ (mxI 0 a).toInt ≤ 1000 := by rw [ti_mx, ti_0]; omega
  have hq := q4_bd hm.1 hm.2
  have e20 : (20 : Int32).toInt = 20 := rfl
  rw [e, ti_mn, ti_add (by omega) (by omega), e20]
  omega
section HIGH
variable {V Q : WV} {n : Nat} {o : Nat → Nat} {w q b : Nat}
theorem hi_m (h : TI V n o) {x : Nat} (hx : x < 12) (ht : thV V x = true) : (V.1 15 x - V.1 7 x).toInt = (V.1 15 x).toInt - (V.1 7 x).toInt ∧ (V.1 15 x - V.1 7 x).toInt ≤ 999 := by
  have h1 := h.2.1.tot h.1.2.2.1 hx ht
  have h2 := (h.2.2.1 x hx ht).2.2.1
  have := ti_sub (a := V.1 15 x) (b := V.1 7 x) (by omega) (by omega)
  exact ⟨this, by omega⟩
theorem hi_post {p : Nat} : ∀ (l : List Nat) (V V' : WV), HiR p l V V' → TI V n o → Sfx (thV V) (pfV V) l → TI V' n o ∧ TotLe V V' ∧ HiK p V V' ∧ (DedOK V → DedOK V') ∧ (StB V p → StB V' p)
  | [], V, V', h, hI, _ => by
    have h' : V' = V := h
    subst h'
    exact ⟨hI, fun _ _ _ => Int.le_refl _, HiK.refl p _, id, id⟩
  | x :: l, V, V', h, hI, hs => by
    obtain ⟨hx, htx, hp, hs', hl⟩ := hs.cons hI.1.1.tree
    unfold HiR at h
    by_cases hc : V.1 15 x ≤ V.1 7 x
    · rw [if_pos hc] at h
      exact hi_post l V V' h hI hs'
    · rw [if_neg hc] at h
      obtain ⟨V1, t, h1, h2⟩ := h
      obtain ⟨m1, m2⟩ := hi_m hI hx htx
      obtain ⟨a1, a2, a3, a4, -, -⟩ := tk_post (hI.ev (c := 20) (by decide) (by decide) x) m2 h1
      have a1' : TI V1 n o := a1
      have k1 : HiK p V V1 := a2.hik p x
      have k2 : HiK p V (stl V1 p (V1.1 15 x - V1.1 7 x)) := k1.trans (stl_hik _ _ _)
      have t1 : TI (stl V1 p (V1.1 15 x - V1.1 7 x)) n o := a1
      obtain ⟨b1, b2, b3, b4, b5⟩ := hi_post l _ V' h2 t1 (by rw [k2.th, k2.pf]; exact hs')
      refine ⟨b1, fun g hg htg => Int.le_trans (b2 g hg (by rw [k2.th]; exact htg)) (a3 g hg htg), k2.trans b3, fun hd => b4 (a4 hd), fun hst => b5 (stl_st ?_ ?_)⟩
      · have e : V1.1 30 = V.1 30 := a2.1 30 (by decide) (by decide) (by decide) (by decide) (by decide) (by decide) (by decide)
        unfold StB
        rw [e]; exact hst
      · have := (hi_m a1' hx (by rw [k1.th]; exact htx)).2; omega
theorem s_stallFor (h : Hp) (y : Int32) : F_X9_stallFor h y = some ((y + 3) / 4) := by
  unfold F_X9_stallFor dvI
  have e : y + 4 - 1 = y + 3 := by rw [Int32.sub_eq_add_neg, Int32.add_assoc, show (4 : Int32) + -1 = 3 by decide]
  rw [if_neg (show ¬ (4 : Int32) = 0 by decide), e, Option.bind_some]
theorem c_hiIn {P : WV → WV → Hp} (hP : L2 w q P) {W R V1 R1 : WV} {t : Int32} {p x : Nat} (hp : p < 16) (hx : x < 12) (c1 : F_X5_takePages (P (evA W 20 x) R) q w (nI x) (W.1 15 x - W.1 7 x) = some (t, P V1 R1)) :
    ((gR (P W R) (w + 1) 6 8).bind fun a23 =>
    (aR (P W R) a23 15 1).bind fun a24 =>
    (aI (P W R) a24 (nI x)).bind fun v25 =>
    (sI (P W R) a24 (nI x) (v25 + 1)).bind fun h26 =>
    (gR h26 (q + 7) 3 0).bind fun a27 =>
    (gR h26 (w + 1) 6 5).bind fun a28 =>
    (aI h26 a28 (nI x)).bind fun v29 =>
    (cO h26 a27 5 (F_X5_takePages h26 a27 w (nI x) (v29 - W.1 7 x))).bind (un fun v30 h31 =>
    (gR h31 w 8 1).bind fun a32 =>
    (gR h31 (w + 1) 6 5).bind fun a33 =>
    (aI h31 a33 (nI x)).bind fun v34 =>
    (F_X9_stallFor h31 (mxI 0 (v34 - W.1 7 x))).bind fun v35 =>
    (cO h31 a32 0 (F_X0_addStall h31 a32 (nI p) v35)).bind fun h36 =>
    some h36)) = some (P (stl V1 p (V1.1 15 x - W.1 7 x)) R1) := by
  have v0 : aR (P W R) (w + 18) 15 1 = some (w + (19 + 1)) := (tl (hP.1 R).lt).2.2.2.2.2.2.2.2.2.2.2.2.2.2.2.2.2.2.2.2.2.2.2.2.2.2.1 W 1 (by decide)
  have v1 : aI (P W R) (w + (19 + 1)) (nI x) = some (W.1 20 x) := (tl (hP.1 R).lt).2.2.2.2.2.2.2.2.2.2.2.2.2.2.2.2.2.2.2.2.2.2.2.2.2.2.2.1 W 1 x (by decide) hx
  have v2 : sI (P W R) (w + (19 + 1)) (nI x) (W.1 20 x + 1) = some (P (evA W 20 x) R) := (tl (hP.1 R).lt).2.2.2.2.2.2.2.2.2.2.2.2.2.2.2.2.2.2.2.2.2.2.2.2.2.2.2.2 W 1 x _ (by decide) hx
  have v3 : (evA W 20 x).1 15 x = W.1 15 x := rfl
  have v5 : ∀ y, F_X0_addStall (P V1 R1) (w + 23) (nI p) y = some (P (addSt V1 p y) R1) := fun y => s_addStall (P := fun V => P V R1) (hP.1 R1).lc hp y
  simp only [tl (hP.1 R).lt, hx, Option.bind_some, v0, v1, v2, v3, fun V => ql (hP.2 V), c1, un, ol (hP.1 R1).lo, cl (hP.1 R1).lc, tl (hP.1 R1).lt, s_stallFor, v5]
  rfl
theorem c_high {P : WV → WV → Hp} (hP : L2 w q P) (h : TI V n o) {p : Nat} (hp : p < 16) (ht : phV V p = true) {told : Int32} (hto : told = 0 ∨ told = 1 ∨ told = 2) (Q : WV) : ∃ V' Q', F_X3_pressToHigh (P V Q) (q + 7) w (nI p) told = some (told, P V' Q') ∧ HiR p (pth (pfV V) (hom V p)) V V' := by
  obtain ⟨g1, g2, g3⟩ := h.1.2.1.at hp ht
  have hT := h.1.1.tree
  obtain ⟨y, y1, V', Q', y2, y3⟩ := loop_pH (st := fun x => F_X3_pressToHigh_L31 (q + 7) w (nI p) told (w + 1) x.1 x.2.1 x.2.2) (fun l (a : WV × WV × Nat) => (hd l, nI a.2.2, P a.1 a.2.1))
    (fun l a => Sfx (thV V) (pfV V) l ∧ a.2.2 + l.length ≤ 12 ∧ TI a.1 n o ∧ HiK p V a.1 ∧ ∀ V', HiR p l a.1 V' → HiR p (pth (pfV V) (hom V p)) V V') (fun y => ∃ V' Q', y = P V' Q' ∧ HiR p (pth (pfV V) (hom V p)) V V')
    (fun x l a hI => by
      obtain ⟨W, R, st⟩ := a
      obtain ⟨hs, hk, hW, hK, hr⟩ : Sfx (thV V) (pfV V) (x :: l) ∧ st + (x :: l).length ≤ 12 ∧ TI W n o ∧ HiK p V W ∧ ∀ V', HiR p (x :: l) W V' → HiR p (pth (pfV V) (hom V p)) V V' := hI
      obtain ⟨hx, htx, hp', hs', hl⟩ := hs.cons hT
      have hst : st < 12 := by simp at hk; omega
      have htW : thV W x = true := by rw [hK.th]; exact htx
      have hpar : ∀ W' : WV, HiK p V W' → W'.1 2 x = hd l := fun W' hk' => by rw [hk'.1 2 (by decide)]; exact h.1.1.hdv hs
      have e2 : ∀ R, aR (P W R) (w + 4) 15 2 = some (w + (5 + 2)) := fun R => (tl (hP.1 R).lt).2.2.2.2.2.2.2.2.2.2.2.2.2.2.2.2.2.2.2.2.2.2.2.1 W 2 (by decide)
      have e7 : ∀ R, aI (P W R) (w + (5 + 2)) (nI x) = some (W.1 7 x) := fun R => (tl (hP.1 R).lt).2.2.2.2.2.2.2.2.2.2.2.2.2.2.2.2.2.2.2.2.2.2.2.2.1 W 2 x (by decide) hx
      left
      by_cases hc : W.1 15 x ≤ W.1 7 x
      · refine ⟨(W, R, st + 1), ?_, hs', by simp at hk; show st + 1 + l.length ≤ 12; omega, hW, hK, fun V' hv => hr V' (by unfold HiR; rw [if_pos hc]; exact hv)⟩
        show F_X3_pressToHigh_L31 (q + 7) w (nI p) told (w + 1) (nI x) (nI st) (P W R) = _
        unfold F_X3_pressToHigh_L31
        rw [if_neg (nI_ne1 (by omega)), h12I, if_neg (nI_ge hst (by decide))]
        simp only [tl (hP.1 R).lt, hx, e2, e7, Option.bind_some, if_pos hc, bl, nI_1, hpar W hK]
      · obtain ⟨m1, m2⟩ := hi_m hW hx htW
        obtain ⟨V1, t, R1, c1, c2, c3, c4, c5⟩ := c_take hP (hW.ev (c := 20) (by decide) (by decide) x) hx htW m2 R
        have k1 : HiK p W V1 := c4.hik p x
        have k2 : HiK p V (stl V1 p (V1.1 15 x - V1.1 7 x)) := hK.trans (k1.trans (stl_hik _ _ _))
        have e17 : V1.1 7 x = W.1 7 x := congrFun (k1.1 7 (by decide)) x
        refine ⟨(stl V1 p (V1.1 15 x - V1.1 7 x), R1, st + 1), ?_, hs', by simp at hk; show st + 1 + l.length ≤ 12; omega, c3, k2, fun V' hv => hr V' (by unfold HiR; rw [if_neg hc]; exact ⟨V1, t, c2, hv⟩)⟩
        show F_X3_pressToHigh_L31 (q + 7) w (nI p) told (w + 1) (nI x) (nI st) (P W R) = _
        unfold F_X3_pressToHigh_L31
        rw [if_neg (nI_ne1 (by omega)), h12I, if_neg (nI_ge hst (by decide))]
        have hin := c_hiIn hP (W := W) (R := R) hp hx c1
        rw [← e17] at hin
        simp only [tl (hP.1 R).lt, hx, e2, e7, Option.bind_some, if_neg hc]
        simp only [tl (hP.1 R).lt, hx, Option.bind_some] at hin
        rw [← e17, hin]
        simp only [tl (hP.1 R1).lt, hx, Option.bind_some, bl, nI_1, hpar _ k2])
    (fun a hI => by
      obtain ⟨W, R, st⟩ := a
      obtain ⟨hs, hk, hW, hK, hr⟩ : Sfx (thV V) (pfV V) [] ∧ st + 0 ≤ 12 ∧ TI W n o ∧ HiK p V W ∧ ∀ V', HiR p [] W V' → HiR p (pth (pfV V) (hom V p)) V V' := hI
      refine ⟨P W R, ?_, W, R, rfl, hr W rfl⟩
      show F_X3_pressToHigh_L31 (q + 7) w (nI p) told (w + 1) (-1) (nI st) (P W R) = _
      unfold F_X3_pressToHigh_L31
      rw [if_pos rfl])
    (pth (pfV V) (hom V p)) 6000 (V, Q, 0) (by have := pth_len (pfV V) (hom V p); omega) ⟨Sfx.pth g1 g2, by have := pth_len (pfV V) (hom V p); show 0 + _ ≤ 12; omega, h, HiK.refl p V, fun V' hv => hv⟩
  refine ⟨V', Q', ?_, y3⟩
  have y1' : loopF (fun x => F_X3_pressToHigh_L31 (q + 7) w (nI p) told (w + 1) x.1 x.2.1 x.2.2) 6000 (nI (hom V p), 0, P V Q) = some y := by
    rw [← y1]
    show _ = loopF _ 6000 (hd (pth (pfV V) (hom V p)), nI 0, P V Q)
    rw [pth_cons hT g1 g2]; rfl
  have ho : F_X9_outlives (P V Q) told = some 1 := by
    unfold F_X9_outlives
    rcases hto with e | e | e
    · rw [if_pos e]
    · rw [e, if_neg (by decide), if_pos rfl]
    · rw [e, if_neg (by decide), if_neg (by decide), if_pos rfl]
  unfold F_X3_pressToHigh
  simp only [ol (hP.1 Q).lo, cl (hP.1 Q).lc, ho, if_neg (show ¬ (1 : Int32) = 0 by decide), hp, g3, Option.bind_some, y1', y2]
theorem c_high0 {P : WV → WV → Hp} (hP : L2 w q P) {p : Nat} {told : Int32} (hto : ¬ told = 0 ∧ ¬ told = 1 ∧ ¬ told = 2) (V Q : WV) : F_X3_pressToHigh (P V Q) (q + 7) w (nI p) told = some (told, P V Q) := by
  have ho : F_X9_outlives (P V Q) told = some 0 := by
    unfold F_X9_outlives
    rw [if_neg hto.1, if_neg hto.2.1, if_neg hto.2.2]
  have hl : loopF (fun x => F_X3_pressToHigh_L31 (q + 7) w (nI p) told (w + 1) x.1 x.2.1 x.2.2) (5999 + 1) (-1, 0, P V Q) = some (P V Q) := by
    rw [loopF]
    have : F_X3_pressToHigh_L31 (q + 7) w (nI p) told (w + 1) (-1) 0 (P V Q) = some (.inr (P V Q)) := by
      unfold F_X3_pressToHigh_L31
      rw [if_pos rfl]
    show (F_X3_pressToHigh_L31 (q + 7) w (nI p) told (w + 1) (-1) 0 (P V Q)).bind _ = _
    rw [this]; rfl
  unfold F_X3_pressToHigh
  simp only [ol (hP.1 Q).lo, ho, if_true, Option.bind_some, hl]
/-! the model -/
theorem m_stallsMore {U : WV} {P : WV → Hp} (hP : LM b P) (hR : Rel V (U.1 1)) {p : Nat} (hp : p < 16) (ht : phV V p = true) (a : Int32) : F_X10_stallsMore (P U) b (nI p) a = some (P (sx U 1 (upd (U.1 1) (415 + 8 * p + 4) (mnI 20 (V.1 30 p + (a + 3) / 4))))) ∧ Rel (addSt V p ((a + 3) / 4)) ((sx U 1 (upd (U.1 1) (415 + 8 * p + 4) (mnI 20 (V.1 30 p + (a + 3) / 4)))).1 1) := by
  have hl : F_X10_laysProcess (P U) b (nI p) 4 (mnI 20 (V.1 30 p + (a + 3) / 4)) = some (P (sx U 1 (upd (U.1 1) (415 + 8 * p + 4) (mnI 20 (V.1 30 p + (a + 3) / 4))))) := m_laysP (f := 4) hP hp (by decide) _
  refine ⟨?_, hR.prc (f := 4) hp (by decide) (by decide) _⟩
  unfold F_X10_stallsMore dvI
  simp only [ml hP, mp hP V, hR, hp, ht, Option.bind_some, un, if_neg (show ¬ (4 : Int32) = 0 by decide), m_lesser, hl]
theorem m_high {P : WV → Hp} (hP : LM b P) {p : Nat} (hp : p < 16) : ∀ (l : List Nat) (N : Nat) (V U V' : WV), HiR p l V V' → TI V n o → Sfx (thV V) (pfV V) l → phV V p = true → StB V p → Rel V (U.1 1) → l.length < N → ∃ U', loopF (fun x => F_X10_meetsHigh_L6 b (nI p) x.1 x.2) N (hd l, P U) = some (P U') ∧ Keep U U' ∧ Rel V' (U'.1 1)
  | [], 0, _, _, _, _, _, _, _, _, _, h => absurd h (Nat.not_lt_zero _)
  | [], N + 1, V, U, V', h, hI, _, _, _, hR, _ => by
    have h' : V' = V := h
    subst h'
    refine ⟨U, ?_, Keep.refl U, hR⟩
    rw [loopF]
    have : F_X10_meetsHigh_L6 b (nI p) (-1) (P U) = some (.inr (P U)) := by
      unfold F_X10_meetsHigh_L6
      rw [if_pos rfl]
    show (F_X10_meetsHigh_L6 b (nI p) (-1) (P U)).bind _ = _
    rw [this]; rfl
  | x :: l, 0, _, _, _, _, _, _, _, _, _, h => absurd h (Nat.not_lt_zero _)
  | x :: l, N + 1, V, U, V', h, hI, hs, hph, hst, hR, hN => by
    obtain ⟨hx, htx, hp', hs', hl⟩ := hs.cons hI.1.1.tree
    obtain ⟨U1, a1, a2, -⟩ := m_totalOf hP hR hI.1 hx htx
    have hR1 := a2.rel hR
    have a3 : F_X10_of (P U1) b (nI x) 2 0 = some (V.1 7 x, P U1) := m_of (f := 2) hP hR1 hx htx (by decide) (by decide)
    obtain ⟨m1, m2⟩ := hi_m hI hx htx
    unfold HiR at h
    by_cases hc : V.1 15 x ≤ V.1 7 x
    · rw [if_pos hc] at h
      obtain ⟨U', y1, y2, y3⟩ := m_high hP hp l N V U1 V' h hI hs' hph hst hR1 (by simp at hN; omega)
      have hn : ¬ 0 < V.1 15 x - V.1 7 x := fun z => by have := ti_lt.mp z; have := ti_le.mp hc; rw [ti_0] at *; omega
      refine ⟨U', ?_, a2.keep.trans y2, y3⟩
      rw [loopF]
      have : F_X10_meetsHigh_L6 b (nI p) (nI x) (P U) = some (.inl (hd l, P U1)) := by
        unfold F_X10_meetsHigh_L6
        rw [if_neg (nI_ne1 (by omega))]
        simp only [ml hP, a1, a3, Option.bind_some, un, bl, if_neg hn, m_parent hP hR1 hx htx, hI.1.1.hdv hs]
      show (F_X10_meetsHigh_L6 b (nI p) (nI x) (P U)).bind _ = _
      rw [this]; exact y1
    · rw [if_neg hc] at h
      have hn : 0 < V.1 15 x - V.1 7 x := ti_lt.mpr (by
        have : ¬ (V.1 15 x).toInt ≤ (V.1 7 x).toInt := fun z => hc (ti_le.mpr z)
        rw [ti_0]; omega)
      have hn' := ti_lt.mp hn
      rw [ti_0] at hn'
      obtain ⟨V1, t, h1, h2⟩ := h
      have hIe := hI.ev (c := 20) (by decide) (by decide) x
      obtain ⟨b1, b2, b3, -, -, -⟩ := tk_post hIe m2 h1
      have k1 : HiK p V V1 := b2.hik p x
      have e1 := m_ofD (f := 12) hP hR1 hx htx (by decide) (by decide) 1
      have e1' : F_X10_of (P U1) b (nI x) 12 1 = some (V.1 20 x + 1, P (sx U1 1 (upd (U1.1 1) (7 + 34 * x + 12) (V.1 20 x + 1)))) := e1
      obtain ⟨Ua, hUa⟩ : ∃ Ua, Ua = sx U1 1 (upd (U1.1 1) (7 + 34 * x + 12) (V.1 20 x + 1)) := ⟨_, rfl⟩
      rw [← hUa] at e1'
      have hRa : Rel (evA V 20 x) (Ua.1 1) := by rw [hUa]; exact hR1.evG (k := 1) (by decide) hx
      have hka : Keep U1 Ua := by rw [hUa]; exact Keep.up _ (by omega) _
      obtain ⟨Ub, c1, c2, c3⟩ := m_takes hP hRa hIe hx htx m2 (by omega) h1
      have c1' : F_X10_takes (P Ua) b (nI x) (V.1 15 x - V.1 7 x) = some (t, P Ub) := c1
      have htx1 : thV V1 x = true := by rw [k1.th]; exact htx
      obtain ⟨Uc, d1, d2, -⟩ := m_totalOf hP c3 b1.1 hx htx1
      have hRc := d2.rel c3
      have d3 : F_X10_of (P Uc) b (nI x) 2 0 = some (V1.1 7 x, P Uc) := m_of (f := 2) hP hRc hx htx1 (by decide) (by decide)
      have hkc : Keep U Uc := a2.keep.trans (hka.trans (c2.trans d2.keep))
      have e30 : V1.1 30 = V.1 30 := b2.1 30 (by decide) (by decide) (by decide) (by decide) (by decide) (by decide) (by decide)
      have hph1 : phV V1 p = true := by rw [k1.ph]; exact hph
      have b1' : TI V1 n o := b1
      obtain ⟨m3, m4⟩ := hi_m b1' hx htx1
      have hst1 : StB V1 p := by unfold StB; rw [e30]; exact hst
      have hst2 := stl_st hst1 (a := V1.1 15 x - V1.1 7 x) (by omega)
      obtain ⟨W, hW⟩ : ∃ W, W = stl V1 p (V1.1 15 x - V1.1 7 x) := ⟨_, rfl⟩
      rw [← hW] at h2 hst2
      have k2 : HiK p V W := by rw [hW]; exact k1.trans (stl_hik _ _ _)
      have hTW : TI W n o := by rw [hW]; exact b1
      -- the stall
      obtain ⟨Ud, f1, f2, f3⟩ : ∃ Ud, (if V1.1 15 x - V1.1 7 x ≤ 0 then some (P Uc) else (F_X10_stallsMore (P Uc) b (nI p) (V1.1 15 x - V1.1 7 x)).bind fun h23 => some h23) = some (P Ud) ∧ Keep Uc Ud ∧ Rel W (Ud.1 1) := by
        by_cases hz : V1.1 15 x - V1.1 7 x ≤ 0
        · refine ⟨Uc, by rw [if_pos hz], Keep.refl Uc, ?_⟩
          have hz' := ti_le.mp hz
          have e0 : mxI 0 (V1.1 15 x - V1.1 7 x) = 0 := Int32.toInt_inj.mp (by rw [ti_mx, ti_0] at *; omega)
          have : W = V1 := by
            rw [hW]
            unfold stl addSt
            rw [e0, show ((0 : Int32) + 3) / 4 = 0 by decide, Int32.add_zero]
            have : mnI 20 (V1.1 30 p) = V1.1 30 p := Int32.toInt_inj.mp (by
              have e20 : (20 : Int32).toInt = 20 := rfl
              rw [ti_mn, e20]; have := hst1.2; omega)
            rw [this, upd_id, sx_id]
          rw [this]; exact hRc
        · obtain ⟨g1, g2⟩ := m_stallsMore hP hRc hp hph1 (V1.1 15 x - V1.1 7 x)
          refine ⟨_, by rw [if_neg hz, g1]; rfl, Keep.up _ (by omega) _, ?_⟩
          have hz' : ¬ (V1.1 15 x - V1.1 7 x).toInt ≤ (0 : Int32).toInt := fun z => hz (ti_le.mpr z)
          have e0 : mxI 0 (V1.1 15 x - V1.1 7 x) = V1.1 15 x - V1.1 7 x := Int32.toInt_inj.mp (by rw [ti_mx]; omega)
          rw [hW]
          unfold stl
          rw [e0]; exact g2
      have htW : thV W x = true := by rw [k2.th]; exact htx
      obtain ⟨U', y1, y2, y3⟩ := m_high hP hp l N W Ud V' h2 hTW (by rw [k2.th, k2.pf]; exact hs') (by rw [k2.ph]; exact hph) hst2 f3 (by simp at hN; omega)
      have hpw : F_X10_parentOf (P Ud) b (nI x) = some (hd l, P Ud) := by
        rw [m_parent hP f3 hx htW, k2.1 2 (by decide), hI.1.1.hdv hs]
      refine ⟨U', ?_, hkc.trans (f2.trans y2), y3⟩
      rw [loopF]
      have : F_X10_meetsHigh_L6 b (nI p) (nI x) (P U) = some (.inl (hd l, P Ud)) := by
        unfold F_X10_meetsHigh_L6
        rw [if_neg (nI_ne1 (by omega))]
        simp only [ml hP, a1, a3, Option.bind_some, un, bl, if_pos hn, e1', c1', d1, d3, f1, hpw]
      show (F_X10_meetsHigh_L6 b (nI p) (nI x) (P U)).bind _ = _
      rw [this]; exact y1
theorem m_meetsHigh {U V' : WV} {P : WV → Hp} (hP : LM b P) (hR : Rel V (U.1 1)) (h : TI V n o) {p : Nat} (hp : p < 16) (ht : phV V p = true) (hst : StB V p) (hr : HiR p (pth (pfV V) (hom V p)) V V') : ∃ U', F_X10_meetsHigh (P U) b (nI p) = some (P U') ∧ Keep U U' ∧ Rel V' (U'.1 1) := by
  obtain ⟨g1, g2, g3⟩ := h.1.2.1.at hp ht
  obtain ⟨U', y1, y2, y3⟩ := m_high hP hp (pth (pfV V) (hom V p)) 6000 V U V' hr h (Sfx.pth g1 g2) ht hst hR (by have := pth_len (pfV V) (hom V p); omega)
  refine ⟨U', ?_, y2, y3⟩
  have e : hd (pth (pfV V) (hom V p)) = nI (hom V p) := by rw [pth_cons h.1.1.tree g1 g2]; rfl
  rw [e] at y1
  unfold F_X10_meetsHigh
  simp only [ml hP, m_home hP hR hp ht, g3, Option.bind_some, un, y1]
end HIGH
