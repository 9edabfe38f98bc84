/-! a process moves -/
def MvR (d : Int32) : List Nat → WV → (Bool × WV) → Prop
  | [], V, res => res = (true, V)
  | x :: l, V, res => if V.1 15 x + d ≤ V.1 8 x then MvR d l V res else ∃ V1 t, TkRes (evA V 21 x) x (mF V x d) (V1, t) ∧ (if V1.1 15 x + d ≤ V1.1 8 x then MvR d l V1 res else res = (false, V1))
def PgLe (V V' : WV) : Prop := ∀ p, p < 16 → phV V p = true → (V'.1 27 p).toInt ≤ (V.1 27 p).toInt ∧ (V'.1 28 p).toInt ≤ (V.1 28 p).toInt
section MOVE
variable {V Q : WV} {n : Nat} {o : Nat → Nat} {w q b : Nat}
theorem tk_pgle (h : TI V n o) {r : Nat} {m : Int32} (hm : m.toInt ≤ 999) {x : WV × Int32} (hT : TkRes V r m x) : PgLe V x.1 := by
  obtain ⟨V1, hD, hE⟩ := hT
  obtain ⟨d1, d2, d3⟩ := drn_post h hD
  obtain ⟨s1, s2, s3⟩ := stkF_I h.2.1 r
  have hs9 : (stkF V r).toInt ≤ 999 := by have := h.2.1.2.2; have := h.2.1.pgs0; omega
  have h24 : ∀ W : WV, TkK V W → phV W = phV V := fun W hk => phV_same (hk.1 24 (by decide) (by decide) (by decide) (by decide) (by decide) (by decide) (by decide))
  refine (hE.ind (fun s => TI s.1 n o ∧ TkK V s.1 ∧ PgLe V s.1 ∧ 0 ≤ s.2.1.toInt ∧ s.2.1.toInt ≤ 999) (fun x => TkK V x.1 ∧ PgLe V x.1) (fun s hI => ?_) ⟨d1, d2, ?_, s2, hs9⟩).2
  · obtain ⟨W, t, way⟩ := s
    obtain ⟨i1, i2, i4, i5, i6⟩ : TI W n o ∧ TkK V W ∧ PgLe V W ∧ 0 ≤ t.toInt ∧ t.toInt ≤ 999 := hI
    by_cases c1 : m ≤ t
    · have e : tkP r m (W, t, way) = .inr (W, t) := by unfold tkP; rw [if_pos c1]
      rw [e]; exact ⟨i2, i4⟩
    · have c1' : t.toInt < m.toInt := Int.not_le.mp (fun z => c1 (ti_le.mpr z))
      by_cases c2 : 4 ≤ way
      · have e : tkP r m (W, t, way) = .inr (W, t) := by unfold tkP; simp only [if_neg c1, if_pos c2]
        rw [e]; exact ⟨i2, i4⟩
      · have hL : (m - t).toInt = m.toInt - t.toInt := ti_sub (by omega) (by omega)
        have hk2 : 1 - way % 2 < 2 := by omega
        rcases tk_one i1 (r := r) (lv := way / 2) hk2 (L := m - t) (by omega) with ⟨n1, n2⟩ | ⟨g, p, g1, g2, g3, g4, g5, g6, g7, g8, g9, g10, g11, g12, g13, g14⟩
        · rw [tkP_none c1 (by omega) n2]
          by_cases w1 : way = 1
          · simp only [if_pos w1]
            exact ⟨TI.ev i1 (by decide) (by decide) r, i2.trans ⟨fun c a1 a2 a3 a4 a5 a6 a7 => by unfold evA; rw [sx_1, up_n _ _ a4], rfl⟩, i4, i5, i6⟩
          · simp only [if_neg w1]
            exact ⟨i1, i2, i4, i5, i6⟩
        · rw [tkP_some c1 (by omega) g9]
          obtain ⟨i, hi⟩ : ∃ i, i = itsF W (way / 2) r (1 - way % 2) g p (m - t) := ⟨_, rfl⟩
          rw [← hi] at g10 g11 g12 g13 ⊢
          have hti : (t + i).toInt = t.toInt + i.toInt := ti_add (by omega) (by omega)
          refine ⟨g12, i2.trans g13, fun x hx hpx => ?_, by show 0 ≤ (t + i).toInt; omega, by show (t + i).toInt ≤ 999; omega⟩
          have a1 := i4 x hx hpx
          have hWx : phV W x = true := by rw [h24 W i2]; exact hpx
          have hn := i1.2.1.held hx hWx
          have hn2 := g12.2.1.2.1 x hx (by rw [h24 _ (i2.trans g13)]; exact hpx)
          have hk01 : 1 - way % 2 = 0 ∨ 1 - way % 2 = 1 := by omega
          show ((tkV W p (1 - way % 2) i).1 27 x).toInt ≤ _ ∧ ((tkV W p (1 - way % 2) i).1 28 x).toInt ≤ _
          have hni : (-i).toInt = -i.toInt := ti_neg (by omega)
          rcases hk01 with e | e
          · rw [e]
            have e27 : (tkV W p 0 i).1 27 x = upd (W.1 27) p (W.1 27 p + -i) x := rfl
            have e28 : (tkV W p 0 i).1 28 x = W.1 28 x := rfl
            rw [e27, e28]
            by_cases ex : x = p
            · subst ex
              rw [upd_s, ti_add (by omega) (by omega), hni]; omega
            · rw [upd_ne _ _ ex]; omega
          · rw [e]
            have e28 : (tkV W p 1 i).1 28 x = upd (W.1 28) p (W.1 28 p + -i) x := rfl
            have e27 : (tkV W p 1 i).1 27 x = W.1 27 x := rfl
            rw [e27, e28]
            by_cases ex : x = p
            · subst ex
              rw [upd_s, ti_add (by omega) (by omega), hni]; omega
            · rw [upd_ne _ _ ex]; omega
  · obtain ⟨t, rfl, -⟩ := hD
    exact fun x _ _ => ⟨Int.le_refl _, Int.le_refl _⟩
theorem mv_post {d : Int32} (h0 : 0 ≤ d.toInt) (h9 : d.toInt ≤ 999) {res : Bool × WV} : ∀ (l : List Nat) (V : WV), MvR d l V res → TI V n o → MaxOK V → (∀ x ∈ l, x < 12 ∧ thV V x = true) → TI res.2 n o ∧ TotLe V res.2 ∧ Fr V res.2 ∧ phV res.2 = phV V ∧ PgLe V res.2 ∧ (DedOK V → DedOK res.2) ∧ (res.1 = true → ∀ x ∈ l, (res.2.1 15 x).toInt + d.toInt ≤ (res.2.1 8 x).toInt)
  | [], V, h, hI, hM, _ => by
    have h' : res = (true, V) := h
    subst h'
    exact ⟨hI, fun _ _ _ => Int.le_refl _, Fr.refl V, rfl, fun _ _ _ => ⟨Int.le_refl _, Int.le_refl _⟩, id, fun _ x hx => by cases hx⟩
  | x :: l, V, h, hI, hM, hl => by
    obtain ⟨hx, htx⟩ := hl x List.mem_cons_self
    obtain ⟨m1, m2, m3⟩ := mF_I hI hM hx htx h0 h9
    unfold MvR at h
    by_cases c : V.1 15 x + d ≤ V.1 8 x
    · rw [if_pos c] at h
      obtain ⟨b1, b2, b3, b4, b5, b6, b7⟩ := mv_post h0 h9 l V h hI hM (fun y hy => hl y (List.mem_cons_of_mem _ hy))
      refine ⟨b1, b2, b3, b4, b5, b6, fun ho y hy => ?_⟩
      rcases List.mem_cons.mp hy with e | e
      · subst e
        have := ti_le.mp c
        have := b2 y hx htx
        rw [b3.1 8 (by decide)]; omega
      · exact b7 ho y e
    · rw [if_neg c] at h
      obtain ⟨V1, t, h1, h2⟩ := h
      have hIe := hI.ev (c := 21) (by decide) (by decide) x
      obtain ⟨a1, a2, a3, a4, -, -⟩ := tk_post hIe m3 h1
      have fr1 : Fr V V1 := (fr_ev V (by decide) (by decide) x).trans a2.fr
      have a3' : TotLe V V1 := a3
      have hph1 : phV V1 = phV V := phV_same (V := evA V 21 x) (a2.1 24 (by decide) (by decide) (by decide) (by decide) (by decide) (by decide) (by decide))
      have hpg : PgLe V V1 := tk_pgle hIe m3 h1
      have hd1 : DedOK V → DedOK V1 := fun hd => a4 hd
      by_cases c2 : V1.1 15 x + d ≤ V1.1 8 x
      · rw [if_pos c2] at h2
        obtain ⟨b1, b2, b3, b4, b5, b6, b7⟩ := mv_post h0 h9 l V1 h2 a1 (hM.le a3' fr1) (fun y hy => by rw [fr1.th]; exact hl y (List.mem_cons_of_mem _ hy))
        refine ⟨b1, fun y hy hty => Int.le_trans (b2 y hy (by rw [fr1.th]; exact hty)) (a3' y hy hty), fr1.trans b3, by rw [b4, hph1], fun y hy hpy => ?_, fun hd => b6 (hd1 hd), fun ho y hy => ?_⟩
        · have u1 := b5 y hy (by rw [hph1]; exact hpy)
          have u2 := hpg y hy hpy
          omega
        · rcases List.mem_cons.mp hy with e | e
          · subst e
            have htot := a1.2.1.tot a1.1.2.2.1 hx (show thV V1 y = true by rw [fr1.th]; exact htx)
            have htot' : 0 ≤ (V1.1 15 y).toInt ∧ (V1.1 15 y).toInt ≤ 999 := htot
            have e1 : (V1.1 15 y + d).toInt = (V1.1 15 y).toInt + d.toInt := ti_add (by omega) (by omega)
            have := ti_le.mp c2
            have := b2 y hx (show thV V1 y = true by rw [fr1.th]; exact htx)
            rw [b3.1 8 (by decide)]; omega
          · exact b7 ho y e
      · rw [if_neg c2] at h2
        subst h2
        exact ⟨a1, a3', fr1, hph1, hpg, hd1, fun e => by cases e⟩
theorem new_mem (hO : OrdOK V n o) {r : Nat} (hr : r < 12) (htr : thV V r = true) : ∀ (l : List Nat), Sfx (thV V) (pfV V) l → ∀ x, x ∈ l → blw (pfV V) x r = false → x ∈ l.takeWhile (fun x => !blw (pfV V) x r)
  | [], _, x, hx, _ => by cases hx
  | y :: l, hs, x, hx, hb => by
    obtain ⟨hy, hty, hp, hs', hl⟩ := hs.cons hO.tree
    rw [List.takeWhile_cons]
    cases hby : blw (pfV V) y r
    · simp only [Bool.not_false, if_true]
      rcases List.mem_cons.mp hx with e | e
      · rw [e]; exact List.mem_cons_self
      · exact List.mem_cons_of_mem _ (new_mem hO hr htr l hs' x e hb)
    · exfalso
      rw [hp] at hx
      obtain ⟨-, -, a, ha⟩ := pth_mem hO.tree _ r (Nat.le_refl _) hr htr y (of_decide_eq_true hby)
      have : x ∈ pth (pfV V) r := by rw [ha]; exact List.mem_append_right _ hx
      have : blw (pfV V) x r = true := decide_eq_true this
      rw [hb] at this; cases this
theorem relo_ph (hH : HomOK V) {p g : Nat} (hp : p < 16) (ht : phV V p = true) (hg : g < 12) : phV (reloV V p g) = phV V := by
  funext x
  show decide (upd (V.1 24) p (nI g) x ≠ -1) = decide (V.1 24 x ≠ -1)
  by_cases e : x = p
  · subst e
    rw [upd_s]
    have h1 : V.1 24 x ≠ -1 := by simpa [phV] using ht
    rw [decide_eq_true (nI_ne1 (by omega) : nI g ≠ -1), decide_eq_true h1]
  · rw [upd_ne _ _ e]
theorem relo_TI (h : TI V n o) {p g : Nat} (hp : p < 16) (ht : phV V p = true) (hg : g < 12) (htg : thV V g = true) : TI (reloV V p g) n o := by
  obtain ⟨⟨hO, hH, hT, hU⟩, hN, hL, hS⟩ := h
  have hph := relo_ph hH hp ht hg
  refine ⟨⟨hO, hH.relo hg htg, hT.relo hO hH hp ht hg htg, hU.relo hO hH hp ht hg htg⟩, ?_, hL, ?_⟩
  · unfold Num stkI pgsI at hN ⊢
    rw [hph]; exact hN
  · unfold SwN swpI at hS ⊢
    rw [hph]; exact hS
theorem relo_max (h : TI V n o) (hM : MaxOK V) {p g : Nat} (hp : p < 16) (ht : phV V p = true) (hg : g < 12) (htg : thV V g = true) {d : Int32} (hd : (heldV V p).toInt ≤ d.toInt) (hn : ∀ x ∈ newP (pfV V) g (hom V p), (V.1 15 x).toInt + d.toInt ≤ (V.1 8 x).toInt) : MaxOK (reloV V p g) := by
  obtain ⟨hC, hN, hL, hS⟩ := h
  obtain ⟨g1, g2, g3⟩ := hC.2.1.at hp ht
  have hh := hN.held hp ht
  intro x hx htx
  have htx' : thV V x = true := htx
  have hb := hN.tot hC.2.2.1 hx htx'
  have e : (reloV V p g).1 15 x = V.1 15 x + ((if x ∈ pth (pfV V) (hom V p) then -heldV V p else 0) + (if x ∈ pth (pfV V) g then heldV V p else 0)) := two_paths _ (pth_nodup hC.1.tree g1 g2) (pth_nodup hC.1.tree hg htg) _ x
  have e8 : (reloV V p g).1 8 x = V.1 8 x := rfl
  rw [e, e8]
  have hmx := hM x hx htx'
  by_cases a : x ∈ pth (pfV V) (hom V p)
  · by_cases c : x ∈ pth (pfV V) g
    · rw [if_pos a, if_pos c, Int32.add_left_neg, Int32.add_zero]; exact hmx
    · rw [if_pos a, if_neg c, Int32.add_zero, ti_add (by rw [ti_neg (by omega)]; omega) (by rw [ti_neg (by omega)]; omega), ti_neg (by omega)]; omega
  · by_cases c : x ∈ pth (pfV V) g
    · have := hn x (new_mem hC.1 g1 g2 _ (Sfx.pth hg htg) x c (decide_eq_false a))
      rw [if_neg a, if_pos c, Int32.zero_add, ti_add (by omega) (by omega)]; omega
    · rw [if_neg a, if_neg c, Int32.add_zero, Int32.add_zero]; exact hmx
def MoR (V : WV) (p g : Nat) (res : Int32 × WV) : Prop :=
  if (newP (pfV V) g (hom V p)).all (rmB V p) then ∃ r, MvR (heldV V p) (newP (pfV V) g (hom V p)) V r ∧ res = (if r.1 then (V.1 24 p, reloV r.2 p g) else (-4, r.2)) else res = (-4, V)
theorem c_move {P : WV → WV → Hp} (hP : L2 w q P) (h : TI V n o) (hM : MaxOK V) {p g : Nat} (hp : p < 16) (ht : phV V p = true) (hg : g < 12) (htg : thV V g = true) (Q : WV) : ∃ res Q', F_X3_moveProcess (P V Q) (q + 7) w (nI p) (nI g) = some (res.1, P res.2 Q') ∧ MoR V p g res := by
  obtain ⟨hC, hN, hL, hS⟩ := id h
  obtain ⟨g1, g2, g3⟩ := hC.2.1.at hp ht
  have hT := hC.1.tree
  have hh := hN.held hp ht
  have hpre := pre_new hC.1 hg htg g1 g2
  have e1 : F_X6_lowestCommon (P V Q) (w + 1) (nI g) (nI (hom V p)) = some (nI (lca (pfV V) g (hom V p))) := s_common (P := fun V => P V Q) (hP.1 Q).lt hC.1 hg htg g1 g2
  have e2 : F_X3_mayNotJoin (P V Q) (q + 7) w (nI p) (nI g) (nI (lca (pfV V) g (hom V p))) = some (if jnB V p g (nI (lca (pfV V) g (hom V p))) then 1 else 0) := s_join (P := fun V => P V Q) (hP.1 Q) hC.1 hC.2.1 hp hg htg _ _
  have hjn : jnB V p g (nI (lca (pfV V) g (hom V p))) = !((newP (pfV V) g (hom V p)).all (rmB V p)) := by
    unfold jnB
    rw [hpre]; exact jn_rm
  unfold MoR
  cases hall : (newP (pfV V) g (hom V p)).all (rmB V p)
  · rw [hall] at hjn
    rw [hjn] at e2
    refine ⟨(-4, V), Q, ?_, by simp⟩
    unfold F_X3_moveProcess
    simp only [ol (hP.1 Q).lo, cl (hP.1 Q).lc, tl (hP.1 Q).lt, ql (hP.2 V), hp, g3, Option.bind_some, e1, e2, Bool.not_false, if_true, if_neg (show ¬ (1 : Int32) = 0 by decide)]
  · rw [hall] at hjn
    rw [hjn] at e2
    simp only [if_true]
    obtain ⟨E, hE⟩ : ∃ E, E = nI (lca (pfV V) g (hom V p)) := ⟨_, rfl⟩
    rw [← hE] at e1 e2 hpre
    obtain ⟨y, y1, r, Q1, y2, y3⟩ := loop_pH (st := fun x => F_X3_moveProcess_L54 (q + 7) w (nI p) (nI g) (nI (hom V p)) E (heldV V p) x.1 x.2.1 x.2.2) (fun l (a : WV × WV × Nat) => (hd l, nI a.2.2, P a.1 a.2.1))
      (fun l a => Sfx (thV V) (pfV V) l ∧ a.2.2 + l.length ≤ 12 ∧ TI a.1 n o ∧ MaxOK a.1 ∧ Fr V a.1 ∧ ∀ r, MvR (heldV V p) (l.takeWhile (fun x => decide (nI x ≠ E))) a.1 r → MvR (heldV V p) (pre (pfV V) g E) V r) (fun y => ∃ r Q1, y = (if r.1 then .inr (P r.2 Q1) else .inl (-4, P r.2 Q1)) ∧ MvR (heldV V p) (pre (pfV V) g E) V r)
      (fun x l a hI => by
        obtain ⟨W, R, st⟩ := a
        obtain ⟨hs, hk, hW, hMW, hF, hr⟩ : Sfx (thV V) (pfV V) (x :: l) ∧ st + (x :: l).length ≤ 12 ∧ TI W n o ∧ MaxOK W ∧ Fr V W ∧ ∀ r, MvR (heldV V p) ((x :: l).takeWhile (fun x => decide (nI x ≠ E))) W r → MvR (heldV V p) (pre (pfV V) g E) V r := hI
        obtain ⟨hx, htx, hp', hs', hl⟩ := hs.cons hT
        have hst : st < 12 := by simp at hk; omega
        have htW : thV W x = true := by rw [hF.th]; exact htx
        by_cases he : nI x = E
        · right
          refine ⟨.inr (P W R), ?_, (true, W), R, rfl, hr _ (by rw [List.takeWhile_cons, if_neg (by simp [he])]; rfl)⟩
          show F_X3_moveProcess_L54 (q + 7) w (nI p) (nI g) (nI (hom V p)) E (heldV V p) (nI x) (nI st) (P W R) = _
          unfold F_X3_moveProcess_L54
          rw [if_neg (nI_ne1 (by omega)), if_pos he]
        · have htk : (x :: l).takeWhile (fun x => decide (nI x ≠ E)) = x :: l.takeWhile (fun x => decide (nI x ≠ E)) := by
            rw [List.takeWhile_cons, if_pos (by simp [he])]
          rw [htk] at hr
          have e3 : ∀ (W' R' : WV), aR (P W' R') (w + 4) 15 3 = some (w + (5 + 3)) := fun W' R' => (tl (hP.1 R').lt).2.2.2.2.2.2.2.2.2.2.2.2.2.2.2.2.2.2.2.2.2.2.2.1 W' 3 (by decide)
          have e8 : ∀ (W' R' : WV), aI (P W' R') (w + (5 + 3)) (nI x) = some (W'.1 8 x) := fun W' R' => (tl (hP.1 R').lt).2.2.2.2.2.2.2.2.2.2.2.2.2.2.2.2.2.2.2.2.2.2.2.2.1 W' 3 x (by decide) hx
          have hpar : ∀ W' : WV, Fr V W' → W'.1 2 x = hd l := fun W' hk' => by rw [hk'.1 2 (by decide)]; exact hC.1.hdv hs
          by_cases hc : W.1 15 x + heldV V p ≤ W.1 8 x
          · left
            have hc' : ¬ W.1 8 x < W.1 15 x + heldV V p := fun z => by have := ti_le.mp hc; have := ti_lt.mp z; omega
            refine ⟨(W, R, st + 1), ?_, hs', by simp at hk; show st + 1 + l.length ≤ 12; omega, hW, hMW, hF, fun r hv => hr r (by unfold MvR; rw [if_pos hc]; exact hv)⟩
            show F_X3_moveProcess_L54 (q + 7) w (nI p) (nI g) (nI (hom V p)) E (heldV V p) (nI x) (nI st) (P W R) = _
            unfold F_X3_moveProcess_L54
            rw [if_neg (nI_ne1 (by omega)), if_neg he, h12I, if_neg (nI_ge hst (by decide))]
            simp only [ol (hP.1 R).lo, tl (hP.1 R).lt, hx, e3, e8, Option.bind_some, if_neg hc', bl, if_neg (show ¬ (1 : Int32) = 0 by decide), nI_1, hpar W hF]
          · have hc' : W.1 8 x < W.1 15 x + heldV V p := Int32.not_le.mp hc
            obtain ⟨V1, t, R1, c1, c2, c3, c4, c5⟩ := c_fits hP hW hMW hx htW (d := heldV V p) (by omega) (by omega) R
            have fr1 : Fr W V1 := (fr_ev W (by decide) (by decide) x).trans c4.fr
            by_cases k1 : V1.1 15 x + heldV V p ≤ V1.1 8 x
            · left
              rw [if_pos k1] at c1
              refine ⟨(V1, R1, st + 1), ?_, hs', by simp at hk; show st + 1 + l.length ≤ 12; omega, c3, hMW.le c5 fr1, hF.trans fr1, fun r hv => hr r (by unfold MvR; rw [if_neg hc]; exact ⟨V1, t, c2, by rw [if_pos k1]; exact hv⟩)⟩
              show F_X3_moveProcess_L54 (q + 7) w (nI p) (nI g) (nI (hom V p)) E (heldV V p) (nI x) (nI st) (P W R) = _
              unfold F_X3_moveProcess_L54
              rw [if_neg (nI_ne1 (by omega)), if_neg he, h12I, if_neg (nI_ge hst (by decide))]
              simp only [ol (hP.1 R).lo, tl (hP.1 R).lt, ql (hP.2 W), hx, e3, e8, Option.bind_some, if_pos hc', bl, if_true, c1, un, if_neg (show ¬ (1 : Int32) = 0 by decide), ol (hP.1 R1).lo, tl (hP.1 R1).lt, nI_1, hpar V1 (hF.trans fr1)]
            · right
              rw [if_neg k1] at c1
              refine ⟨.inl (-4, P V1 R1), ?_, (false, V1), R1, rfl, hr _ (by unfold MvR; rw [if_neg hc]; exact ⟨V1, t, c2, by rw [if_neg k1]⟩)⟩
              show F_X3_moveProcess_L54 (q + 7) w (nI p) (nI g) (nI (hom V p)) E (heldV V p) (nI x) (nI st) (P W R) = _
              unfold F_X3_moveProcess_L54
              rw [if_neg (nI_ne1 (by omega)), if_neg he, h12I, if_neg (nI_ge hst (by decide))]
              simp only [ol (hP.1 R).lo, tl (hP.1 R).lt, ql (hP.2 W), hx, e3, e8, Option.bind_some, if_pos hc', bl, if_true, c1, un])
      (fun a hI => by
        obtain ⟨W, R, st⟩ := a
        obtain ⟨hs, hk, hW, hMW, hF, hr⟩ : Sfx (thV V) (pfV V) [] ∧ st + 0 ≤ 12 ∧ TI W n o ∧ MaxOK W ∧ Fr V W ∧ ∀ r, MvR (heldV V p) (([] : List Nat).takeWhile (fun x => decide (nI x ≠ E))) W r → MvR (heldV V p) (pre (pfV V) g E) V r := hI
        refine ⟨.inr (P W R), ?_, (true, W), R, rfl, hr _ rfl⟩
        show F_X3_moveProcess_L54 (q + 7) w (nI p) (nI g) (nI (hom V p)) E (heldV V p) (-1) (nI st) (P W R) = _
        unfold F_X3_moveProcess_L54
        rw [if_pos rfl])
      (pth (pfV V) g) 6000 (V, Q, 0) (by have := pth_len (pfV V) g; omega) ⟨Sfx.pth hg htg, by have := pth_len (pfV V) g; show 0 + _ ≤ 12; omega, h, hM, Fr.refl V, fun r hv => hv⟩
    have y1' : loopF (fun x => F_X3_moveProcess_L54 (q + 7) w (nI p) (nI g) (nI (hom V p)) E (heldV V p) x.1 x.2.1 x.2.2) 6000 (nI g, 0, P V Q) = some y := by
      rw [← y1]
      show _ = loopF _ 6000 (hd (pth (pfV V) g), nI 0, P V Q)
      rw [pth_cons hT hg htg]; rfl
    rw [hpre] at y3
    have hin : ∀ x ∈ newP (pfV V) g (hom V p), x < 12 ∧ thV V x = true := fun x hx => by
      have hx' := (List.takeWhile_subset _) hx
      obtain ⟨a, b, -⟩ := pth_mem hT _ g (Nat.le_refl _) hg htg x hx'
      exact ⟨a, b⟩
    obtain ⟨b1, b2, b3, b4, b5, b6, b7⟩ := mv_post (by omega) (by omega) _ V y3 h hM hin
    have ehd : F_X0_held (P V Q) (w + 23) (nI p) = some (heldV V p) := s_held (P := fun V => P V Q) (hP.1 Q).lc hp
    refine ⟨if r.1 then (V.1 24 p, reloV r.2 p g) else (-4, r.2), Q1, ?_, r, y3, rfl⟩
    unfold F_X3_moveProcess
    simp only [ol (hP.1 Q).lo, cl (hP.1 Q).lc, tl (hP.1 Q).lt, ql (hP.2 V), hp, g3, Option.bind_some, e1, e2, Bool.not_true, Bool.false_eq_true, if_false, if_true, ehd, y1', y2]
    cases hr : r.1
    · rfl
    · have hre : F_X8_relocate (P r.2 Q1) w (nI p) (nI g) = some (P (reloV r.2 p g) Q1) := s_relocate (P := fun V => P V Q1) (hP.1 Q1) b1.1.1 b1.1.2.1 hp (by rw [b4]; exact ht) hg (by rw [b3.th]; exact htg)
      simp only [if_true, sE, ol (hP.1 Q1).lo, hre, Option.bind_some]
end MOVE
