/-! room, and what is left behind a move -/
def lftF (V : WV) (g : Nat) (a : Int32) : Int32 := (pth (pfV V) g).foldl (fun a r => mnI a (V.1 8 r - V.1 15 r)) a
def lbF (V : WV) (p g : Nat) : Int32 := if (newP (pfV V) g (hom V p)).all (rmB V p) then (newP (pfV V) g (hom V p)).foldl (fun a x => mnI a (V.1 8 x - V.1 15 x - heldV V p)) (lftF V (lca (pfV V) g (hom V p)) 999) else -1
def rbF (V : WV) (p g : Nat) : Int32 := if (newP (pfV V) g (hom V p)).all (fun x => rmB V p x && decide (V.1 15 x + heldV V p ≤ V.1 8 x)) then lftF (reloV V p g) g 1048576 else -1
section PLACE
variable {V U : WV} {n : Nat} {o : Nat → Nat} {w b : Nat} {P : WV → Hp}
theorem lft_le {z a : Int32} {g : Nat} : z ≤ lftF V g a ↔ z ≤ a ∧ ∀ x ∈ pth (pfV V) g, z ≤ V.1 8 x - V.1 15 x := by
  unfold lftF
  have := fold_mn (q := fun _ => true) (f := fun r => V.1 8 r - V.1 15 r) (z := z) (pth (pfV V) g) a
  simp only [if_true, true_imp_iff] at this
  exact this
theorem tw_mem {q : Nat → Bool} {x : Nat} : ∀ (l : List Nat), x ∈ l.takeWhile q → q x = true
  | [], h => by cases h
  | y :: l, h => by
    rw [List.takeWhile_cons] at h
    cases hy : q y
    · rw [hy] at h; cases h
    · rw [hy] at h
      simp only [if_true] at h
      rcases List.mem_cons.mp h with e | e
      · rw [e]; exact hy
      · exact tw_mem l e
theorem lca_mem (hO : OrdOK V n o) {g r : Nat} (hg : g < 12) (ht : thV V g = true) (hr : r < 12) (htr : thV V r = true) : lca (pfV V) g r ∈ pth (pfV V) g ∧ blw (pfV V) (lca (pfV V) g r) r = true ∧ lca (pfV V) g r < 12 ∧ thV V (lca (pfV V) g r) = true := by
  have h0 : (pth (pfV V) g).find? (fun x => blw (pfV V) x r) ≠ none := fun e => by
    have := List.find?_eq_none.mp e 0 (of_decide_eq_true (blw_root hO.tree hg ht))
    exact this (blw_root hO.tree hr htr)
  obtain ⟨z, hz⟩ := Option.ne_none_iff_exists'.mp h0
  have e : lca (pfV V) g r = z := by unfold lca; rw [hz]; rfl
  rw [e]
  have h1 := List.mem_of_find?_eq_some hz
  obtain ⟨a, c, -⟩ := pth_mem hO.tree _ g (Nat.le_refl _) hg ht z h1
  have h2 : blw (pfV V) z r = true := List.find?_some (p := fun x => blw (pfV V) x r) hz
  exact ⟨h1, h2, a, c⟩
theorem s_left (hP : LW w P) (hC : Cor V n o) {p g : Nat} (hp : p < 16) (ht : phV V p = true) (hg : g < 12) (htg : thV V g = true) (a0 : Nat) (h3 : ∀ {α : Type} (x : Option α), cO (P V) a0 3 x = x) : F_X3_leftBehindMove (P V) a0 w (nI p) (nI g) = some (lbF V p g) := by
  obtain ⟨g1, g2, g3⟩ := hC.2.1.at hp ht
  have hT := hC.1.tree
  obtain ⟨l1, l2, l3, l4⟩ := lca_mem hC.1 hg htg g1 g2
  have hpre := pre_new hC.1 hg htg g1 g2
  have e1 : F_X6_lowestCommon (P V) (w + 1) (nI g) (nI (hom V p)) = some (nI (lca (pfV V) g (hom V p))) := s_common hP.lt hC.1 hg htg g1 g2
  have e2 := s_join hP hC.1 hC.2.1 hp hg htg a0 (nI (lca (pfV V) g (hom V p)))
  have hjn : jnB V p g (nI (lca (pfV V) g (hom V p))) = !((newP (pfV V) g (hom V p)).all (rmB V p)) := by
    unfold jnB
    rw [hpre]; exact jn_rm
  rw [hjn] at e2
  have e3 : F_X6_leastLeft (P V) (w + 1) (nI (lca (pfV V) g (hom V p))) = some (lftF V (lca (pfV V) g (hom V p)) 999) := s_leastLeft hP.lt hC.1 l3 l4
  unfold F_X3_leftBehindMove lbF
  simp only [ol hP.lo, cl hP.lc, tl hP.lt, hp, g3, Option.bind_some, e1, h3, e2]
  cases hall : (newP (pfV V) g (hom V p)).all (rmB V p)
  · simp
  · simp only [Bool.not_true, Bool.false_eq_true, if_false, if_true, ol hP.lo, tl hP.lt, e3, Option.bind_some]
    obtain ⟨E, hE⟩ : ∃ E, E = nI (lca (pfV V) g (hom V p)) := ⟨_, rfl⟩
    rw [← hE] at hpre ⊢
    obtain ⟨y, y1, y2⟩ := loop_pH (st := fun x => F_X3_leftBehindMove_L50 (P V) w (nI p) E x.1 x.2.1 x.2.2) (fun l (a : Int32 × Nat) => (a.1, hd l, nI a.2))
      (fun l a => Sfx (thV V) (pfV V) l ∧ a.2 + l.length ≤ 12 ∧ (newP (pfV V) g (hom V p)).foldl (fun a x => mnI a (V.1 8 x - V.1 15 x - heldV V p)) (lftF V (lca (pfV V) g (hom V p)) 999) = (l.takeWhile (fun x => decide (nI x ≠ E))).foldl (fun a x => mnI a (V.1 8 x - V.1 15 x - heldV V p)) a.1)
      (fun y => y = (newP (pfV V) g (hom V p)).foldl (fun a x => mnI a (V.1 8 x - V.1 15 x - heldV V p)) (lftF V (lca (pfV V) g (hom V p)) 999))
      (fun x l a hI => by
        obtain ⟨hs, hk, hf⟩ := hI
        obtain ⟨hx, htx, hp', hs', hl⟩ := hs.cons hT
        have hst : a.2 < 12 := by simp at hk; omega
        by_cases he : nI x = E
        · right
          refine ⟨a.1, ?_, by rw [hf, List.takeWhile_cons, if_neg (by simp [he])]; rfl⟩
          show F_X3_leftBehindMove_L50 (P V) w (nI p) E a.1 (nI x) (nI a.2) = _
          unfold F_X3_leftBehindMove_L50
          rw [if_neg (nI_ne1 (by omega)), if_pos he]
        · left
          refine ⟨(mnI a.1 (V.1 8 x - V.1 15 x - heldV V p), a.2 + 1), ?_, hs', by simp at hk; show a.2 + 1 + l.length ≤ 12; omega, by rw [hf, List.takeWhile_cons, if_pos (by simp [he])]; rfl⟩
          have q3 : aR (P V) (w + 4) 15 3 = some (w + (5 + 3)) := (tl hP.lt).2.2.2.2.2.2.2.2.2.2.2.2.2.2.2.2.2.2.2.2.2.2.2.1 V 3 (by decide)
          have q8 : aI (P V) (w + (5 + 3)) (nI x) = some (V.1 8 x) := (tl hP.lt).2.2.2.2.2.2.2.2.2.2.2.2.2.2.2.2.2.2.2.2.2.2.2.2.1 V 3 x (by decide) hx
          show F_X3_leftBehindMove_L50 (P V) w (nI p) E a.1 (nI x) (nI a.2) = _
          unfold F_X3_leftBehindMove_L50
          rw [if_neg (nI_ne1 (by omega)), if_neg he, h12I, if_neg (nI_ge hst (by decide))]
          simp only [ol hP.lo, cl hP.lc, tl hP.lt, hx, q3, q8, Option.bind_some, s_held hP.lc hp, bl, nI_1, hC.1.hdv hs])
      (fun a hI => by
        refine ⟨a.1, ?_, hI.2.2.symm⟩
        show F_X3_leftBehindMove_L50 (P V) w (nI p) E a.1 (-1) (nI a.2) = _
        unfold F_X3_leftBehindMove_L50
        rw [if_pos rfl])
      (pth (pfV V) g) 6000 (lftF V (lca (pfV V) g (hom V p)) 999, 0) (by have := pth_len (pfV V) g; omega) ⟨Sfx.pth hg htg, by have := pth_len (pfV V) g; show 0 + _ ≤ 12; omega, by rw [← hpre]; rfl⟩
    have y1' : loopF (fun x => F_X3_leftBehindMove_L50 (P V) w (nI p) E x.1 x.2.1 x.2.2) 6000 (lftF V (lca (pfV V) g (hom V p)) 999, nI g, 0) = some y := by
      rw [← y1]
      show _ = loopF _ 6000 (lftF V (lca (pfV V) g (hom V p)) 999, hd (pth (pfV V) g), nI 0)
      rw [pth_cons hT hg htg]; rfl
    rw [y1', Option.bind_some, y2]
theorem m_leastRoom (hP : LM b P) (hR : Rel V (U.1 1)) (hC : Cor V n o) {g : Nat} (hg : g < 12) (ht : thV V g = true) : ∃ U', F_X10_leastRoom (P U) b (nI g) = some (lftF V g 1048576, P U') ∧ KeepT U U' := by
  have hT := hC.1.tree
  obtain ⟨y, y1, U', y2, y3⟩ := loop_pH (st := fun x => F_X10_leastRoom_L6 b x.1 x.2.1 x.2.2) (fun l (a : Int32 × WV) => (a.1, hd l, P a.2)) (fun l a => Sfx (thV V) (pfV V) l ∧ KeepT U a.2 ∧ lftF V g 1048576 = l.foldl (fun a r => mnI a (V.1 8 r - V.1 15 r)) a.1)
    (fun y => ∃ U', KeepT U U' ∧ y = (lftF V g 1048576, P U'))
    (fun x l a hI => by
      obtain ⟨hs, hk, hf⟩ := hI
      obtain ⟨hx, htx, hp, hs', hl⟩ := hs.cons hT
      have hRa := hk.rel hR
      obtain ⟨U1, t1, t2, t3⟩ := m_totalOf hP hRa hC hx htx
      have hR1 := t2.rel hRa
      left
      refine ⟨(mnI a.1 (V.1 8 x - V.1 15 x), U1), ?_, hs', hk.trans t2, hf⟩
      show F_X10_leastRoom_L6 b a.1 (nI x) (P a.2) = _
      unfold F_X10_leastRoom_L6
      rw [if_neg (nI_ne1 (by omega))]
      simp only [ml hP, t1, mo hP V, hRa, hx, htx, Option.bind_some, un, m_lesser, m_parent hP hR1 hx htx, hC.1.hdv hs])
    (fun a hI => ⟨(a.1, P a.2), by
      show F_X10_leastRoom_L6 b a.1 (-1) (P a.2) = _
      unfold F_X10_leastRoom_L6
      rw [if_pos rfl], a.2, hI.2.1, by rw [hI.2.2]; rfl⟩)
    (pth (pfV V) g) 6000 (1048576, U) (by have := pth_len (pfV V) g; omega) ⟨Sfx.pth hg ht, KeepT.refl U, rfl⟩
  refine ⟨U', ?_, y2⟩
  have y1' : loopF (fun x => F_X10_leastRoom_L6 b x.1 x.2.1 x.2.2) 6000 (1048576, nI g, P U) = some y := by
    rw [← y1]
    show _ = loopF _ 6000 (1048576, hd (pth (pfV V) g), P U)
    rw [pth_cons hT hg ht]; rfl
  unfold F_X10_leastRoom
  rw [y1', Option.bind_some, y3]; rfl
theorem Cor.relo (h : Cor V n o) {p g : Nat} (hp : p < 16) (ht : phV V p = true) (hg : g < 12) (htg : thV V g = true) : Cor (reloV V p g) n o := ⟨h.1, h.2.1.relo hg htg, h.2.2.1.relo h.1 h.2.1 hp ht hg htg, h.2.2.2.relo h.1 h.2.1 hp ht hg htg⟩
theorem m_roomBehind (hP : LM b P) (hR : Rel V (U.1 1)) (hC : Cor V n o) (hN : Num V) {p g : Nat} (hp : p < 16) (ht : phV V p = true) (hg : g < 12) (htg : thV V g = true) : ∃ U', F_X10_roomBehind (P U) b (nI p) (nI g) = some (rbF V p g, P U') ∧ KeepT U U' := by
  obtain ⟨g1, g2, g3⟩ := hC.2.1.at hp ht
  have hT := hC.1.tree
  obtain ⟨y, y1, U1, y2, y3⟩ := loop_pH (st := fun x => F_X10_roomBehind_L9 b (nI p) (nI g) (nI (hom V p)) x.1 x.2) (fun l (a : WV) => (hd l, P a))
    (fun l a => Sfx (thV V) (pfV V) l ∧ KeepT U a ∧ (newP (pfV V) g (hom V p)).all (fun x => rmB V p x && decide (V.1 15 x + heldV V p ≤ V.1 8 x)) = (l.takeWhile (fun x => !blw (pfV V) x (hom V p))).all (fun x => rmB V p x && decide (V.1 15 x + heldV V p ≤ V.1 8 x)))
    (fun y => ∃ U', KeepT U U' ∧ y = (if (newP (pfV V) g (hom V p)).all (fun x => rmB V p x && decide (V.1 15 x + heldV V p ≤ V.1 8 x)) then .inr (P U') else .inl (-1, P U')))
    (fun x l a hI => by
      obtain ⟨hs, hk, hf⟩ := hI
      obtain ⟨hx, htx, hp', hs', hl⟩ := hs.cons hT
      have hRa := hk.rel hR
      have hib := m_isBelow hP hRa hC.1 g1 g2 (r := x) (by omega)
      cases hb : blw (pfV V) x (hom V p)
      · obtain ⟨U1, r1, r2⟩ := m_hasRoom hP hRa hC hN hp ht hx htx
        have hR1 := r2.rel hRa
        cases hrm : rmB V p x
        · right
          rw [hrm] at r1
          refine ⟨.inl (-1, P U1), ?_, U1, hk.trans r2, by rw [hf, List.takeWhile_cons]; simp [hb, hrm]⟩
          show F_X10_roomBehind_L9 b (nI p) (nI g) (nI (hom V p)) (nI x) (P a) = _
          unfold F_X10_roomBehind_L9
          rw [if_neg (nI_ne1 (by omega))]
          simp only [ml hP, hib, hb, Bool.false_eq_true, if_false, if_true, Option.bind_some, un, r1]
        · rw [hrm] at r1
          obtain ⟨U2, t1, t2, t3⟩ := m_totalOf hP hR1 hC hx htx
          have hR2 := t2.rel hR1
          by_cases hc : V.1 15 x + heldV V p ≤ V.1 8 x
          · left
            refine ⟨U2, ?_, hs', hk.trans (r2.trans t2), by rw [hf, List.takeWhile_cons]; simp [hb, hrm, hc]⟩
            show F_X10_roomBehind_L9 b (nI p) (nI g) (nI (hom V p)) (nI x) (P a) = _
            unfold F_X10_roomBehind_L9
            rw [if_neg (nI_ne1 (by omega))]
            simp only [ml hP, hib, hb, Bool.false_eq_true, if_false, if_true, Option.bind_some, un, r1, if_neg (show ¬ (1 : Int32) = 0 by decide), t1, m_pagesOf hP hR2 hp ht, mo hP V, hR2, hx, htx, if_pos hc, m_parent hP hR2 hx htx, hC.1.hdv hs]
          · right
            refine ⟨.inl (-1, P U2), ?_, U2, hk.trans (r2.trans t2), by rw [hf, List.takeWhile_cons]; simp [hb, hrm, hc]⟩
            show F_X10_roomBehind_L9 b (nI p) (nI g) (nI (hom V p)) (nI x) (P a) = _
            unfold F_X10_roomBehind_L9
            rw [if_neg (nI_ne1 (by omega))]
            simp only [ml hP, hib, hb, Bool.false_eq_true, if_false, if_true, Option.bind_some, un, r1, if_neg (show ¬ (1 : Int32) = 0 by decide), t1, m_pagesOf hP hR2 hp ht, mo hP V, hR2, hx, htx, if_neg hc]
      · right
        refine ⟨.inr (P a), ?_, a, hk, by rw [hf, List.takeWhile_cons]; simp [hb]⟩
        show F_X10_roomBehind_L9 b (nI p) (nI g) (nI (hom V p)) (nI x) (P a) = _
        unfold F_X10_roomBehind_L9
        rw [if_neg (nI_ne1 (by omega))]
        simp only [ml hP, hib, hb, if_true, Option.bind_some, un, if_neg (show ¬ (1 : Int32) = 0 by decide)])
    (fun a hI => by
      refine ⟨.inr (P a), ?_, a, hI.2.1, by rw [hI.2.2]; simp⟩
      show F_X10_roomBehind_L9 b (nI p) (nI g) (nI (hom V p)) (-1) (P a) = _
      unfold F_X10_roomBehind_L9
      rw [if_pos rfl])
    (pth (pfV V) g) 6000 U (by have := pth_len (pfV V) g; omega) ⟨Sfx.pth hg htg, KeepT.refl U, rfl⟩
  have y1' : loopF (fun x => F_X10_roomBehind_L9 b (nI p) (nI g) (nI (hom V p)) x.1 x.2) 6000 (nI g, P U) = some y := by
    rw [← y1]
    show _ = loopF _ 6000 (hd (pth (pfV V) g), P U)
    rw [pth_cons hT hg htg]; rfl
  have hR1 := y2.rel hR
  unfold F_X10_roomBehind rbF
  simp only [ml hP, m_home hP hR hp ht, g3, Option.bind_some, un, y1', y3]
  cases hall : (newP (pfV V) g (hom V p)).all (fun x => rmB V p x && decide (V.1 15 x + heldV V p ≤ V.1 8 x))
  · exact ⟨U1, rfl, y2⟩
  · simp only [if_true, sE]
    have e1 : F_X10_laysProcess (P U1) b (nI p) 0 (nI g) = some (P (sx U1 1 (upd (U1.1 1) (415 + 8 * p + 0) (nI g)))) := m_laysP (f := 0) hP hp (by decide) _
    have hRr : Rel (reloV V p g) ((sx U1 1 (upd (U1.1 1) (415 + 8 * p + 0) (nI g))).1 1) := hR1.home hp ht hg
    obtain ⟨U2, u1, u2⟩ := m_leastRoom hP hRr (hC.relo hp ht hg htg) hg htg
    have e2 : F_X10_laysProcess (P U2) b (nI p) 0 (nI (hom V p)) = some (P (sx U2 1 (upd (U2.1 1) (415 + 8 * p + 0) (nI (hom V p))))) := m_laysP (f := 0) hP hp (by decide) _
    refine ⟨sx U2 1 (upd (U2.1 1) (415 + 8 * p + 0) (nI (hom V p))), ?_, ?_⟩
    · simp only [ml hP, e1, u1, e2, Option.bind_some, un]
    · intro c hc
      by_cases ec : c = 1
      · subst ec
        rw [sx_1, up_s, u2 1 (by decide)]
        have : (sx U1 1 (upd (U1.1 1) (415 + 8 * p + 0) (nI g))).1 1 = upd (U1.1 1) (415 + 8 * p + 0) (nI g) := rfl
        rw [this, upd_uu]
        have hm : U1.1 1 (415 + 8 * p + 0) = nI (hom V p) := by rw [hR1.2.2.2.1 p 0 hp ht (by decide)]; exact g3
        rw [← hm, upd_id]
        exact y2 1 (by decide)
      · rw [sx_1, up_n _ _ ec, u2 c hc, sx_1, up_n _ _ ec]
        exact y2 c hc
/-- what class and model compare comes to the same -/
theorem place_eq (h : TI V n o) (hM : MaxOK V) {p g : Nat} (hp : p < 16) (ht : phV V p = true) (hg : g < 12) (htg : thV V g = true) : lbF V p g = rbF V p g ∨ ((lbF V p g).toInt ≤ -1 ∧ (rbF V p g).toInt ≤ -1) := by
  obtain ⟨hC, hN, hL, hS⟩ := id h
  obtain ⟨g1, g2, g3⟩ := hC.2.1.at hp ht
  obtain ⟨l1, l2, l3, l4⟩ := lca_mem hC.1 hg htg g1 g2
  have hh := hN.held hp ht
  have hT := hC.1.tree
  have hin : ∀ x ∈ pth (pfV V) g, x < 12 ∧ thV V x = true := fun x hx => by
    obtain ⟨a, c, -⟩ := pth_mem hT _ g (Nat.le_refl _) hg htg x hx
    exact ⟨a, c⟩
  have hnum : ∀ x ∈ pth (pfV V) g, (V.1 8 x - V.1 15 x).toInt = (V.1 8 x).toInt - (V.1 15 x).toInt ∧ 0 ≤ (V.1 15 x).toInt ∧ (V.1 15 x).toInt ≤ 999 ∧ 0 ≤ (V.1 8 x).toInt ∧ (V.1 8 x).toInt ≤ 999 := fun x hx => by
    obtain ⟨a, c⟩ := hin x hx
    have h1 := hN.tot hC.2.2.1 a c
    have h2 := (hL x a c).2.2.2.1
    exact ⟨ti_sub (by omega) (by omega), h1.1, h1.2, h2.1, h2.2⟩
  have hsub : ∀ x ∈ newP (pfV V) g (hom V p), x ∈ pth (pfV V) g := fun x hx => (List.takeWhile_subset _) hx
  have hnb : ∀ x ∈ newP (pfV V) g (hom V p), blw (pfV V) x (hom V p) = false := fun x hx => by
    have := tw_mem (q := fun x => !blw (pfV V) x (hom V p)) _ hx
    simpa using this
  unfold lbF rbF
  cases hall : (newP (pfV V) g (hom V p)).all (rmB V p)
  · left
    have : (newP (pfV V) g (hom V p)).all (fun x => rmB V p x && decide (V.1 15 x + heldV V p ≤ V.1 8 x)) = false := by
      cases hz : (newP (pfV V) g (hom V p)).all (fun x => rmB V p x && decide (V.1 15 x + heldV V p ≤ V.1 8 x)) with
      | false => rfl
      | true =>
        rw [List.all_eq_true] at hz
        have : (newP (pfV V) g (hom V p)).all (rmB V p) = true := List.all_eq_true.mpr fun x hx => (Bool.and_eq_true_iff.mp (hz x hx)).1
        rw [hall] at this; cases this
    rw [this, if_neg (by simp), if_neg (by simp)]
  · rw [if_pos rfl]
    have hfold : ∀ z, z ≤ (newP (pfV V) g (hom V p)).foldl (fun a x => mnI a (V.1 8 x - V.1 15 x - heldV V p)) (lftF V (lca (pfV V) g (hom V p)) 999) ↔ (z ≤ 999 ∧ ∀ x ∈ pth (pfV V) (lca (pfV V) g (hom V p)), z ≤ V.1 8 x - V.1 15 x) ∧ ∀ x ∈ newP (pfV V) g (hom V p), z ≤ V.1 8 x - V.1 15 x - heldV V p := fun z => by
      have := fold_mn (q := fun _ => true) (f := fun x => V.1 8 x - V.1 15 x - heldV V p) (z := z) (newP (pfV V) g (hom V p)) (lftF V (lca (pfV V) g (hom V p)) 999)
      simp only [if_true, true_imp_iff] at this
      rw [this, lft_le]
    cases hz : (newP (pfV V) g (hom V p)).all (fun x => rmB V p x && decide (V.1 15 x + heldV V p ≤ V.1 8 x))
    · right
      refine ⟨?_, by rw [if_neg (by simp)]; decide⟩
      obtain ⟨x, hx, hxn⟩ : ∃ x ∈ newP (pfV V) g (hom V p), ¬ V.1 15 x + heldV V p ≤ V.1 8 x := by
        by_cases hex : ∃ x ∈ newP (pfV V) g (hom V p), ¬ V.1 15 x + heldV V p ≤ V.1 8 x
        · exact hex
        · exfalso
          have : (newP (pfV V) g (hom V p)).all (fun x => rmB V p x && decide (V.1 15 x + heldV V p ≤ V.1 8 x)) = true := List.all_eq_true.mpr fun x hx => by
            have h1 := List.all_eq_true.mp hall x hx
            have h2 : V.1 15 x + heldV V p ≤ V.1 8 x := Decidable.byContradiction fun q => hex ⟨x, hx, q⟩
            simp [h1, h2]
          rw [hz] at this; cases this
      have hle := ((hfold _).mp (Int32.le_refl _)).2 x hx
      obtain ⟨n1, n2, n3, n4, n5⟩ := hnum x (hsub x hx)
      have e1 : (V.1 15 x + heldV V p).toInt = (V.1 15 x).toInt + (heldV V p).toInt := ti_add (by omega) (by omega)
      have e2 : (V.1 8 x - V.1 15 x - heldV V p).toInt = (V.1 8 x).toInt - (V.1 15 x).toInt - (heldV V p).toInt := by rw [ti_sub (by omega) (by omega), n1]
      have e3 : ¬ (V.1 15 x + heldV V p).toInt ≤ (V.1 8 x).toInt := fun q => hxn (ti_le.mpr q)
      have e4 := ti_le.mp hle
      omega
    · left
      rw [if_pos rfl]
      refine eq_of_le fun z => ?_
      rw [hfold z, lft_le]
      have hpf : pfV (reloV V p g) = pfV V := rfl
      rw [hpf]
      have h15 : ∀ x, (reloV V p g).1 15 x = V.1 15 x + ((if x ∈ pth (pfV V) (hom V p) then -heldV V p else 0) + (if x ∈ pth (pfV V) g then heldV V p else 0)) := fun x => two_paths _ (pth_nodup hT g1 g2) (pth_nodup hT hg htg) _ x
      have h8 : ∀ x, (reloV V p g).1 8 x = V.1 8 x := fun x => rfl
      have hnew : ∀ x ∈ newP (pfV V) g (hom V p), (reloV V p g).1 8 x - (reloV V p g).1 15 x = V.1 8 x - V.1 15 x - heldV V p := fun x hx => by
        have hb := hnb x hx
        have hb' : ¬ x ∈ pth (pfV V) (hom V p) := of_decide_eq_false hb
        rw [h8, h15, if_neg hb', if_pos (hsub x hx), Int32.zero_add]
        rw [Int32.sub_eq_add_neg, Int32.neg_add, Int32.sub_eq_add_neg, ← Int32.add_assoc, ← Int32.sub_eq_add_neg, ← Int32.sub_eq_add_neg]
      have hold : ∀ x ∈ pth (pfV V) g, blw (pfV V) x (hom V p) = true → (reloV V p g).1 8 x - (reloV V p g).1 15 x = V.1 8 x - V.1 15 x := fun x hx hb => by
        rw [h8, h15, if_pos (of_decide_eq_true hb), if_pos hx, Int32.add_left_neg, Int32.add_zero]
      obtain ⟨-, -, a, ha⟩ := pth_mem hT _ g (Nat.le_refl _) hg htg _ l1
      have hlp : ∀ x, x ∈ pth (pfV V) (lca (pfV V) g (hom V p)) → x ∈ pth (pfV V) g ∧ blw (pfV V) x (hom V p) = true := fun x hx => by
        refine ⟨by rw [ha]; exact List.mem_append_right _ hx, ?_⟩
        obtain ⟨-, -, c, hc⟩ := pth_mem hT _ _ (Nat.le_refl _) g1 g2 _ (of_decide_eq_true l2)
        exact decide_eq_true (by rw [hc]; exact List.mem_append_right _ hx)
      have e999 : (999 : Int32).toInt = 999 := rfl
      have e2p : (1048576 : Int32).toInt = 1048576 := by decide
      constructor
      · rintro ⟨⟨u1, u2⟩, u3⟩
        refine ⟨ti_le.mpr (by have := ti_le.mp u1; omega), fun x hx => ?_⟩
        cases hb : blw (pfV V) x (hom V p)
        · have hxn := new_mem hC.1 g1 g2 _ (Sfx.pth hg htg) x hx hb
          rw [hnew x hxn]; exact u3 x hxn
        · rw [hold x hx hb]
          -- all behind the first of both paths are on both
          by_cases hxl : x ∈ pth (pfV V) (lca (pfV V) g (hom V p))
          · exact u2 x hxl
          · exfalso
            rw [ha] at hx
            rcases List.mem_append.mp hx with q | q
            · have hfind : (pth (pfV V) g).find? (fun x => blw (pfV V) x (hom V p)) = some (lca (pfV V) g (hom V p)) := by
                have h0 : (pth (pfV V) g).find? (fun x => blw (pfV V) x (hom V p)) ≠ none := fun e => by
                  have := List.find?_eq_none.mp e 0 (of_decide_eq_true (blw_root hT hg htg))
                  exact this (blw_root hT g1 g2)
                obtain ⟨z, hz⟩ := Option.ne_none_iff_exists'.mp h0
                unfold lca
                rw [hz]; rfl
              have hnd := pth_nodup hT hg htg
              rw [ha, List.find?_append] at hfind
              cases hfa : a.find? (fun x => blw (pfV V) x (hom V p)) with
              | none => exact absurd hb (List.find?_eq_none.mp hfa x q)
              | some y =>
                rw [hfa] at hfind
                have hy : y = lca (pfV V) g (hom V p) := by simpa using hfind
                have hya := List.mem_of_find?_eq_some hfa
                rw [ha] at hnd
                have hself : lca (pfV V) g (hom V p) ∈ pth (pfV V) (lca (pfV V) g (hom V p)) := of_decide_eq_true (blw_self hT l3 l4)
                exact (List.nodup_append.mp hnd).2.2 y hya y (by rw [hy]; exact hself) rfl
            · exact hxl q
      · rintro ⟨u1, u2⟩
        refine ⟨⟨?_, fun x hx => ?_⟩, fun x hx => ?_⟩
        · have h0 := u2 _ l1
          rw [hold _ l1 l2] at h0
          obtain ⟨n1, n2, n3, n4, n5⟩ := hnum _ l1
          have := ti_le.mp h0
          exact ti_le.mpr (by omega)
        · obtain ⟨q1, q2⟩ := hlp x hx
          rw [← hold x q1 q2]; exact u2 x q1
        · rw [← hnew x hx]; exact u2 x (hsub x hx)
end PLACE
