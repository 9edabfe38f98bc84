/-! a charge -/
def AdR (V : WV) (p k : Nat) (d : Int32) (res : Int32 × WV) : Prop :=
  if V.1 14 (hom V p) < d then
    if fstAb V (hom V p) (mxI d (V.1 0 4)) = none then res = (0, stkA (pgsA V p k d) (hom V p) (mxI d (V.1 0 4) - d))
    else ∃ m r, m ≤ 40 ∧ MkR p (hom V p) d m V 0 r ∧ ((¬ r.1 = 0 ∧ ¬ r.1 = 1 ∧ ¬ r.1 = 2 ∧ res = r) ∨ ((r.1 = 0 ∨ r.1 = 1 ∨ r.1 = 2) ∧ res = (r.1, pgsA r.2 p k d)))
  else res = (0, pgsA (stkA V (hom V p) (-d)) p k d)
def CgR (V : WV) (p k : Nat) (d : Int32) (res : Int32 × WV) : Prop :=
  ∃ r, AdR V p k d r ∧ ((¬ r.1 = 0 ∧ ¬ r.1 = 1 ∧ ¬ r.1 = 2 ∧ res = r) ∨ ((r.1 = 0 ∨ r.1 = 1 ∨ r.1 = 2) ∧ ∃ V', HiR p (pth (pfV r.2) (hom r.2 p)) r.2 V' ∧ res = (r.1, V')))
section CHARGE
variable {V Q : WV} {n : Nat} {o : Nat → Nat} {w q b : Nat} {P : WV → WV → Hp}
theorem root_tot (hC : Cor V n o) (h : Num V) : (V.1 15 0).toInt = stkI V + pgsI V := by
  have hO := hC.1
  have ht0 : thV V 0 = true := by
    have := hO.th (i := 0) (by have := hO.1; omega)
    rw [hO.2.2.2.1] at this; exact this
  rw [tot_I h hC.2.2.1 (by decide) ht0]
  have e1 : isum 12 (fun g => if thV V g && blw (pfV V) 0 g then (V.1 14 g).toInt else 0) = stkI V := isum_cong 12 fun g hg => by
    cases ht : thV V g
    · rfl
    · rw [blw_root hO.tree hg ht]; rfl
  have e2 : isum 16 (fun p => if phV V p && blw (pfV V) 0 (hom V p) then (V.1 27 p).toInt + (V.1 28 p).toInt else 0) = pgsI V := isum_cong 16 fun p hp => by
    cases ht : phV V p
    · rfl
    · obtain ⟨k1, k2, k3⟩ := hC.2.1.at hp ht
      rw [blw_root hO.tree k1 k2]; rfl
  rw [e1, e2]
theorem Num.stkA_ (h : Num V) {g : Nat} (hg : g < 12) (ht : thV V g = true) {d : Int32} (h0 : 0 ≤ (V.1 14 g).toInt + d.toInt) (h9 : stkI V + pgsI V + d.toInt ≤ 999) : Num (stkA V g d) ∧ stkI (stkA V g d) = stkI V + d.toInt ∧ pgsI (stkA V g d) = pgsI V := by
  have hs := h.stock hg ht
  have := h.stk0
  have := h.pgs0
  have e : (V.1 14 g + d).toInt = (V.1 14 g).toInt + d.toInt := ti_add (by omega) (by omega)
  have e14 : ∀ x, (stkA V g d).1 14 x = upd (V.1 14) g (V.1 14 g + d) x := fun x => rfl
  have s1 : stkI (stkA V g d) = stkI V + d.toInt := by
    refine isum_upd (k := g) 12 hg ?_ (fun i hi hne => ?_)
    · show (if thV V g then ((stkA V g d).1 14 g).toInt else 0) = (if thV V g then (V.1 14 g).toInt else 0) + d.toInt
      rw [ht, if_pos rfl, if_pos rfl, e14, upd_s, e]
    · show (if thV V i then ((stkA V g d).1 14 i).toInt else 0) = _
      rw [e14, upd_ne _ _ hne]
  have s2 : pgsI (stkA V g d) = pgsI V := rfl
  refine ⟨⟨fun x hx htx => ?_, h.2.1, by rw [s1, s2]; omega⟩, s1, s2⟩
  rw [e14]
  by_cases ex : x = g
  · subst ex; rw [upd_s, e]; omega
  · rw [upd_ne _ _ ex]; exact h.1 x hx htx
theorem Cor.stkA_ (h : Cor V n o) {g : Nat} (hg : g < 12) (ht : thV V g = true) (d : Int32) : Cor (stkA V g d) n o := ⟨h.1, h.2.1, h.2.2.1.stock h.1 hg ht d, h.2.2.2⟩
theorem pgsA_fr {p k : Nat} (hk : k < 2) (d : Int32) : Fr V (pgsA V p k d) := by
  have hk' : k = 0 ∨ k = 1 := by omega
  refine ⟨fun c hc => ?_, by rcases hk' with rfl | rfl <;> rfl, fun x _ hx => ?_⟩
  · unfold pgsA
    rw [sx_1, up_n _ _ (by omega), sx_1, up_n _ _ (by omega)]
  · rcases hk' with rfl | rfl <;> exact ⟨hx, rfl, rfl, rfl, rfl, rfl⟩
theorem stkA_fr (g : Nat) (d : Int32) : Fr V (stkA V g d) := ⟨fun c hc => by unfold stkA; rw [sx_1, up_n _ _ (by omega), sx_1, up_n _ _ (by omega)], rfl, fun x _ hx => ⟨hx, rfl, rfl, rfl, rfl, rfl⟩⟩
theorem pgsA_15 {p k : Nat} (hk : k < 2) (d : Int32) : (pgsA V p k d).1 15 = addTo (V.1 15) (pth (pfV V) (hom V p)) d := by
  have hk' : k = 0 ∨ k = 1 := by omega
  rcases hk' with rfl | rfl <;> rfl
theorem pgsA_14 {p k : Nat} (hk : k < 2) (d : Int32) : (pgsA V p k d).1 14 = V.1 14 := by
  have hk' : k = 0 ∨ k = 1 := by omega
  rcases hk' with rfl | rfl <;> rfl
theorem pgsA_ph {p k : Nat} (hk : k < 2) (d : Int32) : phV (pgsA V p k d) = phV V := by
  have hk' : k = 0 ∨ k = 1 := by omega
  rcases hk' with rfl | rfl <;> rfl
theorem pgsA_hom {p k : Nat} (hk : k < 2) (d : Int32) (x : Nat) : hom (pgsA V p k d) x = hom V x := by
  have hk' : k = 0 ∨ k = 1 := by omega
  rcases hk' with rfl | rfl <;> rfl
theorem pgsA_ded (h : DedOK V) {p k : Nat} (ht : phV V p = true) (hk : k < 2) (d : Int32) : DedOK (pgsA V p k d) := by
  have hk' : k = 0 ∨ k = 1 := by omega
  intro x hx hd
  rw [pgsA_ph hk] at hd
  have hne : x ≠ p := fun e => by subst e; rw [ht] at hd; cases hd
  obtain ⟨a, b, c⟩ := h x hx hd
  rcases hk' with rfl | rfl
  · exact ⟨(upd_ne _ _ hne).trans a, b, c⟩
  · exact ⟨a, (upd_ne _ _ hne).trans b, c⟩
theorem LimR.fr {V' : WV} (hL : LimR V) (hf : Fr V V') : LimR V' := fun g hg ht => by
  rw [hf.th] at ht
  rw [hf.1 5 (by decide), hf.1 6 (by decide), hf.1 7 (by decide), hf.1 8 (by decide), hf.1 10 (by decide), hf.1 11 (by decide), hf.1 12 (by decide)]
  exact hL g hg ht
theorem SwN.same {V' : WV} (h : SwN V) (h0 : V'.1 0 = V.1 0) (h24 : V'.1 24 = V.1 24) (h29 : V'.1 29 = V.1 29) : SwN V' := by
  unfold SwN swpI at h ⊢
  rw [phV_same h24, h0, h29]; exact h
theorem pgsA_c {p k : Nat} (d : Int32) {c : Nat} (h15 : c ≠ 15) (h27 : c ≠ 27 + k) : (pgsA V p k d).1 c = V.1 c := by
  unfold pgsA
  rw [sx_1, up_n _ _ h15, sx_1, up_n _ _ h27]
theorem SwN.pg (h : SwN V) {p k : Nat} (hk : k < 2) (d : Int32) : SwN (pgsA V p k d) := h.same (pgsA_c d (by decide) (by omega)) (pgsA_c d (by decide) (by omega)) (pgsA_c d (by decide) (by omega))
theorem SwN.st (h : SwN V) (g : Nat) (d : Int32) : SwN (stkA V g d) := h
/-- pages more by d where all of the path has room for them -/
theorem pages_more (h : TI V n o) (hM : MaxOK V) {p k : Nat} (hp : p < 16) (ht : phV V p = true) (hk : k < 2) {d : Int32} (h0 : 0 ≤ d.toInt) (h9 : d.toInt ≤ 999) (hf : fstAb V (hom V p) d = none) : TI (pgsA V p k d) n o ∧ MaxOK (pgsA V p k d) ∧ stkI V + pgsI V + d.toInt ≤ 999 := by
  obtain ⟨hC, hN, hL, hS⟩ := id h
  obtain ⟨g1, g2, g3⟩ := hC.2.1.at hp ht
  have hk' : k = 0 ∨ k = 1 := by omega
  have hall : ∀ x ∈ pth (pfV V) (hom V p), V.1 15 x + d ≤ V.1 8 x := fun x hx => by
    have := List.find?_eq_none.mp hf x hx
    simpa using this
  have h0m : 0 ∈ pth (pfV V) (hom V p) := of_decide_eq_true (blw_root hC.1.tree g1 g2)
  have ht0 : thV V 0 = true := by
    have := hC.1.th (i := 0) (by have := hC.1.1; omega)
    rw [hC.1.2.2.2.1] at this; exact this
  have hsum : stkI V + pgsI V + d.toInt ≤ 999 := by
    have h1 := ti_le.mp (hall 0 h0m)
    have h2 := (mF_I h hM (f := 0) (by decide) ht0 h0 h9).1
    have h3 := (hL 0 (by decide) ht0).2.2.2.1.2
    have h4 := root_tot hC hN
    omega
  have hpg : 0 ≤ (V.1 (27 + k) p).toInt := by
    have := hN.2.1 p hp ht
    rcases hk' with rfl | rfl
    · exact this.1
    · exact this.2.1
  have hn := hN.pages hp ht hk (d := d) (by omega) (by omega)
  refine ⟨⟨hC.pages hp ht hk d, hn.1, hL.fr (pgsA_fr hk d), hS.pg hk d⟩, fun x hx htx => ?_, hsum⟩
  · have hx2 : thV V x = true := by rw [← (pgsA_fr hk d).th]; exact htx
    rw [(pgsA_fr hk d).1 8 (by decide), pgsA_15 hk, addTo_at _ _ (pth_nodup hC.1.tree g1 g2)]
    split
    · rename_i hm; exact ti_le.mp (hall x hm)
    · exact hM x hx hx2
theorem c_admit (hP : L2 w q P) (h : TI V n o) (hM : MaxOK V) {p k : Nat} (hp : p < 16) (ht : phV V p = true) (hk : k < 2) {d : Int32} (h0 : 1 ≤ d.toInt) (h9 : d.toInt ≤ 99) (Q : WV) : ∃ res Q', F_X3_admit (P V Q) (q + 7) w (nI p) (nI k) d = some (res.1, P res.2 Q') ∧ AdR V p k d res := by
  obtain ⟨hC, hN, hL, hS⟩ := id h
  obtain ⟨g1, g2, g3⟩ := hC.2.1.at hp ht
  obtain ⟨g, hg⟩ : ∃ g, g = hom V p := ⟨_, rfl⟩
  unfold AdR
  rw [← hg] at g1 g2 g3 ⊢
  by_cases c1 : V.1 14 g < d
  · simp only [if_pos c1]
    have hfa : F_X6_firstAboveMax (P V Q) (w + 1) (nI g) (mxI d (V.1 0 4)) = some (match fstAb V g (mxI d (V.1 0 4)) with | none => -1 | some r => nI r) := s_firstAbove (P := fun V => P V Q) (hP.1 Q).lt hC.1 g1 g2 _
    cases hf : fstAb V g (mxI d (V.1 0 4)) with
    | none =>
      rw [hf] at hfa
      have hc2 := hC.pages hp ht hk d
      have e1 : F_X8_addPages (P V Q) w (nI p) (nI k) d = some (P (pgsA V p k d) Q) := s_addPages (P := fun V => P V Q) (hP.1 Q) hC.1 hC.2.1 hp ht hk d
      have e2 : F_X6_addStock (P (pgsA V p k d) Q) (w + 1) (nI g) (mxI d (V.1 0 4) - d) = some (P (stkA (pgsA V p k d) g (mxI d (V.1 0 4) - d)) Q) := s_addStock (P := fun V => P V Q) (hP.1 Q).lt hc2.1 g1 (by rw [(pgsA_fr hk d).th]; exact g2) _
      refine ⟨(0, stkA (pgsA V p k d) g (mxI d (V.1 0 4) - d)), Q, ?_, by simp⟩
      unfold F_X3_admit
      simp only [ol (hP.1 Q).lo, cl (hP.1 Q).lc, tl (hP.1 Q).lt, hp, g3, g1, Option.bind_some, if_pos c1, bl, hfa, if_true, e1, e2]
    | some f =>
      rw [hf] at hfa
      have hfl : f < 12 := (fst_mem hC.1 g1 g2 hf).1
      obtain ⟨m, r, Q', r1, r2, r3⟩ := c_room hP h hM hp ht (d := d) (by omega) (by omega) Q
      rw [← hg] at r3
      have hpost := mk_post g1 (by omega) (by omega) m V 0 r3 h hM g2 (Or.inl rfl) ht hp
      by_cases ho : r.1 = 0 ∨ r.1 = 1 ∨ r.1 = 2
      · have hph : phV r.2 p = true := by
          rcases hpost.2.2.2.2 with e | e | e
          · rw [e] at ho; exact absurd ho (by decide)
          · rw [e] at ho; exact absurd ho (by decide)
          · exact e.2.1
        have e1 : F_X8_addPages (P r.2 Q') w (nI p) (nI k) d = some (P (pgsA r.2 p k d) Q') := s_addPages (P := fun V => P V Q') (hP.1 Q') hpost.1.1.1 hpost.1.1.2.1 hp hph hk d
        have e2 : F_X9_outlives (P r.2 Q') r.1 = some 1 := by
          unfold F_X9_outlives
          rcases ho with e | e | e
          · rw [if_pos e]
          · rw [e, if_neg (by decide), if_pos rfl]
          · rw [e, if_neg (by decide), if_neg (by decide), if_pos rfl]
        refine ⟨(r.1, pgsA r.2 p k d), Q', ?_, by simp only [reduceCtorEq, if_false]; exact ⟨m, r, r2, r3, Or.inr ⟨ho, rfl⟩⟩⟩
        unfold F_X3_admit
        simp only [ol (hP.1 Q).lo, cl (hP.1 Q).lc, tl (hP.1 Q).lt, ql (hP.2 V), hp, g3, g1, Option.bind_some, if_pos c1, bl, hfa, if_neg (nI_ne1 (show f < 2 ^ 31 by omega)), r1, un, e2, if_neg (show ¬ (1 : Int32) = 0 by decide), ol (hP.1 Q').lo, e1]
      · have ho' : ¬ r.1 = 0 ∧ ¬ r.1 = 1 ∧ ¬ r.1 = 2 := ⟨fun e => ho (Or.inl e), fun e => ho (Or.inr (Or.inl e)), fun e => ho (Or.inr (Or.inr e))⟩
        have e2 : F_X9_outlives (P r.2 Q') r.1 = some 0 := by
          unfold F_X9_outlives
          rw [if_neg ho'.1, if_neg ho'.2.1, if_neg ho'.2.2]
        refine ⟨r, Q', ?_, by simp only [reduceCtorEq, if_false]; exact ⟨m, r, r2, r3, Or.inl ⟨ho'.1, ho'.2.1, ho'.2.2, rfl⟩⟩⟩
        unfold F_X3_admit
        simp only [ol (hP.1 Q).lo, cl (hP.1 Q).lc, tl (hP.1 Q).lt, ql (hP.2 V), hp, g3, g1, Option.bind_some, if_pos c1, bl, hfa, if_neg (nI_ne1 (show f < 2 ^ 31 by omega)), r1, un, e2, if_true]
  · simp only [if_neg c1]
    have e1 : F_X6_addStock (P V Q) (w + 1) (nI g) (-d) = some (P (stkA V g (-d)) Q) := s_addStock (P := fun V => P V Q) (hP.1 Q).lt hC.1 g1 g2 _
    have hc2 := hC.stkA_ g1 g2 (-d)
    have e2 : F_X8_addPages (P (stkA V g (-d)) Q) w (nI p) (nI k) d = some (P (pgsA (stkA V g (-d)) p k d) Q) := s_addPages (V := stkA V g (-d)) (P := fun V => P V Q) (hP.1 Q) hc2.1 hc2.2.1 hp ht hk d
    refine ⟨(0, pgsA (stkA V g (-d)) p k d), Q, ?_, rfl⟩
    unfold F_X3_admit
    simp only [ol (hP.1 Q).lo, cl (hP.1 Q).lc, tl (hP.1 Q).lt, hp, g3, g1, Option.bind_some, if_neg c1, e1, e2]
theorem ad_b (h : TI V n o) (hM : MaxOK V) (hd : DedOK V) {p k : Nat} (hp : p < 16) (ht : phV V p = true) (hk : k < 2) {d : Int32} (h0 : 1 ≤ d.toInt) (h9 : d.toInt ≤ 99) (hb : 0 ≤ (V.1 0 4).toInt ∧ (V.1 0 4).toInt ≤ 8) (c2 : fstAb V (hom V p) (mxI d (V.1 0 4)) = none) {R : WV} (hR : R = stkA (pgsA V p k d) (hom V p) (mxI d (V.1 0 4) - d)) : TI R n o ∧ Fr V R ∧ DedOK R ∧ MaxOK R ∧ phV R p = true := by
  obtain ⟨hC, hN, hL, hS⟩ := id h
  obtain ⟨g1, g2, g3⟩ := hC.2.1.at hp ht
  have hW : (mxI d (V.1 0 4)).toInt = max d.toInt (V.1 0 4).toInt := ti_mx _ _
  have hWd : (mxI d (V.1 0 4) - d).toInt = (mxI d (V.1 0 4)).toInt - d.toInt := ti_sub (by omega) (by omega)
  obtain ⟨a1, a2, a3⟩ := pages_more h hM hp ht hk (d := mxI d (V.1 0 4)) (by omega) (by omega) c2
  have hk' : k = 0 ∨ k = 1 := by omega
  have hpg : 0 ≤ (V.1 (27 + k) p).toInt := by
    have := hN.2.1 p hp ht
    rcases hk' with rfl | rfl
    · exact this.1
    · exact this.2.1
  obtain ⟨b1, b2, b3⟩ := hN.pages hp ht hk (d := d) (by omega) (by omega)
  have hc2 := hC.pages hp ht hk d
  have f1 : Fr V (pgsA V p k d) := pgsA_fr hk d
  have th2 : thV (pgsA V p k d) (hom V p) = true := by rw [f1.th]; exact g2
  have hst := hN.stock g1 g2
  have e14 := pgsA_14 (V := V) (p := p) hk d
  have e15 := pgsA_15 (V := V) (p := p) hk d
  have s2 := hS.pg (p := p) hk d
  have dd := pgsA_ded hd ht hk d
  have ph2 := pgsA_ph (V := V) (p := p) hk d
  obtain ⟨X, hX⟩ : ∃ X, X = pgsA V p k d := ⟨_, rfl⟩
  rw [← hX] at b1 b2 b3 hc2 f1 th2 e14 e15 s2 dd ph2 hR
  obtain ⟨d1, d2, d3⟩ := b1.stkA_ g1 th2 (d := mxI d (V.1 0 4) - d) (by rw [e14]; omega) (by rw [b2, b3]; omega)
  have f2 : Fr V R := by rw [hR]; exact f1.trans (stkA_fr _ _)
  subst hR
  refine ⟨⟨hc2.stkA_ g1 th2 _, d1, hL.fr f2, s2.st _ _⟩, f2, dd, fun x hx htx => ?_, by show phV X p = true; rw [ph2]; exact ht⟩
  rw [f2.th] at htx
  have h1 := a2 x hx (by rw [(pgsA_fr hk _).th]; exact htx)
  have e : (stkA X (hom V p) (mxI d (V.1 0 4) - d)).1 15 x = (pgsA V p k (mxI d (V.1 0 4))).1 15 x := by
    show addTo (X.1 15) (pth (pfV X) (hom V p)) (mxI d (V.1 0 4) - d) x = _
    rw [f1.pf, e15, pgsA_15 hk, addTo_at _ _ (pth_nodup hC.1.tree g1 g2), addTo_at _ _ (pth_nodup hC.1.tree g1 g2), addTo_at _ _ (pth_nodup hC.1.tree g1 g2)]
    split
    · rw [Int32.add_assoc, Int32.sub_eq_add_neg, Int32.add_comm (mxI d (V.1 0 4)), ← Int32.add_assoc d, Int32.add_right_neg, Int32.zero_add]
    · rfl
  rw [e, f2.1 8 (by decide)]
  rw [(pgsA_fr hk _).1 8 (by decide)] at h1
  exact h1
theorem ad_a (h : TI V n o) (hM : MaxOK V) (hd : DedOK V) {p k : Nat} (hp : p < 16) (ht : phV V p = true) (hk : k < 2) {d : Int32} (h0 : 1 ≤ d.toInt) (h9 : d.toInt ≤ 99) (c1 : ¬ V.1 14 (hom V p) < d) {R : WV} (hR : R = pgsA (stkA V (hom V p) (-d)) p k d) : TI R n o ∧ Fr V R ∧ DedOK R ∧ MaxOK R ∧ phV R p = true := by
  obtain ⟨hC, hN, hL, hS⟩ := id h
  obtain ⟨g1, g2, g3⟩ := hC.2.1.at hp ht
  have c1' : d.toInt ≤ (V.1 14 (hom V p)).toInt := ti_le.mp (Int32.not_lt.mp c1)
  have hnd : (-d).toInt = -d.toInt := ti_neg (by omega)
  have hst := hN.stock g1 g2
  obtain ⟨d1, d2, d3⟩ := hN.stkA_ g1 g2 (d := -d) (by omega) (by have := hN.2.2; omega)
  have hk' : k = 0 ∨ k = 1 := by omega
  have hc1 := hC.stkA_ g1 g2 (-d)
  have f1 : Fr V (stkA V (hom V p) (-d)) := stkA_fr _ _
  have e15 : (stkA V (hom V p) (-d)).1 15 = addTo (V.1 15) (pth (pfV V) (hom V p)) (-d) := rfl
  have ph1 : phV (stkA V (hom V p) (-d)) p = true := ht
  have ho1 : hom (stkA V (hom V p) (-d)) p = hom V p := rfl
  have s1 := hS.st (hom V p) (-d)
  have dd : DedOK (stkA V (hom V p) (-d)) := hd
  obtain ⟨X, hX⟩ : ∃ X, X = stkA V (hom V p) (-d) := ⟨_, rfl⟩
  rw [← hX] at d1 d2 d3 hc1 f1 e15 ph1 ho1 s1 dd hR
  have hpg : 0 ≤ (X.1 (27 + k) p).toInt := by
    have := d1.2.1 p hp ph1
    rcases hk' with rfl | rfl
    · exact this.1
    · exact this.2.1
  obtain ⟨b1, b2, b3⟩ := d1.pages (p := p) (k := k) hp ph1 hk (d := d) (by omega) (by rw [d2, d3]; have := hN.2.2; omega)
  have f2 : Fr V R := by rw [hR]; exact f1.trans (pgsA_fr hk d)
  subst hR
  refine ⟨⟨hc1.pages hp ph1 hk d, b1, hL.fr f2, s1.pg hk d⟩, f2, pgsA_ded dd ph1 hk d, fun x hx htx => ?_, by rw [pgsA_ph hk]; exact ph1⟩
  rw [f2.th] at htx
  rw [f2.1 8 (by decide)]
  have e : (pgsA X p k d).1 15 x = V.1 15 x := by
    rw [pgsA_15 hk, ho1, f1.pf, e15, addTo_at _ _ (pth_nodup hC.1.tree g1 g2), addTo_at _ _ (pth_nodup hC.1.tree g1 g2)]
    split
    · rw [Int32.add_assoc, Int32.add_left_neg, Int32.add_zero]
    · rfl
  rw [e]; exact hM x hx htx
theorem ad_post (h : TI V n o) (hM : MaxOK V) (hd : DedOK V) {p k : Nat} (hp : p < 16) (ht : phV V p = true) (hk : k < 2) {d : Int32} (h0 : 1 ≤ d.toInt) (h9 : d.toInt ≤ 99) (hb : 0 ≤ (V.1 0 4).toInt ∧ (V.1 0 4).toInt ≤ 8) {res : Int32 × WV} (hr : AdR V p k d res) : TI res.2 n o ∧ Fr V res.2 ∧ DedOK res.2 ∧ (res.1 = -4 ∨ (MaxOK res.2 ∧ (res.1 = 3 ∨ ((res.1 = 0 ∨ res.1 = 1 ∨ res.1 = 2) ∧ phV res.2 p = true)))) := by
  obtain ⟨g1, g2, g3⟩ := h.1.2.1.at hp ht
  unfold AdR at hr
  by_cases c1 : V.1 14 (hom V p) < d
  · rw [if_pos c1] at hr
    by_cases c2 : fstAb V (hom V p) (mxI d (V.1 0 4)) = none
    · rw [if_pos c2] at hr
      obtain ⟨b1, b2, b3, b4, b5⟩ := ad_b h hM hd hp ht hk h0 h9 hb c2 rfl
      rw [hr]
      exact ⟨b1, b2, b3, Or.inr ⟨b4, Or.inr ⟨Or.inl rfl, b5⟩⟩⟩
    · rw [if_neg c2] at hr
      obtain ⟨m, r, hm, hmk, hor⟩ := hr
      obtain ⟨b1, b2, b3, b4, b5⟩ := mk_post g1 (by omega) (by omega) m V 0 hmk h hM g2 (Or.inl rfl) ht hp
      have hM2 : MaxOK r.2 := hM.le b2 b3
      rcases hor with ⟨o1, o2, o3, rfl⟩ | ⟨ho, rfl⟩
      · refine ⟨b1, b3, b4 hd, ?_⟩
        rcases b5 with e | e | ⟨e, -, -⟩
        · exact Or.inl e
        · exact Or.inr ⟨hM2, Or.inl e⟩
        · rcases e with e | e | e
          · exact absurd e o1
          · exact absurd e o2
          · exact absurd e o3
      · have b5' : phV r.2 p = true ∧ fstAb r.2 (hom V p) d = none := by
          rcases b5 with e | e | e
          · rw [e] at ho; exact absurd ho (by decide)
          · rw [e] at ho; exact absurd ho (by decide)
          · exact e.2
        have hho : hom r.2 p = hom V p := by
          unfold hom; rw [(b3.2.2 p hp b5'.1).2.1]
        obtain ⟨a1, a2, a3⟩ := pages_more b1 hM2 hp b5'.1 hk (d := d) (by omega) (by omega) (by rw [hho]; exact b5'.2)
        exact ⟨a1, b3.trans (pgsA_fr hk d), pgsA_ded (b4 hd) b5'.1 hk d, Or.inr ⟨a2, Or.inr ⟨ho, by show phV (pgsA r.2 p k d) p = true; rw [pgsA_ph hk]; exact b5'.1⟩⟩⟩
  · rw [if_neg c1] at hr
    obtain ⟨b1, b2, b3, b4, b5⟩ := ad_a h hM hd hp ht hk h0 h9 c1 rfl
    rw [hr]
    exact ⟨b1, b2, b3, Or.inr ⟨b4, Or.inr ⟨Or.inl rfl, b5⟩⟩⟩
end CHARGE
