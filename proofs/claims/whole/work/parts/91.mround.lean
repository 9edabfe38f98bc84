/-! one round of handing out units in a group: the model -/
section MROUND
variable {V U : WV} {n : Nat} {o : Nat → Nat} {b g : Nat} {P : WV → Hp}
theorem m_isOf (hP : LM b P) (hR : Rel V (U.1 1)) (hO : OrdOK V n o) {y : Nat} (hg : g < 12) (hy : y < 28) : F_X10_isOf (P U) b (nI y) (nI g) = some (if memb V g y then 1 else 0, P U) := by
  unfold F_X10_isOf memb
  by_cases h12 : y < 12
  · rw [h12I, if_neg (nI_ge h12 (by decide)), if_pos h12]
    by_cases h0 : y = 0
    · subst h0
      have e0 : ¬ V.1 2 0 = nI g := by rw [hO.2.2.2.2.2.2.1]; exact (nI_ne1 (by omega)).symm
      rw [if_pos (show nI 0 ≤ 0 by decide), decide_eq_false e0]; rfl
    · have hp : ¬ nI y ≤ 0 := nI_ge (a := 0) (b := y) (by omega) (by omega)
      rw [if_neg hp]
      simp only [ml hP, m_isGroup' hP hR h12, Option.bind_some]
      cases ht : thV V y
      · have e : V.1 2 y = -2 := by simpa [thV] using ht
        have e2 : ¬ V.1 2 y = nI g := by rw [e]; exact (nI_ne2 (by omega)).symm
        rw [decide_eq_false e2]
        simp
      · simp only [if_true, if_neg (show ¬ (1 : Int32) = 0 by decide), m_parent hP hR h12 ht, Option.bind_some, un]
        by_cases e : V.1 2 y = nI g
        · rw [if_pos e, decide_eq_true e]; rfl
        · rw [if_neg e, decide_eq_false e]; rfl
  · obtain ⟨p, rfl⟩ : ∃ p, y = 12 + p := ⟨y - 12, by omega⟩
    have hp : p < 16 := by omega
    have e12 : 12 + p - 12 = p := by omega
    have hc : nI 12 ≤ nI (12 + p) := nI_le (by omega) (by omega)
    have hm : nI (12 + p) - nI 12 = nI p := nI_m12 p
    rw [h12I, if_pos hc, if_neg h12, e12, hm]
    simp only [ml hP, m_isProc' hP hR hp, Option.bind_some]
    cases ht : phV V p
    · have e : V.1 24 p = -1 := by simpa [phV] using ht
      have e2 : ¬ V.1 24 p = nI g := by rw [e]; exact (nI_ne1 (by omega)).symm
      rw [decide_eq_false e2]
      simp
    · simp only [if_true, if_neg (show ¬ (1 : Int32) = 0 by decide), m_home hP hR hp ht, Option.bind_some, un]
      by_cases e : V.1 24 p = nI g
      · rw [if_pos e, decide_eq_true e]; rfl
      · rw [if_neg e, decide_eq_false e]; rfl
theorem m_weight (hP : LM b P) (hR : Rel V (U.1 1)) {y : Nat} (hg : g < 12) (hy : y < 28) (hm : memb V g y = true) : F_X10_weightOf (P U) b (nI y) = some (wtV V y, P U) := by
  unfold F_X10_weightOf wtV
  unfold memb at hm
  by_cases h12 : y < 12
  · rw [h12I, if_neg (nI_ge h12 (by decide)), if_pos h12]
    rw [if_pos h12] at hm
    have e : V.1 2 y = nI g := of_decide_eq_true hm
    have ht : thV V y = true := by
      unfold thV; rw [e]; exact decide_eq_true (nI_ne2 (by omega))
    simp only [ml hP, mo hP V, hR, h12, ht, Option.bind_some, un]
  · rw [h12I, if_pos (nI_le (by omega) (by omega)), if_neg h12]
theorem inR_m {A G : Nat → Int32} {y : Nat} (h : inR V A G g y = true) : memb V g y = true ∧ G y < A y := by
  unfold inR at h; simp at h; exact h
theorem m_best (hP : LM b P) (hR : Rel V (U.1 1)) (hO : OrdOK V n o) (hL : LimR V) (hg : g < 12) (u : Int32) : ∃ f, loopF (fun x => F_X10_round_L8 b (nI g) u x.1 x.2.1 x.2.2.1 x.2.2.2) 6000 (0, (-1), 0, P U) = some (sumW V (U.1 16) (U.1 17) g, oI (bstW V (U.1 16) (U.1 17) g 28), P (sx U 18 f)) ∧ ∀ y, y < 28 → f y = if inR V (U.1 16) (U.1 17) g y then 1 else 0 := by
  obtain ⟨A, hA⟩ : ∃ A, A = U.1 16 := ⟨_, rfl⟩
  obtain ⟨G, hG⟩ : ∃ G, G = U.1 17 := ⟨_, rfl⟩
  rw [← hA, ← hG]
  obtain ⟨a, ha, k1, k2, k3⟩ := loop_inv (st := fun x => F_X10_round_L8 b (nI g) u x.1 x.2.1 x.2.2.1 x.2.2.2) (fun i (a : Int32 × Option Nat × (Nat → Int32)) => (a.1, oI a.2.1, nI i, P (sx U 18 a.2.2))) (fun a => (a.1, oI a.2.1, P (sx U 18 a.2.2))) (fun i a => a.1 = smI (List.range i) (akW V A G g) ∧ a.2.1 = bstW V A G g i ∧ ∀ y, y < i → a.2.2 y = if inR V A G g y then 1 else 0) 28
    (fun i a hi hI => by
      obtain ⟨i1, i2, i3⟩ := hI
      have hR' : ∀ f, Rel V ((sx U 18 f).1 1) := fun f => hR
      have s16 : ∀ f, (sx U 18 f).1 16 = A := fun f => hA.symm
      have s17 : ∀ f, (sx U 18 f).1 17 = G := fun f => hG.symm
      have s18 : ∀ f, (sx U 18 f).1 18 = f := fun f => rfl
      have hof : ∀ f, F_X10_isOf (P (sx U 18 f)) b (nI i) (nI g) = some (if memb V g i then 1 else 0, P (sx U 18 f)) := fun f => m_isOf hP (hR' f) hO hg hi
      have hin : ((if (if memb V g i then (1 : Int32) else 0) = 0 then some (0 : Int32) else if A i ≤ G i then some 0 else some 1)) = some (if inR V A G g i then 1 else 0) := by
        unfold inR
        cases memb V g i
        · rfl
        · rw [if_neg (show ¬ (if true = true then (1 : Int32) else 0) = 0 by decide)]
          by_cases c : A i ≤ G i
          · rw [if_pos c, decide_eq_false (Int32.not_lt.mpr c)]; rfl
          · rw [if_neg c, decide_eq_true (Int32.not_le.mp c)]; rfl
      have hnar : vp_nar .boolean (if inR V A G g i then 1 else 0) = if inR V A G g i then 1 else 0 := by cases inR V A G g i <;> rfl
      refine ⟨(a.1 + akW V A G g i, bstS V A G g a.2.1 i, upd a.2.2 i (if inR V A G g i then 1 else 0)), ?_, ?_, ?_, ?_⟩
      · show F_X10_round_L8 b (nI g) u a.1 (oI a.2.1) (nI i) (P (sx U 18 a.2.2)) = _
        unfold F_X10_round_L8 bstS
        rw [h28I, if_neg (nI_ge hi (by decide))]
        simp only [ml hP, hof, Option.bind_some, un, hi, s16, s17, hin, hnar, s18, sx_sx, up_s, upd_s]
        cases hr : inR V A G g i
        · have h0 : akW V A G g i = 0 := by rw [akW_in, hr]; rfl
          rw [h0, if_pos (Int32.le_refl 0)]
          simp only [Bool.false_eq_true, if_false, if_true, bl, nI_1, Int32.add_zero]
        · obtain ⟨hm, -⟩ := inR_m hr
          have h0 : akW V A G g i = wtV V i := by rw [akW_in, hr]; rfl
          have hn0 : ¬ akW V A G g i ≤ 0 := (akW_pos hL hg).mpr hr
          rw [if_neg hn0]
          have hw : ∀ f, F_X10_weightOf (P (sx U 18 f)) b (nI i) = some (wtV V i, P (sx U 18 f)) := fun f => m_weight hP (hR' f) hg hi hm
          simp only [if_true, if_neg (show ¬ (1 : Int32) = 0 by decide), hw, Option.bind_some, un, bl, h0]
          cases hz : a.2.1 with
          | none =>
            rw [if_pos (show oI none = -1 from rfl), nI_1]; rfl
          | some z =>
            have hz' : bstW V A G g i = some z := by rw [← i2, hz]
            have hzl : z < 28 := by have := bst_lt i z hz'; omega
            have hzr := bst_in hL hg i z hz'
            have hzm := (inR_m hzr).1
            have hwz : akW V A G g z = wtV V z := by rw [akW_in, hzr]; rfl
            have hw2 : ∀ f, F_X10_weightOf (P (sx U 18 f)) b (oI (some z)) = some (wtV V z, P (sx U 18 f)) := fun f => m_weight hP (hR' f) hg hzl hzm
            rw [if_neg (show ¬ oI (some z) = -1 from nI_ne1 (by omega))]
            simp only [ml hP, hw, hw2, Option.bind_some, un, hwz]
            by_cases h1 : wtV V i ≤ wtV V z
            · rw [if_pos h1, if_pos h1, nI_1]
            · rw [if_neg h1, if_neg h1, nI_1]; rfl
      · show a.1 + _ = _
        rw [smI_succ, i1]
      · show bstS _ _ _ _ a.2.1 i = _
        rw [bst_s, i2]
      · intro y hy
        show upd a.2.2 i _ y = _
        by_cases e : y = i
        · subst e; rw [upd_s]
        · rw [upd_ne _ _ e]; exact i3 y (by omega))
    (fun a hI => by
      show F_X10_round_L8 b (nI g) u a.1 (oI a.2.1) (nI 28) (P (sx U 18 a.2.2)) = _
      unfold F_X10_round_L8
      rw [h28I, if_pos (nI_le (Nat.le_refl _) (by decide))])
    28 0 6000 (0, none, U.1 18) (by omega) (by omega) ⟨rfl, rfl, fun y hy => absurd hy (Nat.not_lt_zero _)⟩
  refine ⟨a.2.2, ?_, k3⟩
  have ha' : loopF (fun x => F_X10_round_L8 b (nI g) u x.1 x.2.1 x.2.2.1 x.2.2.2) 6000 (0, (-1), 0, P U) = some (a.1, oI a.2.1, P (sx U 18 a.2.2)) := by
    rw [← ha]
    show _ = loopF _ 6000 (0, -1, nI 0, P (sx U 18 (U.1 18)))
    rw [sx_id]; rfl
  rw [ha', k1, k2]; rfl
theorem m_hand (hP : LM b P) (hR : Rel V (U.1 1)) (hg : g < 12) {A G : Nat → Int32} (hA : U.1 16 = A) (hG : U.1 17 = G) (hB : GB A G) (u z : Int32) (hW : ¬ sumW V A G g = 0) (hf : ∀ y, y < 28 → U.1 18 y = if inR V A G g y then 1 else 0) : loopF (fun x => F_X10_round_L121 b u (sumW V A G g) z x.1 x.2.1 x.2.2) 6000 (0, 0, P U) = some (smI (List.range 28) (rndN V A G g u), P (sx U 17 (rndG V A G g u))) := by
  obtain ⟨S, hS⟩ : ∃ S, S = sumW V A G g := ⟨_, rfl⟩
  rw [← hS] at hW ⊢
  obtain ⟨a, ha, k1, k2⟩ := loop_inv (st := fun x => F_X10_round_L121 b u S z x.1 x.2.1 x.2.2) (fun i (a : Int32 × (Nat → Int32)) => (a.1, nI i, P (sx U 17 a.2))) (fun a => (a.1, P (sx U 17 a.2))) (fun i a => a.1 = smI (List.range i) (rndN V A G g u) ∧ a.2 = fun y => if y < i then G y + rndN V A G g u y else G y) 28
    (fun i a hi hI => by
      obtain ⟨i1, i2⟩ := hI
      have e9 : a.2 i = G i := by rw [i2]; exact if_neg (Nat.lt_irrefl _)
      have s16 : (sx U 17 a.2).1 16 = A := hA
      have s17 : (sx U 17 a.2).1 17 = a.2 := rfl
      have s18 : (sx U 17 a.2).1 18 i = if inR V A G g i then 1 else 0 := hf i hi
      refine ⟨(a.1 + rndN V A G g u i, upd a.2 i (a.2 i + rndN V A G g u i)), ?_, ?_, ?_⟩
      · show F_X10_round_L121 b u S z a.1 (nI i) (P (sx U 17 a.2)) = _
        unfold F_X10_round_L121 dvI
        rw [h28I, if_neg (nI_ge hi (by decide))]
        simp only [ml hP, hi, Option.bind_some, s18]
        cases hr : inR V A G g i
        · have h0 : rndN V A G g u i = 0 := rndN_out hB hi hr
          simp only [Bool.false_eq_true, if_false, if_true, h0, bl, nI_1, Int32.add_zero, upd_id]
        · obtain ⟨hm, -⟩ := inR_m hr
          have h0 : akW V A G g i = wtV V i := by rw [akW_in, hr]; rfl
          have er : mnI (u * wtV V i / S) (A i - G i) = rndN V A G g u i := by rw [hS, ← h0]; rfl
          have hw : F_X10_weightOf (P (sx U 17 a.2)) b (nI i) = some (wtV V i, P (sx U 17 a.2)) := m_weight (U := sx U 17 a.2) hP hR hg hi hm
          simp only [if_true, if_neg (show ¬ (1 : Int32) = 0 by decide), hw, Option.bind_some, un, if_neg hW, ml hP, hi, s16, s17, e9, m_lesser, er, bl, sx_sx, nI_1]
      · show a.1 + _ = _
        rw [smI_succ, i1]
      · funext y
        show upd a.2 i _ y = _
        by_cases e : y = i
        · subst e
          rw [upd_s, e9, if_pos (Nat.lt_succ_self _)]
        · rw [upd_ne _ _ e, i2]
          show (if y < i then _ else _) = _
          by_cases h : y < i
          · rw [if_pos h, if_pos (by omega)]
          · rw [if_neg h, if_neg (by omega)])
    (fun a hI => by
      show F_X10_round_L121 b u S z a.1 (nI 28) (P (sx U 17 a.2)) = _
      unfold F_X10_round_L121
      rw [h28I, if_pos (nI_le (Nat.le_refl _) (by decide))])
    28 0 6000 (0, G) (by omega) (by omega) ⟨rfl, by funext y; simp⟩
  have ha' : loopF (fun x => F_X10_round_L121 b u S z x.1 x.2.1 x.2.2) 6000 (0, 0, P U) = some (a.1, P (sx U 17 a.2)) := by
    rw [← ha]
    show _ = loopF _ 6000 (0, nI 0, P (sx U 17 G))
    rw [← hG, sx_id]; rfl
  rw [ha', k1, k2]; rfl
theorem m_round (hP : LM b P) (hR : Rel V (U.1 1)) (hO : OrdOK V n o) (hL : LimR V) (hg : g < 12) (hB : GB (U.1 16) (U.1 17)) {u : Int32} (hu0 : 0 ≤ u.toInt) (hu : u.toInt ≤ 20000) : ∃ f, F_X10_round (P U) b (nI g) u = some ((rnd V (U.1 16) (U.1 17) g u).1, P (sx (sx U 18 f) 17 (rnd V (U.1 16) (U.1 17) g u).2)) := by
  obtain ⟨f, h1, h2⟩ := m_best hP hR hO hL hg u
  refine ⟨f, ?_⟩
  unfold F_X10_round rnd
  simp only [h1, Option.bind_some, bl]
  have hs : (sx (sx U 18 f) 17 (U.1 17)) = sx U 18 f := by
    have : U.1 17 = (sx U 18 f).1 17 := rfl
    rw [this, sx_id]
  cases hb : bstW V (U.1 16) (U.1 17) g 28 with
  | none =>
    rw [if_pos (show oI none = -1 from rfl)]
    show _ = some ((0 : Int32), P (sx (sx U 18 f) 17 (U.1 17)))
    rw [hs]
  | some z =>
    have hz := bst_lt 28 z hb
    have hW := sumW_pos hL hg hb
    have hW' : 0 < sumW V (U.1 16) (U.1 17) g := ti_lt.mpr (by rw [ti_0]; exact hW)
    have hW0 : ¬ sumW V (U.1 16) (U.1 17) g = 0 := fun e => by rw [e, ti_0] at hW; omega
    obtain ⟨q1, q2⟩ := given_I hL hg hB hu0 hu hW
    have q0 : 0 ≤ (smI (List.range 28) (rndN V (U.1 16) (U.1 17) g u)).toInt := by
      rw [q1]; exact isum_nn 28 fun y hy => (rndN_bd hL hg hB hu0 hu hW hy).1
    rw [if_neg (show ¬ oI (some z) = -1 from nI_ne1 (by omega))]
    dsimp only
    rw [if_pos hW']
    have hh : loopF (fun x => F_X10_round_L121 b u (sumW V (U.1 16) (U.1 17) g) (oI (some z)) x.1 x.2.1 x.2.2) 6000 (0, 0, P (sx U 18 f)) = some (smI (List.range 28) (rndN V (U.1 16) (U.1 17) g u), P (sx (sx U 18 f) 17 (rndG V (U.1 16) (U.1 17) g u))) := m_hand (U := sx U 18 f) hP hR hg rfl rfl hB u _ hW0 h2
    simp only [hh, Option.bind_some]
    by_cases h0 : smI (List.range 28) (rndN V (U.1 16) (U.1 17) g u) = 0
    · have eo : oI (some z) = nI z := rfl
      rw [if_pos (show smI (List.range 28) (rndN V (U.1 16) (U.1 17) g u) ≤ 0 by rw [h0]; exact Int32.le_refl 0), if_pos h0]
      simp only [eo, ml hP, hz, Option.bind_some, sx_sx, sx_1, up_s]
    · rw [if_neg (fun e => h0 (Int32.toInt_inj.mp (by have := ti_le.mp e; rw [ti_0] at this ⊢; omega))), if_neg h0]
end MROUND
