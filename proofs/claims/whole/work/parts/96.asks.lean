/-! who asks for how many units: the class -/
/-- what a process asks for -/
def xP (V : WV) (p : Nat) : Int32 := if phV V p && decide (V.1 30 p = 0) then V.1 31 p else 0
def prS (V : WV) (g i : Nat) : Int32 := smI (List.range i) (fun p => if memb V g (12 + p) then xP V p else 0)
section ASKS
variable {V Q : WV} {n : Nat} {o : Nat → Nat} {w q : Nat} {P : WV → WV → Hp}
theorem n12 (i : Nat) : (12 : Int32) + nI i = nI (12 + i) := by
  show nI 12 + nI i = _
  rw [nI_add]
theorem memb_h (hH : HomOK V) {p y : Nat} (hp : p < 16) (ht : phV V p = true) (hy : y < 12) : memb V y (12 + p) = decide (hom V p = y) := by
  obtain ⟨k1, -, k3⟩ := hH.at hp ht
  unfold memb
  rw [if_neg (by omega), show 12 + p - 12 = p by omega, k3]
  by_cases e : hom V p = y
  · rw [e]; simp
  · rw [decide_eq_false e, decide_eq_false (fun z => e ((nI_eq (by omega) (by omega)).mp z))]
def AskI (V : WV) (i : Nat) (a : Nat → Int32) : Prop := ∀ y, y < 28 → a y = if y < 12 then prS V y i else if y - 12 < i then xP V (y - 12) else 0
theorem ask_stay {i : Nat} {a : Nat → Int32} (h : AskI V i a) (hx : xP V i = 0) : AskI V (i + 1) a := fun y hy => by
  rw [h y hy]
  by_cases h12 : y < 12
  · rw [if_pos h12, if_pos h12]
    unfold prS
    rw [smI_succ, hx, ite_self, Int32.add_zero]
  · rw [if_neg h12, if_neg h12]
    by_cases e : y - 12 = i
    · rw [e, hx, if_neg (Nat.lt_irrefl _), ite_self]
    · by_cases e2 : y - 12 < i
      · rw [if_pos e2, if_pos (by omega)]
      · rw [if_neg e2, if_neg (by omega)]
theorem c_asks1 (hP : L2 w q P) (hH : HomOK V) (h0 : AskI V 0 (Q.1 10)) : ∃ a, loopF (fun x => F_X2_collectAsks_L10 (q + 8) w x.1 x.2) 6000 (0, P V Q) = some (P V (sx Q 10 a)) ∧ AskI V 16 a := by
  obtain ⟨a, ha, hI⟩ := loop_inv (st := fun x => F_X2_collectAsks_L10 (q + 8) w x.1 x.2) (fun i (a : Nat → Int32) => (nI i, P V (sx Q 10 a))) (fun a => P V (sx Q 10 a)) (fun i a => AskI V i a) 16
    (fun i a hi hI => by
      have e10 : ∀ f, (sx Q 10 f).1 10 = f := fun f => rfl
      cases hph : phV V i
      · have e : V.1 24 i = -1 := by simpa [phV] using hph
        refine ⟨a, ?_, ask_stay hI (by unfold xP; rw [hph]; rfl)⟩
        show F_X2_collectAsks_L10 (q + 8) w (nI i) (P V (sx Q 10 a)) = _
        unfold F_X2_collectAsks_L10
        rw [h16I, if_neg (nI_ge hi (by decide))]
        simp only [ol (hP.1 (sx Q 10 a)).lo, cl (hP.1 (sx Q 10 a)).lc, hi, Option.bind_some, if_pos e, bl, nI_1]
      · obtain ⟨k1, k2, k3⟩ := hH.at hi hph
        have e : ¬ nI (hom V i) = -1 := nI_ne1 (by omega)
        by_cases hs : V.1 30 i = 0
        · have hx : xP V i = V.1 31 i := by unfold xP; rw [hph, decide_eq_true hs]; rfl
          have h28 : 12 + i < 28 := by omega
          have hm28 : hom V i < 28 := by omega
          refine ⟨upd (upd a (12 + i) (V.1 31 i)) (hom V i) (upd a (12 + i) (V.1 31 i) (hom V i) + V.1 31 i), ?_, fun y hy => ?_⟩
          · show F_X2_collectAsks_L10 (q + 8) w (nI i) (P V (sx Q 10 a)) = _
            unfold F_X2_collectAsks_L10
            rw [h16I, if_neg (nI_ge hi (by decide))]
            simp only [fun R => ol (hP.1 R).lo, fun R => cl (hP.1 R).lc, ql (hP.2 V), hi, Option.bind_some, k3, if_neg e, if_pos hs, n12, h28, hm28, e10, sx_sx, bl, nI_1]
          · by_cases h12 : y < 12
            · rw [if_pos h12]
              unfold prS
              rw [smI_succ, memb_h hH hi hph h12, hx]
              have hay := hI y hy
              rw [if_pos h12] at hay
              unfold prS at hay
              by_cases eh : y = hom V i
              · subst eh
                rw [upd_s, upd_ne _ _ (by omega), hay, decide_eq_true rfl]; rfl
              · rw [upd_ne _ _ eh, upd_ne _ _ (by omega), hay, decide_eq_false (fun z => eh z.symm)]
                simp only [Bool.false_eq_true, if_false, Int32.add_zero]
            · rw [if_neg h12, upd_ne _ _ (by omega)]
              by_cases ei : y = 12 + i
              · rw [ei, upd_s, show 12 + i - 12 = i by omega, if_pos (Nat.lt_succ_self _), hx]
              · rw [upd_ne _ _ ei, hI y hy, if_neg h12]
                by_cases e2 : y - 12 < i
                · rw [if_pos e2, if_pos (by omega)]
                · rw [if_neg e2, if_neg (by omega)]
        · refine ⟨a, ?_, ask_stay hI (by unfold xP; rw [hph, decide_eq_false hs]; rfl)⟩
          show F_X2_collectAsks_L10 (q + 8) w (nI i) (P V (sx Q 10 a)) = _
          unfold F_X2_collectAsks_L10
          rw [h16I, if_neg (nI_ge hi (by decide))]
          simp only [ol (hP.1 (sx Q 10 a)).lo, cl (hP.1 (sx Q 10 a)).lc, hi, Option.bind_some, k3, if_neg e, if_neg hs, bl, nI_1])
    (fun a hI => by
      show F_X2_collectAsks_L10 (q + 8) w (nI 16) (P V (sx Q 10 a)) = _
      unfold F_X2_collectAsks_L10
      rw [h16I, if_pos (nI_le (Nat.le_refl _) (by decide))])
    16 0 6000 (Q.1 10) (by omega) (by omega) h0
  refine ⟨a, ?_, hI⟩
  rw [← ha]
  show _ = loopF _ 6000 (nI 0, P V (sx Q 10 (Q.1 10)))
  rw [sx_id]; rfl
end ASKS
