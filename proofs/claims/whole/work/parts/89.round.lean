/-! one round of handing out units in a group: the class -/
/-- the weight of a member y of g: groups 0 to 11, processes from 12 on -/
def memW (V : WV) (g y : Nat) : Int32 := if y < 12 then (if V.1 2 y = nI g then V.1 11 y else 0) else (if V.1 24 (y - 12) = nI g then 1 else 0)
/-- of those only that still ask for more -/
def akW (V : WV) (A G : Nat → Int32) (g y : Nat) : Int32 := if G y < A y then memW V g y else 0
def sumW (V : WV) (A G : Nat → Int32) (g : Nat) : Int32 := smI (List.range 28) (akW V A G g)
def bstS (V : WV) (A G : Nat → Int32) (g : Nat) (c : Option Nat) (y : Nat) : Option Nat :=
  if akW V A G g y ≤ 0 then c else match c with
    | none => some y
    | some z => if akW V A G g y ≤ akW V A G g z then some z else some y
def bstW (V : WV) (A G : Nat → Int32) (g i : Nat) : Option Nat := (List.range i).foldl (bstS V A G g) none
def rndN (V : WV) (A G : Nat → Int32) (g : Nat) (u : Int32) (y : Nat) : Int32 := mnI (u * akW V A G g y / sumW V A G g) (A y - G y)
def rndG (V : WV) (A G : Nat → Int32) (g : Nat) (u : Int32) : Nat → Int32 := fun y => if y < 28 then G y + rndN V A G g u y else G y
def rnd (V : WV) (A G : Nat → Int32) (g : Nat) (u : Int32) : Int32 × (Nat → Int32) :=
  match bstW V A G g 28 with
  | none => (0, G)
  | some z => if 0 < sumW V A G g then (if smI (List.range 28) (rndN V A G g u) = 0 then (1, upd (rndG V A G g u) z (rndG V A G g u z + 1)) else (smI (List.range 28) (rndN V A G g u), rndG V A G g u)) else (0, G)
theorem nI_m12 (p : Nat) : nI (12 + p) - 12 = nI p := by
  rw [← nI_add]
  show nI 12 + nI p - nI 12 = nI p
  rw [Int32.add_comm, Int32.add_sub_cancel]
theorem bst_lt {V : WV} {A G : Nat → Int32} {g : Nat} : ∀ i z, bstW V A G g i = some z → z < i
  | 0, z, h => by cases h
  | i + 1, z, h => by
    unfold bstW at h
    rw [List.range_succ, List.foldl_append] at h
    change bstS V A G g (bstW V A G g i) i = some z at h
    unfold bstS at h
    cases hb : bstW V A G g i with
    | none =>
      rw [hb] at h
      split at h
      · cases h
      · cases h; omega
    | some t =>
      rw [hb] at h
      have := bst_lt i t hb
      split at h
      · cases h; omega
      · dsimp only at h
        split at h <;> cases h <;> omega
theorem bst_s {V : WV} {A G : Nat → Int32} {g : Nat} (i : Nat) : bstW V A G g (i + 1) = bstS V A G g (bstW V A G g i) i := by
  unfold bstW
  rw [List.range_succ, List.foldl_append]; rfl
section ROUND
variable {V Q : WV} {w q : Nat} {P : WV → WV → Hp}
theorem c_akW (hP : L2 w q P) {g y : Nat} (hy : y < 28) : F_X2_askingWeight (P V Q) (q + 8) w (nI g) (nI y) = some (akW V (Q.1 10) (Q.1 9) g y) := by
  unfold F_X2_askingWeight akW
  simp only [ql (hP.2 V), hy, Option.bind_some]
  by_cases h : Q.1 9 y < Q.1 10 y
  · rw [if_pos h, if_pos h]
    unfold memW
    by_cases h12 : y < 12
    · rw [if_pos (show nI y < 12 from Int32.not_le.mp (by rw [h12I]; exact nI_ge h12 (by decide))), if_pos h12]
      have e6 : aR (P V Q) (w + 4) 15 6 = some (w + 11) := (hP.1 Q).lt.ldr (o := 4) (i := 6) (z := 11) (by decide) (by decide) rfl (by decide) (by decide) rfl
      have e11 : aI (P V Q) (w + 11) (nI y) = some (V.1 11 y) := (hP.1 Q).ldi (V := V) (o := 11) (by decide) (by decide) rfl (by decide) h12
      simp only [ol (hP.1 Q).lo, tl (hP.1 Q).lt, h12, Option.bind_some, e6, e11]
      by_cases e : V.1 2 y = nI g
      · rw [if_pos e, if_pos e]
      · rw [if_neg e, if_neg e]
    · obtain ⟨p, rfl⟩ : ∃ p, y = 12 + p := ⟨y - 12, by omega⟩
      have hp : p < 16 := by omega
      have e12 : 12 + p - 12 = p := by omega
      rw [if_neg (show ¬ nI (12 + p) < 12 from Int32.not_lt.mpr (by rw [h12I]; exact nI_le (by omega) (by omega))), if_neg h12, nI_m12, e12]
      simp only [ol (hP.1 Q).lo, cl (hP.1 Q).lc, hp, Option.bind_some]
      by_cases e : V.1 24 p = nI g
      · rw [if_pos e, if_pos e]
      · rw [if_neg e, if_neg e]
  · rw [if_neg h, if_neg h]
theorem h28I : (28 : Int32) = nI 28 := rfl
theorem c_best (hP : L2 w q P) {g : Nat} (u : Int32) : loopF (fun x => F_X2_giveRound_L9 (P V Q) (q + 8) w (nI g) u x.1 x.2.1 x.2.2) 6000 (0, (-1), 0) = some (sumW V (Q.1 10) (Q.1 9) g, oI (bstW V (Q.1 10) (Q.1 9) g 28)) := by
  obtain ⟨a, ha, k1, k2⟩ := loop_inv (st := fun x => F_X2_giveRound_L9 (P V Q) (q + 8) w (nI g) u x.1 x.2.1 x.2.2) (fun i (a : Int32 × Option Nat) => (a.1, oI a.2, nI i)) (fun a => (a.1, oI a.2)) (fun i a => a.1 = smI (List.range i) (akW V (Q.1 10) (Q.1 9) g) ∧ a.2 = bstW V (Q.1 10) (Q.1 9) g i) 28
    (fun i a hi hI => by
      obtain ⟨i1, i2⟩ := hI
      refine ⟨(a.1 + akW V (Q.1 10) (Q.1 9) g i, bstS V (Q.1 10) (Q.1 9) g a.2 i), ?_, ?_, ?_⟩
      · show F_X2_giveRound_L9 (P V Q) (q + 8) w (nI g) u a.1 (oI a.2) (nI i) = _
        unfold F_X2_giveRound_L9 bstS
        rw [h28I, if_neg (nI_ge hi (by decide))]
        simp only [ql (hP.2 V), c_akW hP hi, Option.bind_some, bl]
        by_cases h0 : akW V (Q.1 10) (Q.1 9) g i ≤ 0
        · rw [if_pos h0, if_pos h0, nI_1]
        · rw [if_neg h0, if_neg h0]
          cases hz : a.2 with
          | none =>
            rw [if_pos (show oI none = -1 from rfl), nI_1]; rfl
          | some z =>
            have hzl : z < 28 := by
              have := bst_lt i z (by rw [← i2, hz]); omega
            rw [if_neg (show ¬ oI (some z) = -1 from nI_ne1 (by omega))]
            have : F_X2_askingWeight (P V Q) (q + 8) w (nI g) (oI (some z)) = some (akW V (Q.1 10) (Q.1 9) g z) := c_akW hP hzl
            simp only [this, Option.bind_some]
            by_cases h1 : akW V (Q.1 10) (Q.1 9) g i ≤ akW V (Q.1 10) (Q.1 9) g z
            · rw [if_pos h1, if_pos h1, nI_1]
            · rw [if_neg h1, if_neg h1, nI_1]; rfl
      · show a.1 + _ = _
        rw [smI_succ, i1]
      · show bstS _ _ _ _ a.2 i = _
        rw [bst_s, i2])
    (fun a hI => by
      show F_X2_giveRound_L9 (P V Q) (q + 8) w (nI g) u a.1 (oI a.2) (nI 28) = _
      unfold F_X2_giveRound_L9
      rw [h28I, if_pos (nI_le (Nat.le_refl _) (by decide))])
    28 0 6000 (0, none) (by omega) (by omega) ⟨rfl, rfl⟩
  have ha' : loopF (fun x => F_X2_giveRound_L9 (P V Q) (q + 8) w (nI g) u x.1 x.2.1 x.2.2) 6000 (0, (-1), 0) = some (a.1, oI a.2) := ha
  rw [ha', k1, k2]; rfl
theorem c_hand (hP : L2 w q P) {g : Nat} (u z : Int32) (hW : 0 < sumW V (Q.1 10) (Q.1 9) g) : loopF (fun x => F_X2_giveRound_L86 (q + 8) w (nI g) u (sumW V (Q.1 10) (Q.1 9) g) z x.1 x.2.1 x.2.2) 6000 (0, 0, P V Q) = some (smI (List.range 28) (rndN V (Q.1 10) (Q.1 9) g u), P V (sx Q 9 (rndG V (Q.1 10) (Q.1 9) g u))) := by
  obtain ⟨S, hS⟩ : ∃ S, S = sumW V (Q.1 10) (Q.1 9) g := ⟨_, rfl⟩
  rw [← hS] at hW ⊢
  have hS0 : ¬ S = 0 := fun e => by rw [e] at hW; exact absurd hW (by decide)
  obtain ⟨a, ha, k1, k2⟩ := loop_inv (st := fun x => F_X2_giveRound_L86 (q + 8) w (nI g) u S z x.1 x.2.1 x.2.2) (fun i (a : Int32 × (Nat → Int32)) => (a.1, nI i, P V (sx Q 9 a.2))) (fun a => (a.1, P V (sx Q 9 a.2))) (fun i a => a.1 = smI (List.range i) (rndN V (Q.1 10) (Q.1 9) g u) ∧ a.2 = fun y => if y < i then Q.1 9 y + rndN V (Q.1 10) (Q.1 9) g u y else Q.1 9 y) 28
    (fun i a hi hI => by
      obtain ⟨i1, i2⟩ := hI
      have e9 : a.2 i = Q.1 9 i := by rw [i2]; exact if_neg (Nat.lt_irrefl _)
      have s9 : (sx Q 9 a.2).1 9 = a.2 := rfl
      have s10 : (sx Q 9 a.2).1 10 = Q.1 10 := rfl
      have ea : akW V (Q.1 10) a.2 g i = akW V (Q.1 10) (Q.1 9) g i := by unfold akW; rw [e9]
      have er : mnI (u * akW V (Q.1 10) (Q.1 9) g i / S) (Q.1 10 i - Q.1 9 i) = rndN V (Q.1 10) (Q.1 9) g u i := by rw [hS]; rfl
      have hk : F_X2_askingWeight (P V (sx Q 9 a.2)) (q + 8) w (nI g) (nI i) = some (akW V (Q.1 10) (Q.1 9) g i) := by
        rw [c_akW hP hi, s9, s10, ea]
      refine ⟨(a.1 + rndN V (Q.1 10) (Q.1 9) g u i, upd a.2 i (a.2 i + rndN V (Q.1 10) (Q.1 9) g u i)), ?_, ?_, ?_⟩
      · show F_X2_giveRound_L86 (q + 8) w (nI g) u S z a.1 (nI i) (P V (sx Q 9 a.2)) = _
        unfold F_X2_giveRound_L86 dvI
        rw [h28I, if_neg (nI_ge hi (by decide))]
        simp only [ql (hP.2 V), hk, hi, Option.bind_some, bl, if_neg hS0, s9, s10, e9, er, sx_sx, nI_1]
      · show a.1 + _ = _
        rw [smI_succ, i1]
      · funext y
        show upd a.2 i _ y = _
        by_cases e : y = i
        · subst e
          rw [upd_s, e9, if_pos (Nat.lt_succ_self _)]
        · rw [upd_ne _ _ e, i2]
          show (if y < i then _ else _) = _
          by_cases h : y < i
          · rw [if_pos h, if_pos (by omega)]
          · rw [if_neg h, if_neg (by omega)])
    (fun a hI => by
      show F_X2_giveRound_L86 (q + 8) w (nI g) u S z a.1 (nI 28) (P V (sx Q 9 a.2)) = _
      unfold F_X2_giveRound_L86
      rw [h28I, if_pos (nI_le (Nat.le_refl _) (by decide))])
    28 0 6000 (0, Q.1 9) (by omega) (by omega) ⟨rfl, by funext y; simp⟩
  have ha' : loopF (fun x => F_X2_giveRound_L86 (q + 8) w (nI g) u S z x.1 x.2.1 x.2.2) 6000 (0, 0, P V Q) = some (a.1, P V (sx Q 9 a.2)) := by
    rw [← ha]
    show _ = loopF _ 6000 (0, nI 0, P V (sx Q 9 (Q.1 9)))
    rw [sx_id]; rfl
  rw [ha', k1, k2]; rfl
theorem c_round (hP : L2 w q P) {g : Nat} (u : Int32) : F_X2_giveRound (P V Q) (q + 8) w (nI g) u = some ((rnd V (Q.1 10) (Q.1 9) g u).1, P V (sx Q 9 (rnd V (Q.1 10) (Q.1 9) g u).2)) := by
  unfold F_X2_giveRound rnd
  simp only [c_best hP u, Option.bind_some, bl]
  cases hb : bstW V (Q.1 10) (Q.1 9) g 28 with
  | none =>
    rw [if_pos (show oI none = -1 from rfl)]
    show _ = some ((0 : Int32), P V (sx Q 9 (Q.1 9)))
    rw [sx_id]
  | some z =>
    have hz := bst_lt 28 z hb
    rw [if_neg (show ¬ oI (some z) = -1 from nI_ne1 (by omega))]
    dsimp only
    by_cases hW : 0 < sumW V (Q.1 10) (Q.1 9) g
    · rw [if_pos hW, if_pos hW]
      simp only [c_hand hP u _ hW, Option.bind_some]
      by_cases h0 : smI (List.range 28) (rndN V (Q.1 10) (Q.1 9) g u) = 0
      · rw [if_pos h0, if_pos h0]
        have eo : oI (some z) = nI z := rfl
        simp only [eo, ql (hP.2 V), hz, Option.bind_some, sx_sx, sx_1, up_s]
      · rw [if_neg h0, if_neg h0]
    · rw [if_neg hW, if_neg hW]
      show _ = some ((0 : Int32), P V (sx Q 9 (Q.1 9)))
      rw [sx_id]
end ROUND
