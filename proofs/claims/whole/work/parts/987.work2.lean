/-! a tick's work: the class's doWork, the model's works -/
/-- units were worked off -/
def todF (V : WV) (G : Nat → Int32) : WV := sx (sx V 31 (fun p => if p < 16 then V.1 31 p - G (12 + p) else V.1 31 p)) 32 (fun p => if p < 16 then V.1 32 p + G (12 + p) else V.1 32 p)
def wrkV (V : WV) (G : Nat → Int32) : WV := todF (gotF (perV V) G) G
section WORK2
variable {V Q : WV} {n : Nat} {o : Nat → Nat} {w q : Nat} {P : WV → WV → Hp}
theorem per_2 : perV (perV V) = perV V := by
  have h0 : (perV V).1 0 = V.1 0 := per_c (by decide)
  by_cases h : V.1 0 7 - V.1 0 7 / 5 * 5 = 0
  · have e : perV V = sx V 17 (fun i => if i < 12 then 0 else V.1 17 i) := by unfold perV; rw [if_pos h]
    have e2 : perV (perV V) = sx (perV V) 17 (fun i => if i < 12 then 0 else (perV V).1 17 i) := by
      rw [show perV (perV V) = if (perV V).1 0 7 - (perV V).1 0 7 / 5 * 5 = 0 then sx (perV V) 17 (fun i => if i < 12 then 0 else (perV V).1 17 i) else perV V from rfl, h0, if_pos h]
    rw [e2, e, sx_sx]
    congr 1
    funext i
    by_cases hi : i < 12
    · rw [if_pos hi, if_pos hi]
    · rw [if_neg hi, if_neg hi]
      show (if i < 12 then 0 else V.1 17 i) = _
      rw [if_neg hi]
  · have e : perV V = V := by unfold perV; rw [if_neg h]
    rw [e, e]
theorem c_todo (hP : L2 w q P) : loopF (fun x => F_X2_doWork_L59 (q + 8) w x.1 x.2) 6000 (0, P V Q) = some (P (todF V (Q.1 9)) Q) := by
  obtain ⟨a, ha, hI⟩ := loop_inv (st := fun x => F_X2_doWork_L59 (q + 8) w x.1 x.2) (fun i (a : (Nat → Int32) × (Nat → Int32)) => (nI i, P (sx (sx V 31 a.1) 32 a.2) Q)) (fun a => P (sx (sx V 31 a.1) 32 a.2) Q) (fun i a => a.1 = (fun p => if p < i then V.1 31 p - Q.1 9 (12 + p) else V.1 31 p) ∧ a.2 = (fun p => if p < i then V.1 32 p + Q.1 9 (12 + p) else V.1 32 p)) 16
    (fun i a hi hI => by
      obtain ⟨a1, a2⟩ := a
      obtain ⟨i1, i2⟩ := hI
      dsimp only at i1 i2 ⊢
      have ei : a1 i = V.1 31 i := by rw [i1]; exact if_neg (Nat.lt_irrefl _)
      have ej : a2 i = V.1 32 i := by rw [i2]; exact if_neg (Nat.lt_irrefl _)
      have e31 : ∀ f g, (sx (sx V 31 f) 32 g).1 31 = f := fun f g => rfl
      have e32 : ∀ f g, (sx (sx V 31 f) 32 g).1 32 = g := fun f g => rfl
      have eo : ∀ f g h, sx (sx (sx V 31 f) 32 g) 31 h = sx (sx V 31 h) 32 g := fun f g h => by
        apply Prod.ext
        · funext c
          show (if c = 31 then h else if c = 32 then g else if c = 31 then f else V.1 c) = (if c = 32 then g else if c = 31 then h else V.1 c)
          by_cases h1 : c = 31
          · subst h1; rfl
          · rw [if_neg h1, if_neg h1, if_neg h1]
        · rfl
      have h28 : 12 + i < 28 := by omega
      refine ⟨(upd a1 i (a1 i - Q.1 9 (12 + i)), upd a2 i (a2 i + Q.1 9 (12 + i))), ?_, ?_, ?_⟩
      · show F_X2_doWork_L59 (q + 8) w (nI i) (P (sx (sx V 31 a1) 32 a2) Q) = _
        unfold F_X2_doWork_L59
        rw [h16I, if_neg (nI_ge hi (by decide))]
        simp only [ol (hP.1 Q).lo, cl (hP.1 Q).lc, fun R => ql (hP.2 R), hi, n12, h28, Option.bind_some, e31, e32, eo, sx_sx, bl, nI_1]
      · funext g
        dsimp only
        by_cases e : g = i
        · rw [e, upd_s, ei, if_pos (Nat.lt_succ_self _)]
        · rw [upd_ne _ _ e, i1]
          dsimp only
          by_cases h : g < i
          · rw [if_pos h, if_pos (by omega)]
          · rw [if_neg h, if_neg (by omega)]
      · funext g
        dsimp only
        by_cases e : g = i
        · rw [e, upd_s, ej, if_pos (Nat.lt_succ_self _)]
        · rw [upd_ne _ _ e, i2]
          dsimp only
          by_cases h : g < i
          · rw [if_pos h, if_pos (by omega)]
          · rw [if_neg h, if_neg (by omega)])
    (fun a hI => by
      show F_X2_doWork_L59 (q + 8) w (nI 16) (P (sx (sx V 31 a.1) 32 a.2) Q) = _
      unfold F_X2_doWork_L59
      rw [h16I, if_pos (nI_le (Nat.le_refl _) (by decide))])
    16 0 6000 (V.1 31, V.1 32) (by omega) (by omega) ⟨by funext g; rw [if_neg (Nat.not_lt_zero _)], by funext g; rw [if_neg (Nat.not_lt_zero _)]⟩
  unfold todF
  rw [← hI.1, ← hI.2, ← ha]
  show _ = loopF _ 6000 (nI 0, P (sx (sx V 31 (V.1 31)) 32 (V.1 32)) Q)
  have : sx (sx V 31 (V.1 31)) 32 (V.1 32) = V := by rw [sx_id, sx_id]
  rw [this]; rfl
theorem c_work (hP : L2 w q P) (hO : OrdOK V n o) (hH : HomOK V) (hL : LimR V) (hT : TdB V) (hc : 0 ≤ (V.1 0 6).toInt ∧ (V.1 0 6).toInt ≤ 99) : ∃ A G, F_X2_doWork (P V Q) (q + 8) w = some (P (wrkV V G) (sx (sx Q 10 A) 9 G)) ∧ FixA (perV V) A ∧ FixG (perV V) A (mnI (V.1 0 6) (A 0)) G := by
  have e0 : (perV V).1 0 = V.1 0 := per_c (by decide)
  obtain ⟨A, G, a1, a2, a3⟩ := c_plan2 (V := perV V) (Q := Q) hP (per_ord hO) (per_hom hH) (per_lim hL) (per_td hT) (by rw [e0]; exact hc)
  rw [per_2] at a2 a3
  rw [e0] at a3
  refine ⟨A, G, ?_, a2, a3⟩
  have hf : (if V.1 0 7 - V.1 0 7 / 5 * 5 = 0 then (F_J7_fill_53178 (P V Q) (w + 17) 0).bind fun h6 => some h6 else some (P V Q)) = some (P (perV V) Q) := by
    have hfill : F_J7_fill_53178 (P V Q) (w + 17) 0 = some (P (sx V 17 (fun i => if i < 12 then 0 else V.1 17 i)) Q) := s_fill (hP.1 Q) (o := 17) (by decide) (by decide) (len := 12) rfl (by decide) V 0
    unfold perV
    by_cases h : V.1 0 7 - V.1 0 7 / 5 * 5 = 0
    · rw [if_pos h, if_pos h, hfill]; rfl
    · rw [if_neg h, if_neg h]
  unfold F_X2_doWork rmI
  have e9 : (sx (sx Q 10 A) 9 G).1 9 = G := rfl
  have b1 := c_got (V := perV V) (Q := sx (sx Q 10 A) 9 G) hP
  rw [e9] at b1
  have b2 := c_todo (V := gotF (perV V) G) (Q := sx (sx Q 10 A) 9 G) hP
  rw [e9] at b2
  simp only [ol (hP.1 Q).lo, tl (hP.1 Q).lt, Option.bind_some, if_neg (show ¬ (5 : Int32) = 0 by decide), hf, ql (hP.2 (perV V)), a1, b1, b2]
  rfl
end WORK2
section MWORK
variable {V U : WV} {n : Nat} {o : Nat → Nat} {b : Nat} {P : WV → Hp} {A Gf : Nat → Int32}
theorem FixG.g0 {c : Int32} (hO : OrdOK V n o) (hF : FixG V A c Gf) {g : Nat} (hg : g < 12) (ht : thV V g = false) : Gf g = 0 := by
  have h2 : V.1 2 g = -2 := by
    unfold thV at ht
    exact Decidable.byContradiction fun z => absurd ht (by rw [Bool.not_eq_false]; exact decide_eq_true z)
  refine hF.2.2.2.2 g (by omega) (fun z => ?_) (fun e he _ => ?_)
  · subst z
    have : thV V 0 = true := by unfold thV; rw [hO.2.2.2.2.2.2.1]; exact decide_eq_true (by decide)
    rw [this] at ht; cases ht
  · unfold memb
    rw [if_pos hg, h2]
    exact decide_eq_false (fun z => by
      have : (nI e).toInt = e := nI_toInt (by omega)
      rw [← z] at this
      have h : (-2 : Int32).toInt = -2 := by decide
      omega)
theorem FixG.p0 {c : Int32} (hA : FixA V A) (hF : FixG V A c Gf) {p : Nat} (hp : p < 16) (ht : phV V p = false) : Gf (12 + p) = 0 := by
  have h1 : A (12 + p) = 0 := by
    rw [hA.1 p hp]
    unfold xP
    rw [ht, Bool.false_and, if_neg (by decide)]
  have h2 := hF.2.1 (12 + p) (by omega)
  rw [h1, ti_0] at h2
  exact Int32.toInt_inj.mp (by rw [ti_0]; omega)
theorem m_got (hP : LM b P) (hR : Rel V (U.1 1)) (hO : OrdOK V n o) {c : Int32} (hF : FixG V A c Gf) (h17 : ∀ y, y < 28 → U.1 17 y = Gf y) : ∃ U', loopF (fun x => F_X10_works_L6 b x.1 x.2) 6000 (0, P U) = some (P U') ∧ Keep U U' ∧ (∀ k, k ≠ 1 → U'.1 k = U.1 k) ∧ Rel (gotF V Gf) (U'.1 1) := by
  obtain ⟨a, ha, k1, k2, k3⟩ := loop_inv (st := fun x => F_X10_works_L6 b x.1 x.2) (fun i (a : WV) => (nI i, P a)) (fun a => P a) (fun i a => Keep U a ∧ (∀ k, k ≠ 1 → a.1 k = U.1 k) ∧ Rel (sx V 17 (fun x => if x < i then V.1 17 x + Gf x else V.1 17 x)) (a.1 1)) 12
    (fun i a hi hI => by
      obtain ⟨i1, i2, i3⟩ := hI
      have ec : (sx V 17 (fun x => if x < i then V.1 17 x + Gf x else V.1 17 x)).1 (cg 24) i = V.1 17 i := if_neg (Nat.lt_irrefl _)
      have hth : thV (sx V 17 (fun x => if x < i then V.1 17 x + Gf x else V.1 17 x)) = thV V := rfl
      have e : ∀ x, x = V.1 17 i + Gf i → sx (sx V 17 (fun x => if x < i then V.1 17 x + Gf x else V.1 17 x)) (cg 24) (upd ((sx V 17 (fun x => if x < i then V.1 17 x + Gf x else V.1 17 x)).1 (cg 24)) i x) = sx V 17 (fun x => if x < i + 1 then V.1 17 x + Gf x else V.1 17 x) := by
        intro x hx
        show sx (sx V 17 (fun x => if x < i then V.1 17 x + Gf x else V.1 17 x)) 17 (upd (fun x => if x < i then V.1 17 x + Gf x else V.1 17 x) i x) = _
        rw [sx_sx]
        congr 1
        funext y
        by_cases ey : y = i
        · rw [ey, upd_s, if_pos (Nat.lt_succ_self _), hx]
        · rw [upd_ne _ _ ey]
          by_cases hy : y < i
          · rw [if_pos hy, if_pos (by omega)]
          · rw [if_neg hy, if_neg (by omega)]
      have g17 : a.1 17 i = Gf i := by rw [i2 17 (by decide)]; exact h17 i (by omega)
      cases ht : thV V i
      · refine ⟨a, ?_, i1, i2, ?_⟩
        · show F_X10_works_L6 b (nI i) (P a) = _
          unfold F_X10_works_L6
          rw [h12I, if_neg (nI_ge hi (by decide))]
          simp only [ml hP, m_isGroup' hP i3 hi, hth, ht, Bool.false_eq_true, if_false, if_true, Option.bind_some, bl, nI_1]
        · rw [← e (V.1 17 i) (by rw [hF.g0 hO hi ht, Int32.add_zero])]
          have : upd ((sx V 17 (fun x => if x < i then V.1 17 x + Gf x else V.1 17 x)).1 (cg 24)) i (V.1 17 i) = (sx V 17 (fun x => if x < i then V.1 17 x + Gf x else V.1 17 x)).1 (cg 24) := by
            rw [← ec]; exact upd_id _ _
          rw [this, sx_id]; exact i3
      · have hof : F_X10_of (P a) b (nI i) 24 (Gf i) = some (V.1 17 i + Gf i, P (sx a 1 (upd (a.1 1) (7 + 34 * i + 24) (V.1 17 i + Gf i)))) := by
          have := m_ofD hP i3 (g := i) (f := 24) hi ht (by decide) (by decide) (Gf i)
          rw [ec] at this
          exact this
        have h28 : i < 28 := by omega
        refine ⟨sx a 1 (upd (a.1 1) (7 + 34 * i + 24) (V.1 17 i + Gf i)), ?_, i1.trans (Keep.up _ (by omega) _), fun k hk => ?_, ?_⟩
        · show F_X10_works_L6 b (nI i) (P a) = _
          unfold F_X10_works_L6
          rw [h12I, if_neg (nI_ge hi (by decide))]
          simp only [ml hP, m_isGroup' hP i3 hi, hth, ht, if_true, h28, g17, hof, un, if_neg (show ¬ (1 : Int32) = 0 by decide), Option.bind_some, bl, nI_1]
        · rw [sx_1, up_n _ _ hk]; exact i2 k hk
        · have h := i3.grp (g := i) (f := 24) hi (by decide) (by decide) (by decide) (V.1 17 i + Gf i)
          rw [e _ rfl] at h
          exact h)
    (fun a hI => by
      show F_X10_works_L6 b (nI 12) (P a) = _
      unfold F_X10_works_L6
      rw [h12I, if_pos (nI_le (Nat.le_refl _) (by decide))])
    12 0 6000 U (by omega) (by omega) ⟨Keep.refl U, fun _ _ => rfl, by
      have : (fun x => if x < 0 then V.1 17 x + Gf x else V.1 17 x) = V.1 17 := by funext x; rw [if_neg (Nat.not_lt_zero _)]
      rw [this, sx_id]; exact hR⟩
  exact ⟨a, ha, k1, k2, k3⟩
end MWORK
