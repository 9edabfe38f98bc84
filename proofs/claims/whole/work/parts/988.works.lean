/-! the model's works, whole; a tick -/
def todI (V : WV) (G : Nat → Int32) (i : Nat) : WV := sx (sx V 31 (fun p => if p < i then V.1 31 p - G (12 + p) else V.1 31 p)) 32 (fun p => if p < i then V.1 32 p + G (12 + p) else V.1 32 p)
section WORKS
variable {V U : WV} {n : Nat} {o : Nat → Nat} {b s : Nat} {P : WV → Hp} {A Gf : Nat → Int32}
theorem todI_0 : todI V Gf 0 = V := by
  have h1 : (fun p => if p < 0 then V.1 31 p - Gf (12 + p) else V.1 31 p) = V.1 31 := by funext p; rw [if_neg (Nat.not_lt_zero _)]
  have h2 : (fun p => if p < 0 then V.1 32 p + Gf (12 + p) else V.1 32 p) = V.1 32 := by funext p; rw [if_neg (Nat.not_lt_zero _)]
  unfold todI
  rw [h1, h2]
  have : sx V 31 (V.1 31) = V := sx_id _ _
  rw [this, sx_id]
theorem todI_s (i : Nat) : todI V Gf (i + 1) = sx (sx (todI V Gf i) 31 (upd ((todI V Gf i).1 31) i (V.1 31 i - Gf (12 + i)))) 32 (upd ((todI V Gf i).1 32) i (V.1 32 i + Gf (12 + i))) := by
  have f1 : upd ((todI V Gf i).1 31) i (V.1 31 i - Gf (12 + i)) = fun p => if p < i + 1 then V.1 31 p - Gf (12 + p) else V.1 31 p := by
    funext p
    by_cases e : p = i
    · rw [e, upd_s, if_pos (Nat.lt_succ_self _)]
    · rw [upd_ne _ _ e]
      show (if p < i then _ else _) = _
      by_cases h : p < i
      · rw [if_pos h, if_pos (by omega)]
      · rw [if_neg h, if_neg (by omega)]
  have f2 : upd ((todI V Gf i).1 32) i (V.1 32 i + Gf (12 + i)) = fun p => if p < i + 1 then V.1 32 p + Gf (12 + p) else V.1 32 p := by
    funext p
    by_cases e : p = i
    · rw [e, upd_s, if_pos (Nat.lt_succ_self _)]
    · rw [upd_ne _ _ e]
      show (if p < i then _ else _) = _
      by_cases h : p < i
      · rw [if_pos h, if_pos (by omega)]
      · rw [if_neg h, if_neg (by omega)]
  rw [f1, f2]
  unfold todI
  generalize (fun p => if p < i + 1 then V.1 31 p - Gf (12 + p) else V.1 31 p) = F1
  generalize (fun p => if p < i + 1 then V.1 32 p + Gf (12 + p) else V.1 32 p) = F2
  generalize (fun p => if p < i then V.1 31 p - Gf (12 + p) else V.1 31 p) = F3
  generalize (fun p => if p < i then V.1 32 p + Gf (12 + p) else V.1 32 p) = F4
  apply Prod.ext
  · funext c
    show (if c = 32 then F2 else if c = 31 then F1 else V.1 c) = (if c = 32 then F2 else if c = 31 then F1 else if c = 32 then F4 else if c = 31 then F3 else V.1 c)
    by_cases h1 : c = 32
    · rw [if_pos h1, if_pos h1]
    · rw [if_neg h1, if_neg h1]
      by_cases h2 : c = 31
      · rw [if_pos h2, if_pos h2]
      · rw [if_neg h2, if_neg h2, if_neg h1, if_neg h2]
  · rfl
theorem todI_31 (i : Nat) : (todI V Gf i).1 31 i = V.1 31 i := if_neg (Nat.lt_irrefl _)
theorem todI_32 (i : Nat) : (todI V Gf i).1 32 i = V.1 32 i := if_neg (Nat.lt_irrefl _)
theorem m_todo (hP : LM b P) (hR : Rel V (U.1 1)) (hz : ∀ p, p < 16 → phV V p = false → Gf (12 + p) = 0) (h17 : ∀ y, y < 28 → U.1 17 y = Gf y) : ∃ U', loopF (fun x => F_X10_works_L42 b x.1 x.2) 6000 (0, P U) = some (P U') ∧ Keep U U' ∧ Rel (todF V Gf) (U'.1 1) := by
  obtain ⟨a, ha, k1, k2, k3⟩ := loop_inv (st := fun x => F_X10_works_L42 b x.1 x.2) (fun i (a : WV) => (nI i, P a)) (fun a => P a) (fun i a => Keep U a ∧ (∀ k, k ≠ 1 → a.1 k = U.1 k) ∧ Rel (todI V Gf i) (a.1 1)) 16
    (fun i a hi hI => by
      obtain ⟨i1, i2, i3⟩ := hI
      have hph : phV (todI V Gf i) = phV V := rfl
      have g17 : ∀ a' : WV, (∀ k, k ≠ 1 → a'.1 k = U.1 k) → a'.1 17 (12 + i) = Gf (12 + i) := fun a' h' => by rw [h' 17 (by decide)]; exact h17 _ (by omega)
      have h28 : 12 + i < 28 := by omega
      cases ht : phV V i
      · refine ⟨a, ?_, i1, i2, ?_⟩
        · show F_X10_works_L42 b (nI i) (P a) = _
          unfold F_X10_works_L42
          rw [h16I, if_neg (nI_ge hi (by decide))]
          simp only [ml hP, m_isProc' hP i3 hi, hph, ht, Bool.false_eq_true, if_false, if_true, Option.bind_some, bl, nI_1]
        · rw [todI_s, hz i hi ht, Int32.add_zero, Int32.sub_zero]
          have e1 : upd ((todI V Gf i).1 31) i (V.1 31 i) = (todI V Gf i).1 31 := by
            have := upd_id ((todI V Gf i).1 31) i
            rw [todI_31] at this; exact this
          have e2 : upd ((todI V Gf i).1 32) i (V.1 32 i) = (todI V Gf i).1 32 := by
            have := upd_id ((todI V Gf i).1 32) i
            rw [todI_32] at this; exact this
          rw [e1, e2, sx_id, sx_id]; exact i3
      · obtain ⟨a', ha'⟩ : ∃ a', a' = sx a 1 (upd (a.1 1) (415 + 8 * i + 6) (V.1 31 i - Gf (12 + i))) := ⟨_, rfl⟩
        have c31 : (todI V Gf i).1 (cp 6) i = V.1 31 i := todI_31 i
        have r1 := i3.prc (p := i) (f := 6) hi (by decide) (by decide) (V.1 31 i - Gf (12 + i))
        have r1' : Rel (sx (todI V Gf i) 31 (upd ((todI V Gf i).1 31) i (V.1 31 i - Gf (12 + i)))) (a'.1 1) := by rw [ha']; exact r1
        have p1 : F_X10_ofProcess (P a) b (nI i) 6 (-Gf (12 + i)) = some (V.1 31 i - Gf (12 + i), P a') := by
          have := m_prD hP i3 (g := i) (f := 6) hi ht (by decide) (-Gf (12 + i))
          rw [c31, ← Int32.sub_eq_add_neg] at this
          rw [ha']
          exact this
        have i2' : ∀ k, k ≠ 1 → a'.1 k = U.1 k := fun k hk => by rw [ha', sx_1, up_n _ _ hk]; exact i2 k hk
        have c32 : (sx (todI V Gf i) 31 (upd ((todI V Gf i).1 31) i (V.1 31 i - Gf (12 + i)))).1 (cp 7) i = V.1 32 i := todI_32 i
        have p2 : F_X10_ofProcess (P a') b (nI i) 7 (Gf (12 + i)) = some (V.1 32 i + Gf (12 + i), P (sx a' 1 (upd (a'.1 1) (415 + 8 * i + 7) (V.1 32 i + Gf (12 + i))))) := by
          have := m_prD hP r1' (g := i) (f := 7) hi ht (by decide) (Gf (12 + i))
          rw [c32] at this
          exact this
        have r2 := r1'.prc (p := i) (f := 7) hi (by decide) (by decide) (V.1 32 i + Gf (12 + i))
        refine ⟨sx a' 1 (upd (a'.1 1) (415 + 8 * i + 7) (V.1 32 i + Gf (12 + i))), ?_, ?_, fun k hk => ?_, ?_⟩
        · show F_X10_works_L42 b (nI i) (P a) = _
          unfold F_X10_works_L42
          rw [h16I, if_neg (nI_ge hi (by decide))]
          simp only [ml hP, m_isProc' hP i3 hi, hph, ht, if_true, n12, h28, g17 a i2, g17 a' i2', p1, p2, un, if_neg (show ¬ (1 : Int32) = 0 by decide), Option.bind_some, bl, nI_1]
        · have := Keep.up a (k := 415 + 8 * i + 6) (by omega) (V.1 31 i - Gf (12 + i))
          rw [← ha'] at this
          exact i1.trans (this.trans (Keep.up _ (by omega) _))
        · rw [sx_1, up_n _ _ hk]; exact i2' k hk
        · rw [todI_s]; exact r2)
    (fun a hI => by
      show F_X10_works_L42 b (nI 16) (P a) = _
      unfold F_X10_works_L42
      rw [h16I, if_pos (nI_le (Nat.le_refl _) (by decide))])
    16 0 6000 U (by omega) (by omega) ⟨Keep.refl U, fun _ _ => rfl, by rw [todI_0]; exact hR⟩
  exact ⟨a, ha, k1, k3⟩
theorem m_works (hP : LM b P) (hO : OrdOK V n o) (hH : HomOK V) (hL : LimR V) (hR : Rel V (U.1 1)) (hA : FixA (perV V) A) (hG : FixG (perV V) A (mnI (V.1 0 6) (A 0)) Gf) : ∃ U', F_X10_works (P U) b = some (P U') ∧ Keep U U' ∧ Rel (wrkV V Gf) (U'.1 1) := by
  obtain ⟨U1, a1, a2, a3, a4⟩ := m_units hP hO hH hL hR hA hG
  obtain ⟨U2, b1, b2, b3, b4⟩ := m_got hP a3 (per_ord hO) hG a4
  have hph : phV (gotF (perV V) Gf) = phV (perV V) := rfl
  obtain ⟨U3, c1, c2, c3⟩ := m_todo hP b4 (Gf := Gf) (fun p hp ht => hG.p0 hA hp ht) (fun y hy => by rw [b3 17 (by decide)]; exact a4 y hy)
  refine ⟨U3, ?_, a2.trans (b2.trans c2), c3⟩
  unfold F_X10_works
  simp only [ml hP, a1, Option.bind_some, b1, c1]
theorem wrk_c (k : Nat) (h1 : k ≠ 17) (h2 : k ≠ 31) (h3 : k ≠ 32) : (wrkV V Gf).1 k = V.1 k := by
  unfold wrkV todF gotF
  simp only [sx_1]
  rw [up_n _ _ h3, up_n _ _ h2, up_n _ _ h1, per_c h1]
theorem wrk_2 : (wrkV V Gf).2 = V.2 := by
  unfold wrkV todF gotF perV
  by_cases h : V.1 0 7 - V.1 0 7 / 5 * 5 = 0
  · rw [if_pos h]; rfl
  · rw [if_neg h]; rfl
theorem wrk_ord (hO : OrdOK V n o) : OrdOK (wrkV V Gf) n o := by
  unfold OrdOK at hO ⊢
  rw [wrk_c 1 (by decide) (by decide) (by decide), wrk_c 2 (by decide) (by decide) (by decide), wrk_c 3 (by decide) (by decide) (by decide)]; exact hO
theorem wrk_hom (hH : HomOK V) : HomOK (wrkV V Gf) := by
  unfold HomOK phV thV at hH ⊢
  rw [wrk_c 24 (by decide) (by decide) (by decide), wrk_c 2 (by decide) (by decide) (by decide)]; exact hH
theorem wrk_td (hT : TdB V) (hA : FixA (perV V) A) {c : Int32} (hG : FixG (perV V) A c Gf) : TdB (wrkV V Gf) := by
  intro p hp hph
  have e24 : (wrkV V Gf).1 24 = V.1 24 := wrk_c 24 (by decide) (by decide) (by decide)
  rw [phV_same e24] at hph
  have e31 : (wrkV V Gf).1 31 p = V.1 31 p - Gf (12 + p) := by
    show (if p < 16 then (gotF (perV V) Gf).1 31 p - Gf (12 + p) else _) = _
    rw [if_pos hp]
    have : (gotF (perV V) Gf).1 31 = V.1 31 := per_c (by decide)
    rw [this]
  obtain ⟨t1, t2⟩ := hT p hp hph
  obtain ⟨g1, g2, g3⟩ := hG.2.1 (12 + p) (by omega)
  have ha := hA.1 p hp
  have hx : (A (12 + p)).toInt ≤ (V.1 31 p).toInt := by
    rw [ha]
    unfold xP
    rw [per_c (k := 31) (by decide)]
    split
    · omega
    · rw [ti_0]; omega
  rw [e31, ti_sub (by omega) (by omega)]
  omega
theorem wrk_trg (hT : TrgN V s) : TrgN (wrkV V Gf) s := by
  unfold TrgN trg tww at hT ⊢
  rw [wrk_c 52 (by decide) (by decide) (by decide), wrk_c 53 (by decide) (by decide) (by decide), wrk_c 54 (by decide) (by decide) (by decide), thV_same (wrk_c 2 (by decide) (by decide) (by decide))]
  exact hT
/-- a tick, whole -/
theorem m_tick1 (hP : LM b P) (hK : CoM U) (hO : OrdOK V n o) (hH : HomOK V) (hL : LimR V) (hT : TrgN V s) (hS : ∀ p, p < 16 → phV V p = true → 0 ≤ (V.1 30 p).toInt) (hR : Rel V (U.1 1)) (hA : FixA (perV V) A) (hG : FixG (perV V) A (mnI (V.1 0 6) (A 0)) Gf) : ∃ U', F_X10_ticks (P U) b = some (P U') ∧ Keep U U' ∧ Rel (tikV (wrkV V Gf) s) (U'.1 1) := by
  obtain ⟨U1, a1, a2, a3⟩ := m_works hP hO hH hL hR hA hG
  have e24 : (wrkV V Gf).1 24 = V.1 24 := wrk_c 24 (by decide) (by decide) (by decide)
  have e30 : (wrkV V Gf).1 30 = V.1 30 := wrk_c 30 (by decide) (by decide) (by decide)
  obtain ⟨U2, b1, b2, b3⟩ := m_tickRest hP (show CoM U1 by unfold CoM; rw [a2.1 7 (by decide) (by decide)]; exact hK) a3 (wrk_ord hO) (wrk_hom hH) (wrk_trg hT) (by rw [phV_same e24, e30]; exact hS)
  refine ⟨U2, ?_, a2.trans b2, b3⟩
  rw [← b1]
  unfold F_X10_ticks
  simp only [ml hP, a1, Option.bind_some, bl]
  congr 1
  funext q2
  congr 1
  funext h44
  congr 1
  funext h58
  congr 1
  funext h75
  congr 1
  funext a76
  congr 1
  funext v77
  cases sI h75 a76 2 (v77 + 1) <;> rfl
end WORKS
