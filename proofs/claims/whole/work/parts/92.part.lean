/-! a group parts its units among its members, round by round -/
def prtF (V : WV) (A : Nat → Int32) (g : Nat) : Nat → Int32 → (Nat → Int32) → (Nat → Int32)
  | 0, _, G => G
  | k + 1, u, G => if u ≤ 0 then G else if (rnd V A G g u).1 ≤ 0 then G else prtF V A g k (u - (rnd V A G g u).1) (rnd V A G g u).2
section PART
variable {V : WV} {A G : Nat → Int32} {g : Nat}
/-- what a round keeps -/
def RdP (V : WV) (A G : Nat → Int32) (g : Nat) (t : Int32) (G' : Nat → Int32) : Prop :=
  GB A G' ∧ (∀ y, ¬ (y < 28 ∧ memb V g y = true) → G' y = G y) ∧ ∀ y, y < 28 → (G y).toInt ≤ (G' y).toInt ∧ (G' y).toInt ≤ (G y).toInt + t.toInt
theorem rnd_post (hL : LimR V) (hg : g < 12) (hB : GB A G) {u : Int32} (hu0 : 1 ≤ u.toInt) (hu : u.toInt ≤ 20000) : RdP V A G g (rnd V A G g u).1 (rnd V A G g u).2 ∧ 0 ≤ (rnd V A G g u).1.toInt ∧ (rnd V A G g u).1.toInt ≤ u.toInt ∧ ((rnd V A G g u).1 ≤ 0 → (rnd V A G g u).1 = 0 ∧ (rnd V A G g u).2 = G) := by
  unfold rnd
  cases hb : bstW V A G g 28 with
  | none =>
    dsimp only
    refine ⟨⟨hB, fun y _ => rfl, fun y hy => ⟨Int.le_refl _, ?_⟩⟩, ?_, ?_, fun _ => ⟨rfl, rfl⟩⟩
    · rw [ti_0]; omega
    · rw [ti_0]; omega
    · rw [ti_0]; omega
  | some z =>
    have hz := bst_lt 28 z hb
    have hzr := bst_in hL hg 28 z hb
    obtain ⟨hzm, hzl⟩ := inR_m hzr
    have hzl := ti_lt.mp hzl
    have hW := sumW_pos hL hg hb
    have hW' : 0 < sumW V A G g := ti_lt.mpr (by rw [ti_0]; exact hW)
    have hn := fun y (hy : y < 28) => rndN_bd (u := u) hL hg hB (by omega) hu hW hy
    obtain ⟨q1, q2⟩ := given_I hL hg hB (u := u) (by omega) hu hW
    have q0 : ∀ y, y < 28 → (rndN V A G g u y).toInt ≤ isum 28 (fun y => (rndN V A G g u y).toInt) := fun y hy => isum_ge (f := fun y => (rndN V A G g u y).toInt) 28 hy (fun i hi => (hn i hi).1)
    have q3 : 0 ≤ isum 28 (fun y => (rndN V A G g u y).toInt) := isum_nn 28 fun y hy => (hn y hy).1
    have hr : ∀ y, y < 28 → (rndG V A G g u y).toInt = (G y).toInt + (rndN V A G g u y).toInt := fun y hy => by
      obtain ⟨b1, b2, b3⟩ := hB y hy
      obtain ⟨n1, n2⟩ := hn y hy
      unfold rndG
      rw [if_pos hy, ti_add (by omega) (by omega)]
    have hout : ∀ y, ¬ (y < 28 ∧ memb V g y = true) → rndG V A G g u y = G y := fun y hy => by
      unfold rndG
      by_cases h : y < 28
      · have hm : memb V g y = false := by
          cases e : memb V g y
          · rfl
          · exact absurd ⟨h, e⟩ hy
        rw [if_pos h, rndN_out hB h (by unfold inR; rw [hm]; rfl), Int32.add_zero]
      · rw [if_neg h]
    dsimp only
    rw [if_pos hW']
    by_cases h0 : smI (List.range 28) (rndN V A G g u) = 0
    · rw [if_pos h0]
      rw [h0, ti_0] at q1
      have t1 : (1 : Int32).toInt = 1 := by decide
      have hs : ∀ y, y < 28 → (rndG V A G g u y).toInt = (G y).toInt := fun y hy => by
        have := q0 y hy; have := hn y hy; have := hr y hy; omega
      obtain ⟨z1, z2, z3⟩ := hB z hz
      have hzz : (rndG V A G g u z + 1).toInt = (G z).toInt + 1 := by
        have := hs z hz
        rw [ti_add (by rw [t1]; omega) (by rw [t1]; omega), this, t1]
      have hv : ∀ y, y < 28 → (upd (rndG V A G g u) z (rndG V A G g u z + 1) y).toInt = (G y).toInt + if y = z then 1 else 0 := fun y hy => by
        by_cases e : y = z
        · subst e; rw [upd_s, if_pos rfl, hzz]
        · rw [upd_ne _ _ e, if_neg e, hs y hy]; omega
      dsimp only
      refine ⟨⟨fun y hy => ?_, fun y hy => ?_, fun y hy => ?_⟩, by rw [t1]; omega, ?_, fun h => absurd h (by decide)⟩
      · obtain ⟨b1, b2, b3⟩ := hB y hy
        rw [hv y hy]
        by_cases e : y = z
        · subst e; rw [if_pos rfl]; omega
        · rw [if_neg e]; omega
      · have e : y ≠ z := fun e => hy ⟨by omega, by rw [e]; exact hzm⟩
        rw [upd_ne _ _ e]; exact hout y hy
      · rw [hv y hy, t1]
        by_cases e : y = z
        · rw [if_pos e]; omega
        · rw [if_neg e]; omega
      · rw [t1]; exact hu0
    · rw [if_neg h0]
      have hp : (smI (List.range 28) (rndN V A G g u)).toInt ≠ 0 := fun e => h0 (Int32.toInt_inj.mp (by rw [e]; rfl))
      refine ⟨⟨fun y hy => ?_, hout, fun y hy => ?_⟩, ?_, ?_, fun h => ?_⟩
      · obtain ⟨b1, b2, b3⟩ := hB y hy
        have := hn y hy; rw [hr y hy]; omega
      · have := hn y hy; have := q0 y hy; rw [hr y hy]; dsimp only; omega
      · dsimp only; omega
      · dsimp only; omega
      · have := ti_le.mp h; rw [ti_0] at this; dsimp only at this; omega
/-- a round looks at nothing but the members -/
theorem ak_cong {G2 : Nat → Int32} (h : ∀ y, y < 28 → memb V g y = true → G y = G2 y) {y : Nat} (hy : y < 28) : akW V A G g y = akW V A G2 g y := by
  rw [akW_in, akW_in]
  unfold inR
  cases hm : memb V g y
  · simp only [Bool.false_and]
  · rw [h y hy hm]
theorem sumW_cong {G2 : Nat → Int32} (h : ∀ y, y < 28 → memb V g y = true → G y = G2 y) : sumW V A G g = sumW V A G2 g := by
  unfold sumW
  exact smI_cong fun y hy => ak_cong h (List.mem_range.mp hy)
theorem bst_cong {G2 : Nat → Int32} (h : ∀ y, y < 28 → memb V g y = true → G y = G2 y) : ∀ i, i ≤ 28 → bstW V A G g i = bstW V A G2 g i
  | 0, _ => by unfold bstW; rw [List.range_zero, List.foldl_nil, List.foldl_nil]
  | i + 1, hi => by
    have ih := bst_cong h i (by omega)
    rw [bst_s, bst_s, ← ih]
    unfold bstS
    rw [ak_cong h (show i < 28 by omega)]
    cases hz : bstW V A G g i with
    | none => dsimp only
    | some z => dsimp only; rw [ak_cong h (show z < 28 by have := bst_lt i z hz; omega)]
theorem rndN_cong {G2 : Nat → Int32} (hB : GB A G) (hB2 : GB A G2) (h : ∀ y, y < 28 → memb V g y = true → G y = G2 y) (u : Int32) {y : Nat} (hy : y < 28) : rndN V A G g u y = rndN V A G2 g u y := by
  cases hm : memb V g y
  · have q1 : inR V A G g y = false := by unfold inR; rw [hm, Bool.false_and]
    have q2 : inR V A G2 g y = false := by unfold inR; rw [hm, Bool.false_and]
    rw [rndN_out hB hy q1, rndN_out hB2 hy q2]
  · unfold rndN
    rw [ak_cong h hy, sumW_cong h, h y hy hm]
theorem rndS_cong {G2 : Nat → Int32} (hB : GB A G) (hB2 : GB A G2) (h : ∀ y, y < 28 → memb V g y = true → G y = G2 y) (u : Int32) : smI (List.range 28) (rndN V A G g u) = smI (List.range 28) (rndN V A G2 g u) :=
  smI_cong fun _ hy => rndN_cong hB hB2 h u (List.mem_range.mp hy)
theorem rndG_cong {G2 : Nat → Int32} (hB : GB A G) (hB2 : GB A G2) (h : ∀ y, y < 28 → memb V g y = true → G y = G2 y) (u : Int32) {y : Nat} (hy : y < 28) (hm : memb V g y = true) : rndG V A G g u y = rndG V A G2 g u y := by
  unfold rndG
  rw [if_pos hy, if_pos hy, rndN_cong hB hB2 h u hy, h y hy hm]
theorem rnd_cong {G2 : Nat → Int32} (hB : GB A G) (hB2 : GB A G2) (h : ∀ y, y < 28 → memb V g y = true → G y = G2 y) (u : Int32) : (rnd V A G g u).1 = (rnd V A G2 g u).1 ∧ ∀ y, y < 28 → memb V g y = true → (rnd V A G g u).2 y = (rnd V A G2 g u).2 y := by
  have e1 := sumW_cong (A := A) h
  have e2 := rndS_cong hB hB2 h u
  have e3 := bst_cong (A := A) h 28 (Nat.le_refl _)
  have e4 := fun y (hy : y < 28) hm => rndG_cong hB hB2 h u (y := y) hy hm
  unfold rnd
  rw [← e3, ← e1, ← e2]
  generalize rndG V A G g u = R at e4 ⊢
  generalize rndG V A G2 g u = R2 at e4 ⊢
  generalize smI (List.range 28) (rndN V A G g u) = S
  generalize sumW V A G g = W
  cases hz : bstW V A G g 28 with
  | none => dsimp only; exact ⟨rfl, h⟩
  | some z =>
    dsimp only
    by_cases hW : 0 < W
    · rw [if_pos hW, if_pos hW]
      by_cases h0 : S = 0
      · rw [if_pos h0, if_pos h0]
        refine ⟨rfl, fun y hy hm => ?_⟩
        show upd R z (R z + 1) y = upd R2 z (R2 z + 1) y
        by_cases e : y = z
        · subst e; rw [upd_s, upd_s, e4 y hy hm]
        · rw [upd_ne _ _ e, upd_ne _ _ e]; exact e4 y hy hm
      · rw [if_neg h0, if_neg h0]; exact ⟨rfl, e4⟩
    · rw [if_neg hW, if_neg hW]; exact ⟨rfl, h⟩
theorem prt_post (hL : LimR V) (hg : g < 12) : ∀ (k : Nat) (u : Int32) (G : Nat → Int32), GB A G → 0 ≤ u.toInt → u.toInt ≤ 20000 → RdP V A G g u (prtF V A g k u G)
  | 0, u, G, hB, h0, hu => ⟨hB, fun _ _ => rfl, fun y hy => ⟨Int.le_refl _, by show (G y).toInt ≤ _; omega⟩⟩
  | k + 1, u, G, hB, h0, hu => by
    have hsame : RdP V A G g u G := ⟨hB, fun _ _ => rfl, fun y hy => ⟨Int.le_refl _, by omega⟩⟩
    unfold prtF
    by_cases c : u ≤ 0
    · rw [if_pos c]; exact hsame
    · rw [if_neg c]
      have c' : 1 ≤ u.toInt := by
        have : ¬ u.toInt ≤ 0 := fun e => c (ti_le.mpr (by rw [ti_0]; exact e))
        omega
      obtain ⟨⟨r1, r2, r3⟩, p1, p2, p3⟩ := rnd_post hL hg hB c' hu
      by_cases d : (rnd V A G g u).1 ≤ 0
      · rw [if_pos d]; exact hsame
      · rw [if_neg d]
        have hsb : (u - (rnd V A G g u).1).toInt = u.toInt - (rnd V A G g u).1.toInt := ti_sub (by omega) (by omega)
        obtain ⟨s1, s2, s3⟩ := prt_post hL hg k (u - (rnd V A G g u).1) (rnd V A G g u).2 r1 (by omega) (by omega)
        refine ⟨s1, fun y hy => (s2 y hy).trans (r2 y hy), fun y hy => ?_⟩
        have := s3 y hy; have := r3 y hy
        omega
theorem prt_cong (hL : LimR V) (hg : g < 12) : ∀ (k : Nat) (u : Int32) (G G2 : Nat → Int32), GB A G → GB A G2 → u.toInt ≤ 20000 → (∀ y, y < 28 → memb V g y = true → G y = G2 y) → ∀ y, y < 28 → memb V g y = true → prtF V A g k u G y = prtF V A g k u G2 y
  | 0, u, G, G2, _, _, _, h => h
  | k + 1, u, G, G2, hB, hB2, hu, h => by
    unfold prtF
    by_cases c : u ≤ 0
    · rw [if_pos c, if_pos c]; exact h
    · rw [if_neg c, if_neg c]
      have c' : 1 ≤ u.toInt := by
        have : ¬ u.toInt ≤ 0 := fun e => c (ti_le.mpr (by rw [ti_0]; exact e))
        omega
      obtain ⟨e1, e2⟩ := rnd_cong hB hB2 h u
      obtain ⟨⟨r1, r2, r3⟩, p1, p2, p3⟩ := rnd_post hL hg hB c' hu
      obtain ⟨⟨s1, s2, s3⟩, -⟩ := rnd_post hL hg hB2 c' hu
      rw [← e1]
      by_cases d : (rnd V A G g u).1 ≤ 0
      · rw [if_pos d, if_pos d]; exact h
      · rw [if_neg d, if_neg d]
        have hsb : (u - (rnd V A G g u).1).toInt = u.toInt - (rnd V A G g u).1.toInt := ti_sub (by omega) (by omega)
        exact prt_cong hL hg k _ _ _ r1 s1 (by omega) e2
theorem prt_none (k : Nat) {u : Int32} (h : (rnd V A G g u).1 ≤ 0) : prtF V A g k u G = G := by
  cases k with
  | zero => rfl
  | succ k =>
    unfold prtF
    by_cases c : u ≤ 0
    · rw [if_pos c]
    · rw [if_neg c, if_pos h]
/-- the class -/
theorem c_prt {w q : Nat} {P : WV → WV → Hp} (hP : L2 w q P) (hL : LimR V) (hg : g < 12) (x : Int32) : ∀ (k c N : Nat) (u : Int32) (Q : WV), c + k = 100 → k < N → GB (Q.1 10) (Q.1 9) → u.toInt ≤ 20000 → loopF (fun x' => F_X2_plan_L66 (q + 8) w x (nI g) x'.1 x'.2.1 x'.2.2) N (u, nI c, P V Q) = some (P V (sx Q 9 (prtF V (Q.1 10) g k u (Q.1 9))))
  | k, c, 0, u, Q, _, hN, _, _ => absurd hN (Nat.not_lt_zero _)
  | k, c, N + 1, u, Q, hk, hN, hB, hu => by
    rw [loopF]
    show (F_X2_plan_L66 (q + 8) w x (nI g) u (nI c) (P V Q)).bind _ = _
    unfold F_X2_plan_L66
    by_cases h0 : u ≤ 0
    · rw [if_pos h0]
      have : prtF V (Q.1 10) g k u (Q.1 9) = Q.1 9 := by
        cases k with
        | zero => rfl
        | succ k => unfold prtF; rw [if_pos h0]
      rw [this, sx_id]; rfl
    · rw [if_neg h0]
      have h0' : 1 ≤ u.toInt := by
        have : ¬ u.toInt ≤ 0 := fun e => h0 (ti_le.mpr (by rw [ti_0]; exact e))
        omega
      cases k with
      | zero =>
        have hc : c = 100 := by omega
        subst hc
        rw [if_pos (show (99 : Int32) < nI 100 by decide)]
        show some (P V Q) = some (P V (sx Q 9 (Q.1 9)))
        rw [sx_id]
      | succ k =>
        have hc : ¬ (99 : Int32) < nI c := Int32.not_lt.mpr (nI_le (b := 99) (by omega) (by decide))
        rw [if_neg hc]
        obtain ⟨⟨r1, r2, r3⟩, p1, p2, p3⟩ := rnd_post hL hg hB h0' hu
        have hsb : (u - (rnd V (Q.1 10) (Q.1 9) g u).1).toInt = u.toInt - (rnd V (Q.1 10) (Q.1 9) g u).1.toInt := ti_sub (by omega) (by omega)
        have ih := c_prt hP hL hg x k (c + 1) N (u - (rnd V (Q.1 10) (Q.1 9) g u).1) (sx Q 9 (rnd V (Q.1 10) (Q.1 9) g u).2) (by omega) (by omega) r1 (by omega)
        simp only [ql (hP.2 V), c_round hP u, Option.bind_some, un, bl, nI_1]
        refine ih.trans ?_
        have e10 : (sx Q 9 (rnd V (Q.1 10) (Q.1 9) g u).2).1 10 = Q.1 10 := rfl
        have e9 : (sx Q 9 (rnd V (Q.1 10) (Q.1 9) g u).2).1 9 = (rnd V (Q.1 10) (Q.1 9) g u).2 := rfl
        rw [e10, e9, sx_sx]
        by_cases d : (rnd V (Q.1 10) (Q.1 9) g u).1 ≤ 0
        · obtain ⟨d1, d2⟩ := p3 d
          rw [d1, d2, Int32.sub_zero, prt_none k d, prt_none (k + 1) d]
        · have : prtF V (Q.1 10) g (k + 1) u (Q.1 9) = prtF V (Q.1 10) g k (u - (rnd V (Q.1 10) (Q.1 9) g u).1) (rnd V (Q.1 10) (Q.1 9) g u).2 := by
            show (if u ≤ 0 then _ else if (rnd V (Q.1 10) (Q.1 9) g u).1 ≤ 0 then _ else _) = _
            rw [if_neg h0, if_neg d]
          rw [this]
/-- the model -/
theorem m_prt {b n : Nat} {o : Nat → Nat} {P : WV → Hp} (hP : LM b P) (hO : OrdOK V n o) (hL : LimR V) (hg : g < 12) (rf : Hp → Nat → Int32 → Option Hp) : ∀ (k N : Nat) (u t : Int32) (U : WV), k + 1 < N → u.toInt ≤ k → k ≤ 20000 → 0 < t.toInt → GB (U.1 16) (U.1 17) → Rel V (U.1 1) → ∃ U', loopF (fun x' => F_X10_parts_L9 rf b (nI g) x'.1 x'.2.1 x'.2.2) N (u, t, P U) = some (P U') ∧ (∀ c, c ≠ 17 → c ≠ 18 → U'.1 c = U.1 c) ∧ U'.1 17 = prtF V (U.1 16) g k u (U.1 17)
  | k, 0, u, t, U, hN, _, _, _, _, _ => absurd hN (Nat.not_lt_zero _)
  | k, N + 1, u, t, U, hN, huk, hk, ht, hB, hR => by
    rw [loopF]
    show ∃ U', (F_X10_parts_L9 rf b (nI g) u t (P U)).bind _ = _ ∧ _
    unfold F_X10_parts_L9
    by_cases h0 : u ≤ 0
    · rw [if_pos h0]
      refine ⟨U, rfl, fun _ _ _ => rfl, ?_⟩
      cases k with
      | zero => rfl
      | succ k => unfold prtF; rw [if_pos h0]
    · rw [if_neg h0]
      have h0' : 1 ≤ u.toInt := by
        have : ¬ u.toInt ≤ 0 := fun e => h0 (ti_le.mpr (by rw [ti_0]; exact e))
        omega
      have ht' : ¬ t ≤ 0 := fun e => by have := ti_le.mp e; rw [ti_0] at this; omega
      rw [if_neg ht']
      cases k with
      | zero => exact absurd huk (by omega)
      | succ k =>
        obtain ⟨⟨r1, r2, r3⟩, p1, p2, p3⟩ := rnd_post hL hg hB h0' (by omega)
        have hsb : (u - (rnd V (U.1 16) (U.1 17) g u).1).toInt = u.toInt - (rnd V (U.1 16) (U.1 17) g u).1.toInt := ti_sub (by omega) (by omega)
        obtain ⟨f, hf⟩ := m_round hP hR hO hL hg hB (u := u) (by omega) (by omega)
        simp only [ml hP, hf, Option.bind_some, un, bl]
        by_cases d : (rnd V (U.1 16) (U.1 17) g u).1 ≤ 0
        · obtain ⟨d1, d2⟩ := p3 d
          refine ⟨sx (sx U 18 f) 17 (rnd V (U.1 16) (U.1 17) g u).2, ?_, fun c c1 c2 => ?_, ?_⟩
          · obtain ⟨N, rfl⟩ : ∃ m, N = m + 1 := ⟨N - 1, by omega⟩
            rw [loopF]
            show (F_X10_parts_L9 rf b (nI g) _ _ _).bind _ = _
            unfold F_X10_parts_L9
            rw [if_pos d]
            by_cases e : u - (rnd V (U.1 16) (U.1 17) g u).1 ≤ 0
            · rw [if_pos e]; rfl
            · rw [if_neg e]; rfl
          · rw [sx_1, up_n _ _ c1, sx_1, up_n _ _ c2]
          · rw [prt_none (k + 1) d]; exact d2
        · have d' : 0 < (rnd V (U.1 16) (U.1 17) g u).1.toInt := by
            have : ¬ (rnd V (U.1 16) (U.1 17) g u).1.toInt ≤ 0 := fun e => d (ti_le.mpr (by rw [ti_0]; exact e))
            omega
          obtain ⟨U', y1, y2, y3⟩ := m_prt hP hO hL hg rf k N (u - (rnd V (U.1 16) (U.1 17) g u).1) (rnd V (U.1 16) (U.1 17) g u).1 (sx (sx U 18 f) 17 (rnd V (U.1 16) (U.1 17) g u).2) (by omega) (by omega) (by omega) d' r1 hR
          refine ⟨U', y1, fun c c1 c2 => ?_, ?_⟩
          · rw [y2 c c1 c2, sx_1, up_n _ _ c1, sx_1, up_n _ _ c2]
          · rw [y3]
            show _ = (if u ≤ 0 then _ else if (rnd V (U.1 16) (U.1 17) g u).1 ≤ 0 then _ else _)
            rw [if_neg h0, if_neg d]; rfl
end PART
