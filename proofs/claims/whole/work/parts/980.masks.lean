/-! who asks for how many units: the model -/
section MASKS
variable {V : WV} {n : Nat} {o : Nat → Nat} {b : Nat} {P : WV → Hp} {A : Nat → Int32}
def belE (V : WV) (g y : Nat) : Bool := bel V g y || decide (y = g)
def chB (V : WV) (g i y : Nat) : Bool := (List.range i).any (fun e => memb V g e && belE V e y)
theorem m_askP (hP : LM b P) (hF : FixA V A) {g : Nat} (hg : g < 12) (U : WV) (hR : Rel V (U.1 1)) (s : Int32) (rf : Hp → Nat → Int32 → Option (Int32 × Hp)) : ∃ f, loopF (fun x => F_X10_laysAsks_L43 rf b (nI g) x.1 x.2.1 x.2.2) 6000 (s, 0, P U) = some (s + prS V g 16, P (sx U 16 f)) ∧ ∀ y, y < 28 → f y = if (decide (12 ≤ y) && memb V g y) then A y else U.1 16 y := by
  obtain ⟨x, hx, k1, k2⟩ := loop_inv (st := fun x => F_X10_laysAsks_L43 rf b (nI g) x.1 x.2.1 x.2.2) (fun i (a : Int32 × (Nat → Int32)) => (a.1, nI i, P (sx U 16 a.2))) (fun a => (a.1, P (sx U 16 a.2))) (fun i a => a.1 = s + prS V g i ∧ ∀ y, y < 28 → a.2 y = if (decide (12 ≤ y) && decide (y - 12 < i) && memb V g y) then A y else U.1 16 y) 16
    (fun i a hi hI => by
      obtain ⟨i1, i2⟩ := hI
      have hRa : ∀ f, Rel V ((sx U 16 f).1 1) := fun f => hR
      have h28 : 12 + i < 28 := by omega
      have hpr : prS V g (i + 1) = prS V g i + (if memb V g (12 + i) then xP V i else 0) := by unfold prS; rw [smI_succ]
      have hne : ∀ y, y ≠ 12 + i → (decide (12 ≤ y) && decide (y - 12 < i + 1) && memb V g y) = (decide (12 ≤ y) && decide (y - 12 < i) && memb V g y) := fun y hy => by
        by_cases h12 : 12 ≤ y
        · have : y - 12 < i + 1 ↔ y - 12 < i := by omega
          rw [decide_eq_decide.mpr this]
        · rw [decide_eq_false h12]; rfl
      have hstay : memb V g (12 + i) = false → a.1 = s + prS V g (i + 1) ∧ ∀ y, y < 28 → a.2 y = if (decide (12 ≤ y) && decide (y - 12 < i + 1) && memb V g y) then A y else U.1 16 y := fun hm => ⟨by rw [hpr, hm, if_neg (by decide), Int32.add_zero]; exact i1, fun y hy => by
        rw [i2 y hy]
        by_cases e : y = 12 + i
        · rw [e, hm, Bool.and_false, Bool.and_false]
        · rw [hne y e]⟩
      cases hph : phV V i
      · have e : V.1 24 i = -1 := by simpa [phV] using hph
        have hm : memb V g (12 + i) = false := by
          unfold memb; rw [if_neg (by omega), show 12 + i - 12 = i by omega, e]; exact decide_eq_false (nI_ne1 (by omega)).symm
        refine ⟨a, ?_, hstay hm⟩
        show F_X10_laysAsks_L43 rf b (nI g) a.1 (nI i) (P (sx U 16 a.2)) = _
        unfold F_X10_laysAsks_L43
        rw [h16I, if_neg (nI_ge hi (by decide))]
        simp only [ml hP, m_isProc' hP (hRa a.2) hi, hph, Bool.false_eq_true, if_false, if_true, Option.bind_some, bl, nI_1]
      · by_cases e : V.1 24 i = nI g
        · have hm : memb V g (12 + i) = true := by
            unfold memb; rw [if_neg (by omega), show 12 + i - 12 = i by omega]; exact decide_eq_true e
          have hs16 : ∀ f, (sx U 16 f).1 16 = f := fun f => rfl
          have hval : ((if V.1 30 i = 0 then some ((V.1 31 i : Int32), P (sx U 16 a.2)) else some ((0 : Int32), P (sx U 16 a.2)))) = some (xP V i, P (sx U 16 a.2)) := by
            unfold xP
            rw [hph]
            by_cases h : V.1 30 i = 0
            · rw [if_pos h, decide_eq_true h]; rfl
            · rw [if_neg h, decide_eq_false h]; rfl
          refine ⟨(a.1 + xP V i, upd a.2 (12 + i) (xP V i)), ?_, ?_, fun y hy => ?_⟩
          · show F_X10_laysAsks_L43 rf b (nI g) a.1 (nI i) (P (sx U 16 a.2)) = _
            unfold F_X10_laysAsks_L43
            rw [h16I, if_neg (nI_ge hi (by decide))]
            simp only [ml hP, m_isProc' hP (hRa a.2) hi, hph, if_true, if_neg (show ¬ (1 : Int32) = 0 by decide), Option.bind_some, m_home hP (hRa a.2) hi hph, un, if_pos e, mp hP V, hRa, hi, hval, bl, n12, h28, hs16, sx_sx, upd_s, nI_1]
          · show a.1 + _ = _
            rw [hpr, hm, if_pos rfl, i1, Int32.add_assoc]
          · show upd a.2 (12 + i) _ y = _
            by_cases ey : y = 12 + i
            · rw [ey, upd_s, hm, decide_eq_true (show 12 ≤ 12 + i by omega), decide_eq_true (show 12 + i - 12 < i + 1 by omega)]
              exact (hF.1 i hi).symm
            · rw [upd_ne _ _ ey, i2 y hy, hne y ey]
        · have hm : memb V g (12 + i) = false := by
            unfold memb; rw [if_neg (by omega), show 12 + i - 12 = i by omega]; exact decide_eq_false e
          refine ⟨a, ?_, hstay hm⟩
          show F_X10_laysAsks_L43 rf b (nI g) a.1 (nI i) (P (sx U 16 a.2)) = _
          unfold F_X10_laysAsks_L43
          rw [h16I, if_neg (nI_ge hi (by decide))]
          simp only [ml hP, m_isProc' hP (hRa a.2) hi, hph, if_true, if_neg (show ¬ (1 : Int32) = 0 by decide), Option.bind_some, m_home hP (hRa a.2) hi hph, un, if_neg e, bl, nI_1])
    (fun a hI => by
      show F_X10_laysAsks_L43 rf b (nI g) a.1 (nI 16) (P (sx U 16 a.2)) = _
      unfold F_X10_laysAsks_L43
      rw [h16I, if_pos (nI_le (Nat.le_refl _) (by decide))])
    16 0 6000 (s, U.1 16) (by omega) (by omega) ⟨by show s = s + 0; rw [Int32.add_zero], fun y hy => by simp⟩
  refine ⟨x.2, ?_, fun y hy => ?_⟩
  · rw [← k1, ← hx]
    show _ = loopF _ 6000 (s, nI 0, P (sx U 16 (U.1 16)))
    rw [sx_id]; rfl
  · rw [k2 y hy, decide_eq_true (show y - 12 < 16 by omega), Bool.and_true]
theorem m_laysAsks (hP : LM b P) (hO : OrdOK V n o) (hH : HomOK V) (hF : FixA V A) : ∀ (d g : Nat) (U : WV), g < 12 → thV V g = true → 13 ≤ (pth (pfV V) g).length + d → Rel V (U.1 1) → ∃ U', F_X10_laysAsks d (P U) b (nI g) = some (A g, P U') ∧ (∀ k, k ≠ 16 → U'.1 k = U.1 k) ∧ ∀ y, y < 28 → U'.1 16 y = if belE V g y then A y else U.1 16 y
  | 0, g, U, hg, ht, hd, _ => by
    have := pth_len (pfV V) g; omega
  | d + 1, g, U, hg, ht, hd, hR => by
    obtain ⟨x, hx, k0, k1, k2⟩ := loop_inv (st := fun x => F_X10_laysAsks_L4 (F_X10_laysAsks d) b (nI g) x.1 x.2.1 x.2.2) (fun i (a : Int32 × WV) => (a.1, nI i, P a.2)) (fun a => (a.1, P a.2)) (fun i a => a.1 = smI (List.range i) (fun e => if memb V g e then A e else 0) ∧ (∀ k, k ≠ 16 → a.2.1 k = U.1 k) ∧ ∀ y, y < 28 → a.2.1 16 y = if chB V g i y then A y else U.1 16 y) 12
      (fun i a hi hI => by
        obtain ⟨i0, i1, i2⟩ := hI
        have hRa : Rel V (a.2.1 1) := by rw [i1 1 (by decide)]; exact hR
        have hcs : ∀ y, chB V g (i + 1) y = (chB V g i y || (memb V g i && belE V i y)) := fun y => any_s i _
        have hstay : memb V g i = false → a.1 = smI (List.range (i + 1)) (fun e => if memb V g e then A e else 0) ∧ (∀ k, k ≠ 16 → a.2.1 k = U.1 k) ∧ ∀ y, y < 28 → a.2.1 16 y = if chB V g (i + 1) y then A y else U.1 16 y := fun hm => ⟨by rw [smI_succ, hm, if_neg (by decide), Int32.add_zero]; exact i0, i1, fun y hy => by
          rw [hcs, hm, Bool.false_and, Bool.or_false]; exact i2 y hy⟩
        cases ht1 : thV V i
        · have e : V.1 2 i = -2 := by simpa [thV] using ht1
          have hm : memb V g i = false := by
            unfold memb; rw [if_pos hi, e]; exact decide_eq_false (nI_ne2 (by omega)).symm
          refine ⟨a, ?_, hstay hm⟩
          show F_X10_laysAsks_L4 (F_X10_laysAsks d) b (nI g) a.1 (nI i) (P a.2) = _
          unfold F_X10_laysAsks_L4
          rw [h12I, if_neg (nI_ge hi (by decide))]
          simp only [ml hP, m_isGroup' hP hRa hi, ht1, Bool.false_eq_true, if_false, if_true, Option.bind_some, bl, nI_1]
        · by_cases e : V.1 2 i = nI g
          · have hm : memb V g i = true := by
              unfold memb; rw [if_pos hi]; exact decide_eq_true e
            have h0 : i ≠ 0 := fun z => by rw [z, memb_0 hO hg] at hm; cases hm
            obtain ⟨u, hu', htu, eu, hpf⟩ := hO.par hi ht1 h0
            have hug : u = g := (nI_eq (by omega) (by omega)).mp (by rw [← eu]; exact e)
            have hlen : (pth (pfV V) i).length = (pth (pfV V) g).length + 1 := by
              rw [pth_cons hO.tree hi ht1, hpf, hug]; rfl
            obtain ⟨U2, b1, b2, b3⟩ := m_laysAsks hP hO hH hF d i a.2 hi ht1 (by omega) hRa
            refine ⟨(a.1 + A i, U2), ?_, ?_, fun k q1 => (b2 k q1).trans (i1 k q1), fun y hy => ?_⟩
            · show F_X10_laysAsks_L4 (F_X10_laysAsks d) b (nI g) a.1 (nI i) (P a.2) = _
              unfold F_X10_laysAsks_L4
              rw [h12I, if_neg (nI_ge hi (by decide))]
              simp only [ml hP, m_isGroup' hP hRa hi, ht1, if_true, if_neg (show ¬ (1 : Int32) = 0 by decide), Option.bind_some, m_parent hP hRa hi ht1, un, if_pos e, b1, bl, nI_1]
            · show a.1 + A i = _
              rw [smI_succ, hm, if_pos rfl, i0]
            · show U2.1 16 y = _
              rw [b3 y hy, hcs, hm, Bool.true_and, i2 y hy]
              cases belE V i y <;> simp
          · have hm : memb V g i = false := by
              unfold memb; rw [if_pos hi]; exact decide_eq_false e
            refine ⟨a, ?_, hstay hm⟩
            show F_X10_laysAsks_L4 (F_X10_laysAsks d) b (nI g) a.1 (nI i) (P a.2) = _
            unfold F_X10_laysAsks_L4
            rw [h12I, if_neg (nI_ge hi (by decide))]
            simp only [ml hP, m_isGroup' hP hRa hi, ht1, if_true, if_neg (show ¬ (1 : Int32) = 0 by decide), Option.bind_some, m_parent hP hRa hi ht1, un, if_neg e, bl, nI_1])
      (fun a hI => by
        show F_X10_laysAsks_L4 (F_X10_laysAsks d) b (nI g) a.1 (nI 12) (P a.2) = _
        unfold F_X10_laysAsks_L4
        rw [h12I, if_pos (nI_le (Nat.le_refl _) (by decide))])
      11 1 6000 (0, U) (by omega) (by omega) ⟨by
        rw [smI_succ, memb_0 hO hg]; rfl, fun _ _ => rfl, fun y hy => by
        have : chB V g 1 y = false := by
          unfold chB; rw [any_s, memb_0 hO hg]; rfl
        rw [this]; rfl⟩
    have hx' : loopF (fun x => F_X10_laysAsks_L4 (F_X10_laysAsks d) b (nI g) x.1 x.2.1 x.2.2) 6000 (0, 1, P U) = some (x.1, P x.2) := hx
    have hRx : Rel V (x.2.1 1) := by rw [k1 1 (by decide)]; exact hR
    obtain ⟨f, y1, y2⟩ := m_askP hP hF hg x.2 hRx x.1 (F_X10_laysAsks d)
    have hRf : ∀ f, Rel V ((sx x.2 16 f).1 1) := fun f => hRx
    have hs16 : ∀ f, (sx x.2 16 f).1 16 = f := fun f => rfl
    have hval : A g = qF V g (x.1 + prS V g 16) := by rw [k0]; exact hF.2.1 g hg ht
    have hq : (if V.1 12 g = 99 then some (x.1 + prS V g 16, P (sx x.2 16 f)) else some (mnI (x.1 + prS V g 16) (mxI 0 (V.1 12 g - V.1 17 g)), P (sx x.2 16 f))) = some (A g, P (sx x.2 16 f)) := by
      rw [hval]; unfold qF
      by_cases h : V.1 12 g = 99
      · rw [if_pos h, if_pos h]
      · rw [if_neg h, if_neg h]
    have hg28 : g < 28 := by omega
    refine ⟨sx x.2 16 (upd f g (A g)), ?_, fun k hk => ?_, fun y hy => ?_⟩
    · show ((loopF (fun x => F_X10_laysAsks_L4 (F_X10_laysAsks d) b (nI g) x.1 x.2.1 x.2.2) 6000 (0, 1, P U)).bind fun q1 => _) = _
      simp only [hx', Option.bind_some, bl, y1, ml hP, mo hP V, hRf, hg, ht, un, m_greater, m_lesser, hq, hg28, hs16, sx_sx, upd_s]
    · rw [sx_1, up_n _ _ hk]; exact k1 k hk
    · show upd f g (A g) y = _
      by_cases ey : y = g
      · rw [ey, upd_s]; unfold belE; rw [decide_eq_true rfl, Bool.or_true, if_pos rfl]
      · rw [upd_ne _ _ ey, y2 y hy, k2 y hy]
        have : belE V g y = (chB V g 12 y || (decide (12 ≤ y) && memb V g y)) := by
          unfold belE
          rw [decide_eq_false ey, Bool.or_false]
          cases hb : bel V g y
          · symm
            rw [Bool.or_eq_false_iff]
            refine ⟨?_, ?_⟩
            · cases q : chB V g 12 y
              · rfl
              · obtain ⟨e', he', q'⟩ := List.any_eq_true.mp q
                rw [Bool.and_eq_true] at q'
                have he12 := List.mem_range.mp he'
                have : bel V g y = true := by
                  rcases Bool.or_eq_true _ _ ▸ q'.2 with r | r
                  · exact bel_up hO hH hg ht he12 hy q'.1 r
                  · rw [of_decide_eq_true r]; exact bel_memb hO hg ht (by omega) q'.1
                rw [hb] at this; cases this
            · cases hm : memb V g y
              · rw [Bool.and_false]
              · have := bel_memb hO hg ht hy hm
                rw [hb] at this; cases this
          · symm
            rw [Bool.or_eq_true]
            rcases bel_dn hO hH hg hy hb with q | ⟨e, e1, e2, e3⟩
            · by_cases h12 : 12 ≤ y
              · right; rw [q, decide_eq_true h12]; rfl
              · left
                exact List.any_eq_true.mpr ⟨y, List.mem_range.mpr (by omega), by unfold belE; rw [q, decide_eq_true rfl, Bool.or_true]; rfl⟩
            · left
              exact List.any_eq_true.mpr ⟨e, List.mem_range.mpr e1, by unfold belE; rw [e2, e3]; rfl⟩
        rw [this]
        cases chB V g 12 y <;> cases (decide (12 ≤ y) && memb V g y) <;> simp
end MASKS
