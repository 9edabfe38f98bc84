/-! the units go down the tree: the model, group by group -/
section MGETS
variable {V : WV} {n : Nat} {o : Nat → Nat} {b : Nat} {P : WV → Hp} {A Gf : Nat → Int32} {c : Int32}
theorem GB.mix {G H : Nat → Int32} (hB : GB A G) (hF : GB A Gf) (f : Nat → Bool) (h : ∀ y, y < 28 → H y = if f y then Gf y else G y) : GB A H := fun y hy => by
  rw [h y hy]
  cases f y
  · exact hB y hy
  · exact hF y hy
theorem m_parts (hP : LM b P) (hO : OrdOK V n o) (hH : HomOK V) (hL : LimR V) (hF : FixG V A c Gf) : ∀ (d g : Nat) (U : WV), g < 12 → thV V g = true → 13 ≤ (pth (pfV V) g).length + d → Rel V (U.1 1) → U.1 16 = A → GB A (U.1 17) → U.1 17 g = Gf g → (∀ y, y < 28 → bel V g y = true → U.1 17 y = 0) → ∃ U', F_X10_parts d (P U) b (nI g) = some (P U') ∧ (∀ k, k ≠ 17 → k ≠ 18 → U'.1 k = U.1 k) ∧ ∀ y, y < 28 → U'.1 17 y = if bel V g y then Gf y else U.1 17 y
  | 0, g, U, hg, ht, hd, _, _, _, _, _ => by
    have := pth_len (pfV V) g; omega
  | d + 1, g, U, hg, ht, hd, hR, hA, hB, hGg, hz => by
    obtain ⟨f1, f2, f3, f4, f5⟩ := id hF
    have hu := f3 g (by omega)
    obtain ⟨hu0, -, -⟩ := f2 g (by omega)
    have hB' : GB (U.1 16) (U.1 17) := by rw [hA]; exact hB
    obtain ⟨U1, a1, a2, a3⟩ := m_prt hP hO hL hg (F_X10_parts d) 100 6000 (Gf g) 1 U (by omega) (by omega) (by omega) (by decide) hB' hR
    rw [hA] at a3
    obtain ⟨p1, p2, p3⟩ := prt_post (A := A) hL hg 100 (Gf g) (U.1 17) hB hu0 (by omega)
    have h1 : ∀ y, y < 28 → U1.1 17 y = if memb V g y then Gf y else U.1 17 y := fun y hy => by
      rw [a3]
      cases hm : memb V g y
      · simp only [Bool.false_eq_true, if_false]
        exact p2 y (fun z => by rw [hm] at z; cases z.2)
      · simp only [if_true]
        rw [f4 g hg ht y hy hm]
        exact prt_cong hL hg 100 (Gf g) (U.1 17) (fun _ => 0) hB hB.z (by omega) (fun x hx hmx => hz x hx (bel_memb hO hg ht hx hmx)) y hy hm
    obtain ⟨a, ha, k1, k2⟩ := loop_inv (st := fun x => F_X10_parts_L34 (F_X10_parts d) b (nI g) x.1 x.2) (fun i (a : WV) => (nI i, P a)) (fun a => P a) (fun i a => (∀ k, k ≠ 17 → k ≠ 18 → a.1 k = U.1 k) ∧ ∀ y, y < 28 → a.1 17 y = if (memb V g y || (List.range i).any (fun e => memb V g e && bel V e y)) then Gf y else U.1 17 y) 12
      (fun i a hi hI => by
        obtain ⟨i1, i2⟩ := hI
        have hRa : Rel V (a.1 1) := by rw [i1 1 (by decide) (by decide)]; exact hR
        have hBa : GB A (a.1 17) := hB.mix f2 _ i2
        have hstay : memb V g i = false → (∀ k, k ≠ 17 → k ≠ 18 → a.1 k = U.1 k) ∧ ∀ y, y < 28 → a.1 17 y = if (memb V g y || (List.range (i + 1)).any (fun e => memb V g e && bel V e y)) then Gf y else U.1 17 y := fun hm => ⟨i1, fun y hy => by
          rw [any_s, hm, Bool.false_and, Bool.or_false]; exact i2 y hy⟩
        cases ht1 : thV V i
        · have e : V.1 2 i = -2 := by simpa [thV] using ht1
          have hm : memb V g i = false := by
            unfold memb; rw [if_pos hi, e]; exact decide_eq_false (nI_ne2 (by omega)).symm
          refine ⟨a, ?_, hstay hm⟩
          show F_X10_parts_L34 (F_X10_parts d) b (nI g) (nI i) (P a) = _
          unfold F_X10_parts_L34
          rw [h12I, if_neg (nI_ge hi (by decide))]
          simp only [ml hP, m_isGroup' hP hRa hi, ht1, Bool.false_eq_true, if_false, if_true, Option.bind_some, bl, nI_1]
        · by_cases e : V.1 2 i = nI g
          · have hm : memb V g i = true := by
              unfold memb; rw [if_pos hi]; exact decide_eq_true e
            have h0 : i ≠ 0 := fun z => by rw [z, memb_0 hO hg] at hm; cases hm
            obtain ⟨u, hu', htu, eu, hpf⟩ := hO.par hi ht1 h0
            have hug : u = g := (nI_eq (by omega) (by omega)).mp (by rw [← eu]; exact e)
            have hlen : (pth (pfV V) i).length = (pth (pfV V) g).length + 1 := by
              rw [pth_cons hO.tree hi ht1, hpf, hug]; rfl
            have hai : a.1 17 i = Gf i := by rw [i2 i (by omega), hm, Bool.true_or, if_pos rfl]
            have hza : ∀ y, y < 28 → bel V i y = true → a.1 17 y = 0 := fun y hy hb => by
              have hn : (List.range i).any (fun e => memb V g e && bel V e y) = false := by
                cases q : (List.range i).any (fun e => memb V g e && bel V e y)
                · rfl
                · obtain ⟨e', he', q'⟩ := List.any_eq_true.mp q
                  have he'' := List.mem_range.mp he'
                  rw [Bool.and_eq_true] at q'
                  have := bel_sib hO hH hg ht (show e' < 12 by omega) hi hy q'.1 hm q'.2 hb
                  omega
              rw [i2 y hy, bel_not hO hg ht hi hy hm hb, hn]
              exact hz y hy (bel_up hO hH hg ht hi hy hm hb)
            obtain ⟨U2, b1, b2, b3⟩ := m_parts hP hO hH hL hF d i a hi ht1 (by omega) hRa (by rw [i1 16 (by decide) (by decide)]; exact hA) hBa hai hza
            refine ⟨U2, ?_, fun k q1 q2 => (b2 k q1 q2).trans (i1 k q1 q2), fun y hy => ?_⟩
            · show F_X10_parts_L34 (F_X10_parts d) b (nI g) (nI i) (P a) = _
              unfold F_X10_parts_L34
              rw [h12I, if_neg (nI_ge hi (by decide))]
              simp only [ml hP, m_isGroup' hP hRa hi, ht1, if_true, if_neg (show ¬ (1 : Int32) = 0 by decide), Option.bind_some, m_parent hP hRa hi ht1, un, if_pos e, b1, bl, nI_1]
            · rw [b3 y hy, any_s, hm, Bool.true_and, i2 y hy]
              cases bel V i y <;> simp
          · have hm : memb V g i = false := by
              unfold memb; rw [if_pos hi]; exact decide_eq_false e
            refine ⟨a, ?_, hstay hm⟩
            show F_X10_parts_L34 (F_X10_parts d) b (nI g) (nI i) (P a) = _
            unfold F_X10_parts_L34
            rw [h12I, if_neg (nI_ge hi (by decide))]
            simp only [ml hP, m_isGroup' hP hRa hi, ht1, if_true, if_neg (show ¬ (1 : Int32) = 0 by decide), Option.bind_some, m_parent hP hRa hi ht1, un, if_neg e, bl, nI_1])
      (fun a hI => by
        show F_X10_parts_L34 (F_X10_parts d) b (nI g) (nI 12) (P a) = _
        unfold F_X10_parts_L34
        rw [h12I, if_pos (nI_le (Nat.le_refl _) (by decide))])
      11 1 6000 U1 (by omega) (by omega) ⟨a2, fun y hy => by
        rw [any_s, memb_0 hO hg, h1 y hy]; simp⟩
    refine ⟨a, ?_, k1, fun y hy => ?_⟩
    · have ha' : loopF (fun x => F_X10_parts_L34 (F_X10_parts d) b (nI g) x.1 x.2) 6000 (1, P U1) = some (P a) := ha
      show ((gR (P U) b 10 18).bind fun a1 => _) = _
      simp only [ml hP, Option.bind_some, show g < 28 by omega, hGg, a1, ha']
    · rw [k2 y hy]
      have : (memb V g y || (List.range 12).any (fun e => memb V g e && bel V e y)) = bel V g y := by
        cases hb : bel V g y
        · cases hm : memb V g y
          · rw [Bool.false_or]
            cases q : (List.range 12).any (fun e => memb V g e && bel V e y)
            · rfl
            · obtain ⟨e', he', q'⟩ := List.any_eq_true.mp q
              rw [Bool.and_eq_true] at q'
              have := bel_up hO hH hg ht (List.mem_range.mp he') hy q'.1 q'.2
              rw [hb] at this; cases this
          · have := bel_memb hO hg ht hy hm
            rw [hb] at this; cases this
        · rcases bel_dn hO hH hg hy hb with q | ⟨e, e1, e2, e3⟩
          · rw [q, Bool.true_or]
          · rw [List.any_eq_true.mpr ⟨e, List.mem_range.mpr e1, by rw [e2, e3]; rfl⟩, Bool.or_true]
      rw [this]
/-- from the root down: what FixG tells -/
theorem m_gets (hP : LM b P) (hO : OrdOK V n o) (hH : HomOK V) (hL : LimR V) (hF : FixG V A c Gf) (U : WV) (hR : Rel V (U.1 1)) (hA : U.1 16 = A) (hG : ∀ y, y < 28 → U.1 17 y = if y = 0 then c else 0) : ∃ U', F_X10_parts 13 (P U) b 0 = some (P U') ∧ (∀ k, k ≠ 17 → k ≠ 18 → U'.1 k = U.1 k) ∧ ∀ y, y < 28 → U'.1 17 y = Gf y := by
  obtain ⟨f1, f2, f3, f4, f5⟩ := id hF
  have ht0 : thV V 0 = true := by unfold thV; rw [hO.2.2.2.2.2.2.1]; exact decide_eq_true (by decide)
  have hB : GB A (U.1 17) := fun y hy => by
    rw [hG y hy]
    by_cases e : y = 0
    · rw [if_pos e, ← f1, e]; exact f2 0 (by decide)
    · rw [if_neg e]; exact f2.z y hy
  obtain ⟨U', a1, a2, a3⟩ := m_parts hP hO hH hL hF 13 0 U (by decide) ht0 (by omega) hR hA hB (by rw [hG 0 (by decide), if_pos rfl, f1]) (fun y hy hb => by
    rw [hG y hy, if_neg (bel_at hb).2.2])
  refine ⟨U', a1, a2, fun y hy => ?_⟩
  rw [a3 y hy]
  cases hb : bel V 0 y
  · simp only [Bool.false_eq_true, if_false]
    rw [hG y hy]
    by_cases e : y = 0
    · rw [if_pos e, ← f1, e]
    · rw [if_neg e]
      refine (f5 y hy e (fun g hg ht => ?_)).symm
      cases hm : memb V g y
      · rfl
      · have hal := bel_at (bel_memb hO hg ht hy hm)
        obtain ⟨s1, s2⟩ := aliv_seat hH hy hal.1
        have := bel_mk (g := 0) hal.1 (blw_root hO.tree s1 s2) e
        rw [hb] at this; cases this
  · simp only [if_true]
end MGETS
