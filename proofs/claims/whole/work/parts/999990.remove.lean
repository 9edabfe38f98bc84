/-! calls that act: remove -/
variable {kt : Nat}
def useG (V : WV) (g : Nat) : Bool := (List.range 12).any (fun c => thV V c && decide (V.1 2 c = nI g)) || (List.range 16).any (fun p => phV V p && decide (V.1 24 p = nI g))
section REMOVE
variable {V : WV} {n s : Nat} {o : Nat → Nat} {g : Nat}
theorem use_no (h : useG V g = false) : (∀ c, c < 12 → thV V c = true → V.1 2 c ≠ nI g) ∧ (∀ p, p < 16 → phV V p = true → V.1 24 p ≠ nI g) := by
  unfold useG at h
  rw [Bool.or_eq_false_iff, List.any_eq_false, List.any_eq_false] at h
  refine ⟨fun c hc ht e => ?_, fun p hp ht e => ?_⟩
  · have := h.1 c (List.mem_range.mpr hc)
    rw [ht, decide_eq_true e] at this; exact this rfl
  · have := h.2 p (List.mem_range.mpr hp)
    rw [ht, decide_eq_true e] at this; exact this rfl
theorem no_path (hO : OrdOK V n o) (hg : g < 12) (h : ∀ c, c < 12 → thV V c = true → V.1 2 c ≠ nI g) {y : Nat} (hy : y < 12) (ht : thV V y = true) (hne : y ≠ g) : blw (pfV V) g y = false := by
  cases hb : blw (pfV V) g y
  · rfl
  · obtain ⟨e, e1, e2, -⟩ := way hO y hy ht g hb (Ne.symm hne)
    exact absurd (memb_g e1 e2) (h e e1 (memb_th hg e1 e2))
theorem bits_no (hO : OrdOK V n o) (hH : HomOK V) (hg : g < 12) (ht : thV V g = true) (h : useG V g = false) : mkB 12 (fun x => thV V x && blw (pfV V) g x) = (1 <<< (nI g &&& 31)) ∧ mkB 16 (prB V g) = 0 := by
  obtain ⟨h1, h2⟩ := use_no h
  constructor
  · refine b_ext fun i hi => ?_
    rw [bt_mkB (by decide) hi, bt_one (by omega) hi]
    by_cases e : i = g
    · subst e
      rw [ht, blw_self hO.tree hg ht, decide_eq_true hg, decide_eq_true rfl]; rfl
    · rw [decide_eq_false e]
      by_cases h12 : i < 12
      · cases hti : thV V i
        · rw [Bool.false_and, Bool.and_false]
        · rw [no_path hO hg h1 h12 hti e, Bool.and_false, Bool.and_false]
      · rw [decide_eq_false h12, Bool.false_and]
  · refine b_ext fun i hi => ?_
    rw [bt_mkB (by decide) hi, b_0]
    by_cases h16 : i < 16
    · rw [decide_eq_true h16, Bool.true_and]
      unfold prB
      cases hti : phV V i
      · rw [Bool.false_and]
      · obtain ⟨k1, k2, k3⟩ := hH.at h16 hti
        have hne : hom V i ≠ g := fun z => h2 i h16 hti (by rw [k3, z])
        rw [no_path hO hg h1 k1 k2 hne, Bool.and_false]
    · rw [decide_eq_false h16, Bool.false_and]
theorem bits_yes (hO : OrdOK V n o) (hH : HomOK V) (hg : g < 12) (ht : thV V g = true) (h0 : g ≠ 0) (h : useG V g = true) : mkB 12 (fun x => thV V x && blw (pfV V) g x) ≠ (1 <<< (nI g &&& 31)) ∨ mkB 16 (prB V g) ≠ 0 := by
  unfold useG at h
  rw [Bool.or_eq_true, List.any_eq_true, List.any_eq_true] at h
  rcases h with ⟨c, c1, c2⟩ | ⟨p, p1, p2⟩
  · left
    intro e
    have hc := List.mem_range.mp c1
    rw [Bool.and_eq_true] at c2
    have hpar := of_decide_eq_true c2.2
    have hm : memb V g c = true := by
      unfold memb
      rw [if_pos hc]; exact decide_eq_true hpar
    have hcg : c ≠ g := fun z => by
      rw [z] at hm
      have := no_loop hO hg ht hg hm
      rw [blw_self hO.tree hg ht] at this; cases this
    have hb : blw (pfV V) g c = true := by
      have := bel_memb hO hg ht (show c < 28 by omega) hm
      have := (bel_at this).2.1
      unfold seat at this
      rw [if_pos hc] at this
      exact this
    have : bt (mkB 12 (fun x => thV V x && blw (pfV V) g x)) c = true := by
      rw [bt_mkB (by decide) (by omega), decide_eq_true hc, c2.1, hb]; rfl
    rw [e, bt_one (by omega) (by omega), decide_eq_false hcg] at this
    cases this
  · right
    intro e
    have hp := List.mem_range.mp p1
    rw [Bool.and_eq_true] at p2
    have hh := of_decide_eq_true p2.2
    have hhom : hom V p = g := by unfold hom; rw [hh, nI_clamp (by omega)]
    have : bt (mkB 16 (prB V g)) p = true := by
      rw [bt_mkB (by decide) (by omega), decide_eq_true hp]
      unfold prB
      rw [p2.1, hhom, blw_self hO.tree hg ht]; rfl
    rw [e, b_0] at this
    cases this
theorem m_isInUse {P : WV → Hp} {U : WV} (hP : LM 756 P) (hR : Rel V (U.1 1)) (hg : g < 12) : F_X10_isInUse (P U) 756 (nI g) = some (if useG V g then 1 else 0, P U) := by
  have key1 := loop_first (st := fun x => F_X10_isInUse_L2 756 (nI g) x.1 x.2) (fun i => (nI i, P U)) (fun c => if thV V c && decide (V.1 2 c = nI g) then some (Sum.inl ((1 : Int32), P U)) else none) (Sum.inr (P U)) 12
    (fun i hi => by
      show F_X10_isInUse_L2 756 (nI g) (nI i) (P U) = _
      unfold F_X10_isInUse_L2
      rw [h12I, if_neg (nI_ge hi (by decide))]
      cases ht : thV V i
      · simp only [ml hP, m_isGroup' hP hR hi, ht, Bool.false_eq_true, Bool.false_and, if_false, if_true, Option.bind_some, bl, nI_1]
      · by_cases hc : V.1 2 i = nI g
        · simp only [ml hP, m_isGroup' hP hR hi, ht, if_true, if_neg i10, Option.bind_some, m_parent hP hR hi ht, un, if_pos hc, hc, decide_true, Bool.and_self]
        · simp only [ml hP, m_isGroup' hP hR hi, ht, if_true, if_neg i10, Option.bind_some, m_parent hP hR hi ht, un, if_neg hc, hc, decide_false, Bool.and_false, Bool.false_eq_true, if_false, bl, nI_1])
    (by
      show F_X10_isInUse_L2 756 (nI g) (nI 12) (P U) = _
      unfold F_X10_isInUse_L2
      rw [h12I, if_pos (nI_le (Nat.le_refl _) (by decide))])
    12 0 6000 (by decide) (by decide)
  have key2 := loop_first (st := fun x => F_X10_isInUse_L35 756 (nI g) x.1 x.2) (fun i => (nI i, P U)) (fun c => if phV V c && decide (V.1 24 c = nI g) then some (Sum.inl ((1 : Int32), P U)) else none) (Sum.inr (P U)) 16
    (fun i hi => by
      show F_X10_isInUse_L35 756 (nI g) (nI i) (P U) = _
      unfold F_X10_isInUse_L35
      rw [h16I, if_neg (nI_ge hi (by decide))]
      cases ht : phV V i
      · simp only [ml hP, m_isProc' hP hR hi, ht, Bool.false_eq_true, Bool.false_and, if_false, if_true, Option.bind_some, bl, nI_1]
      · by_cases hc : V.1 24 i = nI g
        · simp only [ml hP, m_isProc' hP hR hi, ht, if_true, if_neg i10, Option.bind_some, m_home hP hR hi ht, un, if_pos hc, hc, decide_true, Bool.and_self]
        · simp only [ml hP, m_isProc' hP hR hi, ht, if_true, if_neg i10, Option.bind_some, m_home hP hR hi ht, un, if_neg hc, hc, decide_false, Bool.and_false, Bool.false_eq_true, if_false, bl, nI_1])
    (by
      show F_X10_isInUse_L35 756 (nI g) (nI 16) (P U) = _
      unfold F_X10_isInUse_L35
      rw [h16I, if_pos (nI_le (Nat.le_refl _) (by decide))])
    16 0 6000 (by decide) (by decide)
  have any_fs : ∀ (l : List Nat) (q : Nat → Bool), ((l.findSome? (fun c => if q c then some (Sum.inl ((1 : Int32), P U)) else none)).getD (Sum.inr (P U)) : (Int32 × Hp) ⊕ Hp) = if l.any q then Sum.inl ((1 : Int32), P U) else Sum.inr (P U) := fun l q => by
    induction l with
    | nil => rfl
    | cons x l ih =>
      rw [List.findSome?_cons, List.any_cons]
      cases hq : q x
      · rw [if_neg (by decide), Bool.false_or]; exact ih
      · rw [if_pos rfl, Bool.true_or, if_pos rfl]; rfl
  rw [any_fs, ← List.range_eq_range'] at key1 key2
  have k1' : loopF (fun x => F_X10_isInUse_L2 756 (nI g) x.1 x.2) 6000 (0, P U) = some (if (List.range 12).any (fun c => thV V c && decide (V.1 2 c = nI g)) then Sum.inl ((1 : Int32), P U) else Sum.inr (P U)) := key1
  have k2' : loopF (fun x => F_X10_isInUse_L35 756 (nI g) x.1 x.2) 6000 (0, P U) = some (if (List.range 16).any (fun c => phV V c && decide (V.1 24 c = nI g)) then Sum.inl ((1 : Int32), P U) else Sum.inr (P U)) := key2
  unfold F_X10_isInUse useG
  rw [k1']
  cases (List.range 12).any (fun c => thV V c && decide (V.1 2 c = nI g))
  · show (loopF (fun x => F_X10_isInUse_L35 756 (nI g) x.1 x.2) 6000 (0, P U)).bind _ = _
    rw [k2', Bool.false_or]
    cases (List.range 16).any (fun c => phV V c && decide (V.1 24 c = nI g)) <;> rfl
  · rfl
end REMOVE
