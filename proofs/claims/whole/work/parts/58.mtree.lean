/-! who is where -/
def hom (V : WV) (p : Nat) : Nat := (V.1 24 p).toNatClampNeg
def HomOK (V : WV) : Prop := ∀ p, p < 16 → phV V p = true → ∃ g, g < 12 ∧ thV V g = true ∧ V.1 24 p = nI g
theorem HomOK.at {V : WV} (h : HomOK V) {p : Nat} (hp : p < 16) (ht : phV V p = true) : hom V p < 12 ∧ thV V (hom V p) = true ∧ V.1 24 p = nI (hom V p) := by
  obtain ⟨g, h1, h2, h3⟩ := h p hp ht
  have e : hom V p = g := by unfold hom; rw [h3, nI_clamp (by omega)]
  rw [e]; exact ⟨h1, h2, h3⟩
def oI : Option Nat → Int32
  | none => -1
  | some k => nI k
/-- the victim of a death below r -/
def mor (V : WV) (r p : Nat) : Bool := phV V p && blw (pfV V) r (hom V p) && decide (V.1 25 p ≠ -10)
def vicS (V : WV) (r : Nat) (a : Option Nat) (p : Nat) : Option Nat := if mor V r p then (match a with | none => some p | some q => if badV V p ≤ badV V q then some q else some p) else a
def vicF (V : WV) (r : Nat) : Option Nat := (List.range 16).foldl (vicS V r) none
/-- the process of a group with the most pages of a kind -/
def mstS (V : WV) (g k : Nat) (a : Option Nat) (p : Nat) : Option Nat := if phV V p && decide (V.1 24 p = nI g) then (match a with | none => some p | some q => if V.1 (27 + k) p ≤ V.1 (27 + k) q then some q else some p) else a
def mstF (V : WV) (g k : Nat) : Option Nat := (List.range 16).foldl (mstS V g k) none
def topF (V : WV) (r v : Nat) : Option Nat := (pth (pfV V) (hom V v)).foldl (fun a x => if blw (pfV V) r x && decide (V.1 9 x = 1) then some x else a) none
/-- who dies by a death below r -/
def dyS (V : WV) (r : Nat) : Nat → Bool := match vicF V r with
  | none => fun _ => false
  | some v => match topF V r v with
    | none => fun p => decide (p = v)
    | some t => fun p => mor V t p
section MTREE
variable {b : Nat} {P : WV → Hp} {V U : WV} {n : Nat} {o : Nat → Nat}
theorem m_isBelow (hP : LM b P) (hR : Rel V (U.1 1)) (hO : OrdOK V n o) {g r : Nat} (hg : g < 12) (ht : thV V g = true) (hr : r < 2 ^ 31) : F_X10_isBelow (P U) b (nI g) (nI r) = some (if blw (pfV V) r g then 1 else 0, P U) := by
  obtain ⟨q, h1, h2⟩ := loop_pH (st := fun x => F_X10_isBelow_L2 b (nI r) x.1 x.2) (fun l (_ : Unit) => (hd l, P U)) (fun l _ => Sfx (thV V) (pfV V) l ∧ (r ∈ pth (pfV V) g ↔ r ∈ l)) (fun q => q = (if r ∈ pth (pfV V) g then nI r else -1, P U))
    (fun x l a hI => by
      obtain ⟨hs, hm⟩ := hI
      obtain ⟨hx, htx, -, hs', -⟩ := hs.cons hO.tree
      by_cases e : x = r
      · right
        refine ⟨(nI x, P U), ?_, ?_⟩
        · show F_X10_isBelow_L2 b (nI r) (nI x) (P U) = _
          unfold F_X10_isBelow_L2
          rw [if_neg (nI_ne1 (by omega)), if_pos (by rw [e])]
        · rw [if_pos (hm.mpr (by simp [e])), e]
      · left
        refine ⟨(), ?_, hs', ?_⟩
        · show F_X10_isBelow_L2 b (nI r) (nI x) (P U) = _
          unfold F_X10_isBelow_L2
          rw [if_neg (nI_ne1 (by omega)), if_neg (fun q => e ((nI_eq (by omega) hr).mp q))]
          simp only [ml hP, m_parent hP hR hx htx, Option.bind_some, un, hO.hdv hs]
        · rw [hm]; simp [Ne.symm e])
    (fun a hI => ⟨(-1, P U), by
      show F_X10_isBelow_L2 b (nI r) (-1) (P U) = _
      unfold F_X10_isBelow_L2
      rw [if_pos rfl], by rw [if_neg (fun q => by have := hI.2.mp q; simp at this)]⟩)
    (pth (pfV V) g) 6000 () (by have := pth_len (pfV V) g; omega) ⟨Sfx.pth hg ht, Iff.rfl⟩
  have h1' : loopF (fun x => F_X10_isBelow_L2 b (nI r) x.1 x.2) 6000 (nI g, P U) = some q := by
    rw [← h1]
    show _ = loopF _ 6000 (hd (pth (pfV V) g), P U)
    rw [pth_cons hO.tree hg ht]; rfl
  unfold F_X10_isBelow
  rw [h1', h2]
  simp only [Option.bind_some, bl, blw]
  by_cases hm : r ∈ pth (pfV V) g
  · simp [hm]
  · simp [hm, (nI_ne1 hr).symm]
theorem m_groupsBelow (hP : LM b P) (hR : Rel V (U.1 1)) (hO : OrdOK V n o) {r : Nat} (hr : r < 12) : F_X10_groupsBelow (P U) b (nI r) = some (mkB 12 (fun g => thV V g && blw (pfV V) r g), P U) := by
  have h := loop_rng (st := fun x => F_X10_groupsBelow_L4 b (nI r) x.1 x.2.1 x.2.2) (fun i (a : Int32) => (a, nI i, P U)) (fun a g => a ||| (if thV V g && blw (pfV V) r g then 1 <<< (nI g &&& 31) else 0)) (fun a => (a, P U)) 12
    (fun i a hi => by
      show F_X10_groupsBelow_L4 b (nI r) a (nI i) (P U) = _
      unfold F_X10_groupsBelow_L4
      rw [h12I, if_neg (nI_ge hi (by decide))]
      simp only [ml hP, m_isGroup' hP hR hi, Option.bind_some]
      cases ht : thV V i
      · simp [bl, nI_1]
      · simp only [m_isBelow hP hR hO hi ht (show r < 2 ^ 31 by omega), if_true, if_neg (show ¬ (1 : Int32) = 0 by decide), Option.bind_some, un]
        cases hb : blw (pfV V) r i
        · simp [bl, nI_1]
        · simp [bl, nI_1])
    (fun a => by
      show F_X10_groupsBelow_L4 b (nI r) a (nI 12) (P U) = _
      unfold F_X10_groupsBelow_L4
      rw [h12I, if_pos (nI_le (Nat.le_refl _) (by decide))])
    (n := 6000) (by decide) 0
  unfold F_X10_groupsBelow
  have h' : loopF (fun x => F_X10_groupsBelow_L4 b (nI r) x.1 x.2.1 x.2.2) 6000 (0, 0, P U) = _ := h
  rw [h']
  rfl
theorem m_procsBelow (hP : LM b P) (hR : Rel V (U.1 1)) (hO : OrdOK V n o) (hH : HomOK V) {r : Nat} (hr : r < 12) : F_X10_processesBelow (P U) b (nI r) = some (mkB 16 (fun p => phV V p && blw (pfV V) r (hom V p)), P U) := by
  have h := loop_rng (st := fun x => F_X10_processesBelow_L4 b (nI r) x.1 x.2.1 x.2.2) (fun i (a : Int32) => (a, nI i, P U)) (fun a p => a ||| (if phV V p && blw (pfV V) r (hom V p) then 1 <<< (nI p &&& 31) else 0)) (fun a => (a, P U)) 16
    (fun i a hi => by
      show F_X10_processesBelow_L4 b (nI r) a (nI i) (P U) = _
      unfold F_X10_processesBelow_L4
      rw [h16I, if_neg (nI_ge hi (by decide))]
      simp only [ml hP, m_isProc' hP hR hi, Option.bind_some]
      cases ht : phV V i
      · simp [bl, nI_1]
      · obtain ⟨k1, k2, k3⟩ := hH.at hi ht
        simp only [m_home hP hR hi ht, k3, m_isBelow hP hR hO k1 k2 (show r < 2 ^ 31 by omega), if_true, if_neg (show ¬ (1 : Int32) = 0 by decide), Option.bind_some, un, ml hP]
        cases hb : blw (pfV V) r (hom V i)
        · simp [bl, nI_1]
        · simp [bl, nI_1])
    (fun a => by
      show F_X10_processesBelow_L4 b (nI r) a (nI 16) (P U) = _
      unfold F_X10_processesBelow_L4
      rw [h16I, if_pos (nI_le (Nat.le_refl _) (by decide))])
    (n := 6000) (by decide) 0
  unfold F_X10_processesBelow
  have h' : loopF (fun x => F_X10_processesBelow_L4 b (nI r) x.1 x.2.1 x.2.2) 6000 (0, 0, P U) = _ := h
  rw [h']
  rfl
theorem m_pagesIn (hP : LM b P) (hR : Rel V (U.1 1)) {g : Nat} (hg : g < 12) {k : Nat} (hk : k < 2) : F_X10_pagesIn (P U) b (nI g) (nI (2 + k)) = some (pgIn V (nI g) k, P U) := by
  have h := loop_rng (st := fun x => F_X10_pagesIn_L5 b (nI g) (nI (2 + k)) x.1 x.2.1 x.2.2) (fun i (a : Int32) => (a, nI i, P U)) (fun a p => a + (if V.1 24 p = nI g then V.1 (27 + k) p else 0)) (fun a => (a, P U)) 16
    (fun i a hi => by
      show F_X10_pagesIn_L5 b (nI g) (nI (2 + k)) a (nI i) (P U) = _
      unfold F_X10_pagesIn_L5
      rw [h16I, if_neg (nI_ge hi (by decide))]
      simp only [ml hP, m_isProc' hP hR hi, Option.bind_some]
      cases ht : phV V i
      · have e : V.1 24 i = -1 := by simpa [phV] using ht
        have e2 : ¬ (-1 : Int32) = nI g := (nI_ne1 (by omega)).symm
        simp [bl, nI_1, e, e2]
      · simp only [m_home hP hR hi ht, if_true, if_neg (show ¬ (1 : Int32) = 0 by decide), Option.bind_some, un, ml hP, m_pr hP hR hi ht (show 2 + k < 8 by omega), cp_k hk]
        by_cases e : V.1 24 i = nI g
        · simp [bl, nI_1, e]
        · simp [bl, nI_1, e])
    (fun a => by
      show F_X10_pagesIn_L5 b (nI g) (nI (2 + k)) a (nI 16) (P U) = _
      unfold F_X10_pagesIn_L5
      rw [h16I, if_pos (nI_le (Nat.le_refl _) (by decide))])
    (n := 6000) (by decide) 0
  rw [foldl_sm0] at h
  unfold F_X10_pagesIn
  have h' : loopF (fun x => F_X10_pagesIn_L5 b (nI g) (nI (2 + k)) x.1 x.2.1 x.2.2) 6000 (0, 0, P U) = _ := h
  rw [h']
  rfl
theorem m_ownOf (hP : LM b P) (hR : Rel V (U.1 1)) {g : Nat} (hg : g < 12) : F_X10_ownOf (P U) b (nI g) = some (pgIn V (nI g) 0 + pgIn V (nI g) 1, P U) := by
  unfold F_X10_ownOf
  have e0 : F_X10_pagesIn (P U) b (nI g) 2 = some (pgIn V (nI g) 0, P U) := m_pagesIn hP hR hg (k := 0) (by decide)
  have e1 : F_X10_pagesIn (P U) b (nI g) 3 = some (pgIn V (nI g) 1, P U) := m_pagesIn hP hR hg (k := 1) (by decide)
  simp only [ml hP, e0, e1, Option.bind_some, un]
theorem m_victim (hP : LM b P) (hR : Rel V (U.1 1)) (hO : OrdOK V n o) (hH : HomOK V) {r : Nat} (hr : r < 12) : F_X10_victimBelow (P U) b (nI r) = some (oI (vicF V r), P U) ∧ ∀ v, vicF V r = some v → v < 16 ∧ mor V r v = true := by
  have h := loop_cnt (st := fun x => F_X10_victimBelow_L4 b (nI r) x.1 x.2.1 x.2.2) (fun i (a : Option Nat) => (oI a, nI i, P U)) (vicS V r) (fun a => (oI a, P U)) (fun i a => ∀ v, a = some v → v < 16 ∧ mor V r v = true) 16
    (fun i a hi hI => by
      refine ⟨?_, ?_⟩
      · show F_X10_victimBelow_L4 b (nI r) (oI a) (nI i) (P U) = _
        unfold F_X10_victimBelow_L4
        rw [h16I, if_neg (nI_ge hi (by decide))]
        simp only [ml hP, m_isProc' hP hR hi, Option.bind_some]
        cases ht : phV V i
        · simp [bl, nI_1, vicS, mor, ht]
        · obtain ⟨k1, k2, k3⟩ := hH.at hi ht
          simp only [m_home hP hR hi ht, k3, m_isBelow hP hR hO k1 k2 (show r < 2 ^ 31 by omega), if_true, if_neg (show ¬ (1 : Int32) = 0 by decide), Option.bind_some, un, ml hP]
          cases hb : blw (pfV V) r (hom V i)
          · simp [bl, nI_1, vicS, mor, ht, hb]
          · simp only [mp hP V, hR, hi, ht, Option.bind_some, if_true, if_neg (show ¬ (1 : Int32) = 0 by decide), un]
            by_cases h10 : V.1 25 i = -10
            · simp [bl, nI_1, vicS, mor, ht, hb, h10]
            · have hm : mor V r i = true := by simp [mor, ht, hb, h10]
              cases a with
              | none => simp [bl, nI_1, vicS, hm, h10, oI]
              | some q =>
                obtain ⟨q1, q2⟩ := hI q rfl
                have q3 : phV V q = true := by
                  simp only [mor, Bool.and_eq_true] at q2
                  exact q2.1.1
                have q4 : ¬ nI q = -1 := nI_ne1 (by omega)
                simp only [oI, bl, ml hP, un, m_bad hP hR hi ht, m_bad hP hR q1 q3, Option.bind_some, if_neg h10, if_neg q4, vicS, hm, if_true]
                by_cases hle : badV V i ≤ badV V q
                · simp [hle, nI_1]
                · simp [hle, nI_1]
      · intro v hv
        unfold vicS at hv
        cases hm : mor V r i
        · rw [hm] at hv
          exact hI v hv
        · rw [hm] at hv
          cases a with
          | none => cases hv; exact ⟨hi, hm⟩
          | some q =>
            simp only [if_true] at hv
            split at hv
            · cases hv; exact hI _ rfl
            · cases hv; exact ⟨hi, hm⟩)
    (fun a hI => by
      show F_X10_victimBelow_L4 b (nI r) (oI a) (nI 16) (P U) = _
      unfold F_X10_victimBelow_L4
      rw [h16I, if_pos (nI_le (Nat.le_refl _) (by decide))])
    16 0 6000 none (by decide) (by decide) (fun v hv => by cases hv)
  rw [← List.range_eq_range'] at h
  obtain ⟨h1, h2⟩ := h
  unfold F_X10_victimBelow
  have h' : loopF (fun x => F_X10_victimBelow_L4 b (nI r) x.1 x.2.1 x.2.2) 6000 (-1, 0, P U) = _ := h1
  rw [h']
  exact ⟨rfl, h2⟩
theorem m_mostIn (hP : LM b P) (hR : Rel V (U.1 1)) {g : Nat} {k : Nat} (hk : k < 2) : F_X10_mostIn (P U) b (nI g) (nI k) = some (oI (mstF V g k), P U) ∧ ∀ v, mstF V g k = some v → v < 16 ∧ phV V v = true ∧ V.1 24 v = nI g := by
  have h := loop_cnt (st := fun x => F_X10_mostIn_L5 b (nI g) (nI k) x.1 x.2.1 x.2.2) (fun i (a : Option Nat) => (oI a, nI i, P U)) (mstS V g k) (fun a => (oI a, P U)) (fun i a => ∀ v, a = some v → v < 16 ∧ phV V v = true ∧ V.1 24 v = nI g) 16
    (fun i a hi hI => by
      refine ⟨?_, ?_⟩
      · show F_X10_mostIn_L5 b (nI g) (nI k) (oI a) (nI i) (P U) = _
        unfold F_X10_mostIn_L5
        rw [h16I, if_neg (nI_ge hi (by decide))]
        simp only [ml hP, m_isProc' hP hR hi, Option.bind_some]
        cases ht : phV V i
        · simp [bl, nI_1, mstS, ht]
        · simp only [m_home hP hR hi ht, if_true, if_neg (show ¬ (1 : Int32) = 0 by decide), Option.bind_some, un, ml hP]
          by_cases hg : V.1 24 i = nI g
          · cases a with
            | none => simp [bl, nI_1, mstS, ht, hg, oI]
            | some q =>
              obtain ⟨q1, q2, q3⟩ := hI q rfl
              have q4 : ¬ nI q = -1 := nI_ne1 (by omega)
              simp only [oI, bl, ml hP, un, m_prk hP hR hi ht hk, m_prk hP hR q1 q2 hk, Option.bind_some, if_pos hg, if_neg q4, mstS, ht, hg, Bool.true_and, decide_true, if_true]
              by_cases hle : V.1 (27 + k) i ≤ V.1 (27 + k) q
              · simp [hle, nI_1]
              · simp [hle, nI_1]
          · simp [bl, nI_1, mstS, ht, hg]
      · intro v hv
        unfold mstS at hv
        by_cases hm : (phV V i && decide (V.1 24 i = nI g)) = true
        · rw [if_pos hm] at hv
          have hm' : phV V i = true ∧ V.1 24 i = nI g := by simpa using hm
          cases a with
          | none => cases hv; exact ⟨hi, hm'⟩
          | some q =>
            simp only at hv
            split at hv
            · cases hv; exact hI _ rfl
            · cases hv; exact ⟨hi, hm'⟩
        · rw [if_neg hm] at hv
          exact hI v hv)
    (fun a hI => by
      show F_X10_mostIn_L5 b (nI g) (nI k) (oI a) (nI 16) (P U) = _
      unfold F_X10_mostIn_L5
      rw [h16I, if_pos (nI_le (Nat.le_refl _) (by decide))])
    16 0 6000 none (by decide) (by decide) (fun v hv => by cases hv)
  rw [← List.range_eq_range'] at h
  obtain ⟨h1, h2⟩ := h
  unfold F_X10_mostIn
  have h' : loopF (fun x => F_X10_mostIn_L5 b (nI g) (nI k) x.1 x.2.1 x.2.2) 6000 (-1, 0, P U) = _ := h1
  rw [h']
  exact ⟨rfl, h2⟩
end MTREE
