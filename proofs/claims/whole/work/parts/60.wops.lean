/-! what changes in a World: pages, swapped ones, deaths, moves -/
def stkA (V : WV) (g : Nat) (d : Int32) : WV := sx (sx V 14 (upd (V.1 14) g (V.1 14 g + d))) 15 (addTo (V.1 15) (pth (pfV V) g) d)
def pgsA (V : WV) (p k : Nat) (d : Int32) : WV := sx (sx V (27 + k) (upd (V.1 (27 + k)) p (V.1 (27 + k) p + d))) 15 (addTo (V.1 15) (pth (pfV V) (hom V p)) d)
def swpA (V : WV) (p : Nat) (d : Int32) : WV := sx (sx V 29 (upd (V.1 29) p (V.1 29 p + d))) 16 (addTo (V.1 16) (pth (pfV V) (hom V p)) d)
def buryV (V : WV) (p : Nat) : WV := putP (sx (sx V 15 (addTo (V.1 15) (pth (pfV V) (hom V p)) (-heldV V p))) 16 (addTo (V.1 16) (pth (pfV V) (hom V p)) (-V.1 29 p))) p (-1) 0
def reA (V : WV) (p : Nat) : WV := sx V 15 (addTo (V.1 15) (pth (pfV V) (hom V p)) (-heldV V p))
def reB (V : WV) (p : Nat) : WV := sx (reA V p) 16 (addTo (V.1 16) (pth (pfV V) (hom V p)) (-V.1 29 p))
def reC (V : WV) (p g : Nat) : WV := sx (reB V p) 24 (upd (V.1 24) p (nI g))
def reD (V : WV) (p g : Nat) : WV := sx (reC V p g) 15 (addTo (addTo (V.1 15) (pth (pfV V) (hom V p)) (-heldV V p)) (pth (pfV V) g) (heldV V p))
def reloV (V : WV) (p g : Nat) : WV := sx (reD V p g) 16 (addTo (addTo (V.1 16) (pth (pfV V) (hom V p)) (-V.1 29 p)) (pth (pfV V) g) (V.1 29 p))
def giveS (W : WV) (g : Nat) (m : Int32) : WV := if (stkA W g m).1 14 g ≤ W.1 0 4 then stkA W g m else stkA (stkA W g m) g (-(stkA W g m).1 14 g)
def giveV (V : WV) (p k : Nat) (m : Int32) : WV := giveS (pgsA V p k (-m)) (hom V p) m
def pTerm (V : WV) (u : Nat → Int32) (r p : Nat) : Int32 := if decide (V.1 24 p ≠ -1) && blw (pfV V) r (V.1 24 p).toNatClampNeg then u p else 0
section WOPS
variable {V V' : WV} {n : Nat} {o : Nat → Nat} {w : Nat} {P : WV → Hp}
theorem OrdOK.same (h : OrdOK V n o) (h1 : V'.1 1 = V.1 1) (h2 : V'.1 2 = V.1 2) (h3 : V'.1 3 = V.1 3) : OrdOK V' n o := by
  unfold OrdOK at h ⊢
  rw [h1, h2, h3]; exact h
theorem HomOK.same (h : HomOK V) (h2 : V'.1 2 = V.1 2) (h24 : V'.1 24 = V.1 24) : HomOK V' := by
  unfold HomOK at h ⊢
  rw [thV_same h2, phV_same h24, h24]; exact h
theorem TotOK.proc {p : Nat} {dt : Nat → Int32} (hT : TotOK V) (h2 : V'.1 2 = V.1 2) (h14 : V'.1 14 = V.1 14) (hp : p < 16) (hq : ∀ q, q < 16 → q ≠ p → V'.1 24 q = V.1 24 q ∧ V'.1 27 q + V'.1 28 q = V.1 27 q + V.1 28 q) (hd : ∀ r, r < 12 → thV V r = true → V'.1 15 r = V.1 15 r + dt r) (ht : ∀ r, r < 12 → thV V r = true → pTerm V' (fun q => V'.1 27 q + V'.1 28 q) r p = pTerm V (fun q => V.1 27 q + V.1 28 q) r p + dt r) : TotOK V' := by
  intro r hr htr
  rw [thV_same h2] at htr
  rw [hd r hr htr, hT r hr htr]
  unfold totF
  rw [thV_same h2, pfV_same h2, h14]
  have e : smI (List.range 16) (fun q => if decide (V'.1 24 q ≠ -1) && blw (pfV V) r (V'.1 24 q).toNatClampNeg then V'.1 27 q + V'.1 28 q else 0) = smI (List.range 16) (fun q => if decide (V.1 24 q ≠ -1) && blw (pfV V) r (V.1 24 q).toNatClampNeg then V.1 27 q + V.1 28 q else 0) + dt r := by
    refine smI_upd List.nodup_range (List.mem_range.mpr hp) ?_ (fun q hq' hne => ?_)
    · have := ht r hr htr
      unfold pTerm at this
      rw [pfV_same h2] at this
      exact this
    · obtain ⟨a, c⟩ := hq q (List.mem_range.mp hq') hne
      simp only [a, c]
  rw [e, Int32.add_assoc]
theorem OutOK.proc {p : Nat} {dt : Nat → Int32} (hT : OutOK V) (h2 : V'.1 2 = V.1 2) (hp : p < 16) (hq : ∀ q, q < 16 → q ≠ p → V'.1 24 q = V.1 24 q ∧ V'.1 29 q = V.1 29 q) (hd : ∀ r, r < 12 → thV V r = true → V'.1 16 r = V.1 16 r + dt r) (ht : ∀ r, r < 12 → thV V r = true → pTerm V' (V'.1 29) r p = pTerm V (V.1 29) r p + dt r) : OutOK V' := by
  intro r hr htr
  rw [thV_same h2] at htr
  rw [hd r hr htr, hT r hr htr]
  unfold outF
  rw [pfV_same h2]
  refine (smI_upd List.nodup_range (List.mem_range.mpr hp) ?_ (fun q hq' hne => ?_)).symm
  · have := ht r hr htr
    unfold pTerm at this
    rw [pfV_same h2] at this
    exact this
  · obtain ⟨a, c⟩ := hq q (List.mem_range.mp hq') hne
    simp only [a, c]
theorem TotOK.same (h : TotOK V) (h2 : V'.1 2 = V.1 2) (h14 : V'.1 14 = V.1 14) (h15 : V'.1 15 = V.1 15) (h24 : V'.1 24 = V.1 24) (h27 : V'.1 27 = V.1 27) (h28 : V'.1 28 = V.1 28) : TotOK V' := by
  unfold TotOK totF at h ⊢
  rw [thV_same h2, pfV_same h2, h14, h15, h24, h27, h28]; exact h
theorem OutOK.same (h : OutOK V) (h2 : V'.1 2 = V.1 2) (h16 : V'.1 16 = V.1 16) (h24 : V'.1 24 = V.1 24) (h29 : V'.1 29 = V.1 29) : OutOK V' := by
  unfold OutOK outF at h ⊢
  rw [thV_same h2, pfV_same h2, h16, h24, h29]; exact h
theorem pTerm_v (hH : HomOK V) {p : Nat} (hp : p < 16) (ht : phV V p = true) (u : Nat → Int32) (r : Nat) : pTerm V u r p = if r ∈ pth (pfV V) (hom V p) then u p else 0 := by
  have e : V.1 24 p ≠ -1 := by simpa [phV] using ht
  unfold pTerm
  by_cases h : r ∈ pth (pfV V) (hom V p)
  · have h' : r ∈ pth (pfV V) (V.1 24 p).toNatClampNeg := h
    simp [e, blw, h', h]
  · have h' : ¬ r ∈ pth (pfV V) (V.1 24 p).toNatClampNeg := h
    simp [e, blw, h', h]
theorem TotOK.pages (hT : TotOK V) (hO : OrdOK V n o) (hH : HomOK V) {p k : Nat} (hp : p < 16) (ht : phV V p = true) (hk : k < 2) (d : Int32) : TotOK (pgsA V p k d) := by
  obtain ⟨k1, k2, k3⟩ := hH.at hp ht
  have hk' : k = 0 ∨ k = 1 := by omega
  have hH' : HomOK (pgsA V p k d) := by rcases hk' with rfl | rfl <;> exact hH
  refine TotOK.proc (p := p) (dt := fun r => if r ∈ pth (pfV V) (hom V p) then d else 0) hT (by rcases hk' with rfl | rfl <;> rfl) (by rcases hk' with rfl | rfl <;> rfl) hp ?_ ?_ ?_
  · intro q hq hne
    rcases hk' with rfl | rfl
    · exact ⟨rfl, by show upd _ _ _ q + V.1 28 q = _; rw [upd_ne _ _ hne]⟩
    · exact ⟨rfl, by show V.1 27 q + upd _ _ _ q = _; rw [upd_ne _ _ hne]⟩
  · intro r hr htr
    show addTo (V.1 15) (pth (pfV V) (hom V p)) d r = _
    rw [addTo_at _ _ (pth_nodup hO.tree k1 k2)]
    by_cases h : r ∈ pth (pfV V) (hom V p)
    · simp [h]
    · simp [h]
  · intro r hr htr
    have e1 : phV (pgsA V p k d) p = true := by rcases hk' with rfl | rfl <;> exact ht
    have e2 : pfV (pgsA V p k d) = pfV V := by rcases hk' with rfl | rfl <;> rfl
    have e3 : hom (pgsA V p k d) p = hom V p := by rcases hk' with rfl | rfl <;> rfl
    rw [pTerm_v hH' hp e1, pTerm_v hH hp ht, e2, e3]
    by_cases h : r ∈ pth (pfV V) (hom V p)
    · rw [if_pos h, if_pos h, if_pos h]
      rcases hk' with rfl | rfl
      · show upd _ _ _ p + V.1 28 p = _
        rw [upd_s]; exact i32_acd _ _ _
      · show V.1 27 p + upd _ _ _ p = _
        rw [upd_s, Int32.add_assoc]
    · rw [if_neg h, if_neg h, if_neg h]; rfl
theorem OutOK.swap (hT : OutOK V) (hO : OrdOK V n o) (hH : HomOK V) {p : Nat} (hp : p < 16) (ht : phV V p = true) (d : Int32) : OutOK (swpA V p d) := by
  obtain ⟨k1, k2, k3⟩ := hH.at hp ht
  have hH' : HomOK (swpA V p d) := hH
  refine OutOK.proc (p := p) (dt := fun r => if r ∈ pth (pfV V) (hom V p) then d else 0) hT rfl hp ?_ ?_ ?_
  · intro q hq hne
    exact ⟨rfl, upd_ne _ _ hne⟩
  · intro r hr htr
    show addTo (V.1 16) (pth (pfV V) (hom V p)) d r = _
    rw [addTo_at _ _ (pth_nodup hO.tree k1 k2)]
    by_cases h : r ∈ pth (pfV V) (hom V p)
    · simp [h]
    · simp [h]
  · intro r hr htr
    rw [pTerm_v hH' hp ht, pTerm_v hH hp ht]
    by_cases h : r ∈ pth (pfV V) (hom V p)
    · rw [if_pos h, if_pos h]
      show (if r ∈ pth (pfV V) (hom V p) then upd _ _ _ p else 0) = _
      rw [if_pos h, upd_s]
    · rw [if_neg h, if_neg h]
      show (if r ∈ pth (pfV V) (hom V p) then upd _ _ _ p else 0) = _
      rw [if_neg h]; rfl
theorem buryV_24 (p : Nat) : (buryV V p).1 24 = upd (V.1 24) p (-1) := rfl
theorem TotOK.bury (hT : TotOK V) (hO : OrdOK V n o) (hH : HomOK V) {p : Nat} (hp : p < 16) (ht : phV V p = true) : TotOK (buryV V p) := by
  obtain ⟨k1, k2, k3⟩ := hH.at hp ht
  refine TotOK.proc (p := p) (dt := fun r => if r ∈ pth (pfV V) (hom V p) then -heldV V p else 0) hT rfl rfl hp ?_ ?_ ?_
  · intro q hq hne
    refine ⟨upd_ne _ _ hne, ?_⟩
    show upd _ _ _ q + upd _ _ _ q = _
    rw [upd_ne _ _ hne, upd_ne _ _ hne]
    rfl
  · intro r hr htr
    show addTo (V.1 15) (pth (pfV V) (hom V p)) _ r = _
    rw [addTo_at _ _ (pth_nodup hO.tree k1 k2)]
    by_cases h : r ∈ pth (pfV V) (hom V p)
    · simp [h]
    · simp [h]
  · intro r hr htr
    rw [pTerm_v hH hp ht]
    have e : pTerm (buryV V p) (fun q => (buryV V p).1 27 q + (buryV V p).1 28 q) r p = 0 := by
      unfold pTerm
      rw [buryV_24, upd_s]
      rfl
    rw [e]
    by_cases h : r ∈ pth (pfV V) (hom V p)
    · rw [if_pos h, if_pos h]
      exact (Int32.add_right_neg _).symm
    · rw [if_neg h, if_neg h]; rfl
theorem OutOK.bury (hT : OutOK V) (hO : OrdOK V n o) (hH : HomOK V) {p : Nat} (hp : p < 16) (ht : phV V p = true) : OutOK (buryV V p) := by
  obtain ⟨k1, k2, k3⟩ := hH.at hp ht
  refine OutOK.proc (p := p) (dt := fun r => if r ∈ pth (pfV V) (hom V p) then -V.1 29 p else 0) hT rfl hp ?_ ?_ ?_
  · intro q hq hne
    exact ⟨upd_ne _ _ hne, upd_ne _ _ hne⟩
  · intro r hr htr
    show addTo (V.1 16) (pth (pfV V) (hom V p)) _ r = _
    rw [addTo_at _ _ (pth_nodup hO.tree k1 k2)]
    by_cases h : r ∈ pth (pfV V) (hom V p)
    · simp [h]
    · simp [h]
  · intro r hr htr
    rw [pTerm_v hH hp ht]
    have e : pTerm (buryV V p) ((buryV V p).1 29) r p = 0 := by
      unfold pTerm
      rw [buryV_24, upd_s]
      rfl
    rw [e]
    by_cases h : r ∈ pth (pfV V) (hom V p)
    · rw [if_pos h, if_pos h]
      exact (Int32.add_right_neg _).symm
    · rw [if_neg h, if_neg h]; rfl
theorem HomOK.bury (hH : HomOK V) (p : Nat) : HomOK (buryV V p) := by
  intro q hq ht
  have e : (buryV V p).1 24 q = upd (V.1 24) p (-1) q := rfl
  by_cases h : q = p
  · subst h
    have : phV (buryV V q) q = false := by
      unfold phV
      rw [e, upd_s]
      rfl
    rw [this] at ht; cases ht
  · have ht' : phV V q = true := by
      unfold phV at ht ⊢
      rw [e, upd_ne _ _ h] at ht
      exact ht
    obtain ⟨g, h1, h2, h3⟩ := hH q hq ht'
    exact ⟨g, h1, h2, by rw [e, upd_ne _ _ h]; exact h3⟩
theorem HomOK.relo (hH : HomOK V) {p g : Nat} (hg : g < 12) (htg : thV V g = true) : HomOK (reloV V p g) := by
  intro q hq ht
  have e : (reloV V p g).1 24 q = upd (V.1 24) p (nI g) q := rfl
  by_cases h : q = p
  · subst h
    exact ⟨g, hg, htg, by rw [e, upd_s]⟩
  · have ht' : phV V q = true := by
      unfold phV at ht ⊢
      rw [e, upd_ne _ _ h] at ht
      exact ht
    obtain ⟨g, h1, h2, h3⟩ := hH q hq ht'
    exact ⟨g, h1, h2, by rw [e, upd_ne _ _ h]; exact h3⟩
theorem add_sub_i (a b c : Int32) : a + -b + (b + c) = a + c := by
  rw [Int32.add_assoc, ← Int32.add_assoc (-b), Int32.add_left_neg, Int32.zero_add]
theorem two_paths (f : Nat → Int32) {l m : List Nat} (hl : l.Nodup) (hm : m.Nodup) (d : Int32) (r : Nat) : addTo (addTo f l (-d)) m d r = f r + ((if r ∈ l then -d else 0) + (if r ∈ m then d else 0)) := by
  rw [addTo_at _ _ hm, addTo_at _ _ hl]
  by_cases h1 : r ∈ l
  · by_cases h2 : r ∈ m
    · simp only [h1, h2, if_true, Int32.add_assoc]
    · simp only [h1, h2, if_true, if_false, Int32.add_zero]
  · by_cases h2 : r ∈ m
    · simp only [h1, h2, if_true, if_false, Int32.zero_add]
    · simp only [h1, h2, if_false, Int32.add_zero]
theorem term_move (a c d : Int32) : c = a + (-a + c) := by rw [← Int32.add_assoc, Int32.add_right_neg, Int32.zero_add]
theorem relo_terms {x y : Prop} [Decidable x] [Decidable y] (d : Int32) : (if y then d else 0) = (if x then d else 0) + ((if x then -d else 0) + (if y then d else 0)) := by
  by_cases h1 : x
  · simp only [h1, if_true]; exact term_move _ _ d
  · simp only [h1, if_false, Int32.zero_add]
theorem TotOK.relo (hT : TotOK V) (hO : OrdOK V n o) (hH : HomOK V) {p g : Nat} (hp : p < 16) (ht : phV V p = true) (hg : g < 12) (htg : thV V g = true) : TotOK (reloV V p g) := by
  obtain ⟨k1, k2, k3⟩ := hH.at hp ht
  have hH' := hH.relo (p := p) hg htg
  have e1 : phV (reloV V p g) p = true := by
    show decide (upd (V.1 24) p (nI g) p ≠ -1) = true
    rw [upd_s]; exact decide_eq_true (nI_ne1 (by omega))
  have e3 : hom (reloV V p g) p = g := by
    show (upd (V.1 24) p (nI g) p).toNatClampNeg = g
    rw [upd_s, nI_clamp (by omega)]
  refine TotOK.proc (p := p) (dt := fun r => (if r ∈ pth (pfV V) (hom V p) then -heldV V p else 0) + (if r ∈ pth (pfV V) g then heldV V p else 0)) hT rfl rfl hp ?_ ?_ ?_
  · intro q hq hne
    exact ⟨upd_ne _ _ hne, rfl⟩
  · intro r hr htr
    exact two_paths _ (pth_nodup hO.tree k1 k2) (pth_nodup hO.tree hg htg) _ r
  · intro r hr htr
    rw [pTerm_v hH hp ht, pTerm_v hH' hp e1, e3]
    exact relo_terms (heldV V p)
theorem OutOK.relo (hT : OutOK V) (hO : OrdOK V n o) (hH : HomOK V) {p g : Nat} (hp : p < 16) (ht : phV V p = true) (hg : g < 12) (htg : thV V g = true) : OutOK (reloV V p g) := by
  obtain ⟨k1, k2, k3⟩ := hH.at hp ht
  have hH' := hH.relo (p := p) hg htg
  have e1 : phV (reloV V p g) p = true := by
    show decide (upd (V.1 24) p (nI g) p ≠ -1) = true
    rw [upd_s]; exact decide_eq_true (nI_ne1 (by omega))
  have e3 : hom (reloV V p g) p = g := by
    show (upd (V.1 24) p (nI g) p).toNatClampNeg = g
    rw [upd_s, nI_clamp (by omega)]
  refine OutOK.proc (p := p) (dt := fun r => (if r ∈ pth (pfV V) (hom V p) then -V.1 29 p else 0) + (if r ∈ pth (pfV V) g then V.1 29 p else 0)) hT rfl hp ?_ ?_ ?_
  · intro q hq hne
    exact ⟨upd_ne _ _ hne, rfl⟩
  · intro r hr htr
    exact two_paths _ (pth_nodup hO.tree k1 k2) (pth_nodup hO.tree hg htg) _ r
  · intro r hr htr
    rw [pTerm_v hH hp ht, pTerm_v hH' hp e1, e3]
    exact relo_terms (V.1 29 p)
/-! the class's methods -/
theorem s_addPages (hP : LW w P) (hO : OrdOK V n o) (hH : HomOK V) {p k : Nat} (hp : p < 16) (ht : phV V p = true) (hk : k < 2) (d : Int32) : F_X8_addPages (P V) w (nI p) (nI k) d = some (P (pgsA V p k d)) := by
  obtain ⟨k1, k2, k3⟩ := hH.at hp ht
  have hk' : k = 0 ∨ k = 1 := by omega
  have hO' : OrdOK (sx V (27 + k) (upd (V.1 (27 + k)) p (V.1 (27 + k) p + d))) n o := by rcases hk' with rfl | rfl <;> exact hO
  have ht' : thV (sx V (27 + k) (upd (V.1 (27 + k)) p (V.1 (27 + k) p + d))) (hom V p) = true := by rcases hk' with rfl | rfl <;> exact k2
  have h := s_addTotal hP.lt hO' k1 ht' d
  have e24 : (sx V (27 + k) (upd (V.1 (27 + k)) p (V.1 (27 + k) p + d))).1 24 p = nI (hom V p) := by rcases hk' with rfl | rfl <;> exact k3
  unfold F_X8_addPages
  simp only [ol hP.lo, cl hP.lc, tl hP.lt, hp, hk, Option.bind_some, e24, h]
  unfold pgsA
  rcases hk' with rfl | rfl <;> rfl
theorem s_swapOut (hP : LW w P) (hO : OrdOK V n o) (hH : HomOK V) {p : Nat} (hp : p < 16) (ht : phV V p = true) (d : Int32) : F_X8_swapOut (P V) w (nI p) d = some (P (swpA V p d)) := by
  obtain ⟨k1, k2, k3⟩ := hH.at hp ht
  have hO' : OrdOK (sx V 29 (upd (V.1 29) p (V.1 29 p + d))) n o := hO
  have h := s_addOut hP.lt hO' k1 k2 d
  have e24 : (sx V 29 (upd (V.1 29) p (V.1 29 p + d))).1 24 p = nI (hom V p) := k3
  unfold F_X8_swapOut
  simp only [ol hP.lo, cl hP.lc, tl hP.lt, hp, Option.bind_some, e24, h]
  rfl
theorem s_bury (hP : LW w P) (hO : OrdOK V n o) (hH : HomOK V) {p : Nat} (hp : p < 16) (ht : phV V p = true) : F_X8_bury (P V) w (nI p) = some (P (buryV V p)) := by
  obtain ⟨k1, k2, k3⟩ := hH.at hp ht
  have h1 := s_addTotal hP.lt hO k1 k2 (-heldV V p)
  have hO' : OrdOK (sx V 15 (addTo (V.1 15) (pth (pfV V) (hom V p)) (-heldV V p))) n o := hO
  have h2 := s_addOut hP.lt hO' k1 k2 (-V.1 29 p)
  have e24 : (sx V 15 (addTo (V.1 15) (pth (pfV V) (hom V p)) (-heldV V p))).1 24 p = nI (hom V p) := k3
  have e29 : (sx V 15 (addTo (V.1 15) (pth (pfV V) (hom V p)) (-heldV V p))).1 29 p = V.1 29 p := rfl
  unfold F_X8_bury
  simp only [ol hP.lo, cl hP.lc, tl hP.lt, s_held hP.lc hp, hp, Option.bind_some, k3, h1, e24, e29, h2, s_putP hP.lc hp]
  rfl
theorem s_relocate (hP : LW w P) (hO : OrdOK V n o) (hH : HomOK V) {p g : Nat} (hp : p < 16) (ht : phV V p = true) (hg : g < 12) (htg : thV V g = true) : F_X8_relocate (P V) w (nI p) (nI g) = some (P (reloV V p g)) := by
  obtain ⟨k1, k2, k3⟩ := hH.at hp ht
  have h1 : F_X6_addTotal (P V) (w + 1) (nI (hom V p)) (-heldV V p) = some (P (reA V p)) := s_addTotal hP.lt hO k1 k2 (-heldV V p)
  have h2 : F_X6_addOut (P (reA V p)) (w + 1) (nI (hom V p)) (-V.1 29 p) = some (P (reB V p)) := s_addOut (V := reA V p) hP.lt hO k1 k2 (-V.1 29 p)
  have e24 : (reA V p).1 24 p = nI (hom V p) := k3
  have e29 : (reA V p).1 29 p = V.1 29 p := rfl
  have h3 : sI (P (reB V p)) (w + 24) (nI p) (nI g) = some (P (reC V p g)) := by
    simp only [cl hP.lc, hp]; rfl
  have h4 : F_X6_addTotal (P (reC V p g)) (w + 1) (nI g) (heldV V p) = some (P (reD V p g)) := s_addTotal (V := reC V p g) hP.lt hO hg htg (heldV V p)
  have e5 : heldV (reC V p g) p = heldV V p := rfl
  have e6 : (reD V p g).1 29 p = V.1 29 p := rfl
  have h5 : F_X6_addOut (P (reD V p g)) (w + 1) (nI g) (V.1 29 p) = some (P (reloV V p g)) := s_addOut (V := reD V p g) hP.lt hO hg htg (V.1 29 p)
  unfold F_X8_relocate
  simp only [h3, ol hP.lo, cl hP.lc, tl hP.lt, s_held hP.lc hp, hp, Option.bind_some, k3, h1, h2, e24, e29, h4, e5, e6, h5]
theorem s_giveS {W : WV} (hP : LW w P) (hO : OrdOK W n o) {g : Nat} (hg : g < 12) (ht : thV W g = true) (m : Int32) :
    ((gR (P W) w 8 0).bind fun a5 =>
    (cO (P W) a5 6 (F_X6_addStock (P W) a5 (nI g) m)).bind fun h6 =>
    (gR h6 w 8 0).bind fun a7 =>
    (gR h6 a7 6 4).bind fun a8 =>
    (aI h6 a8 (nI g)).bind fun v9 =>
    (gI h6 w 8 4).bind fun v10 =>
    if v9 ≤ v10 then (
    some h6) else (
    (gR h6 w 8 0).bind fun a11 =>
    (gR h6 w 8 0).bind fun a12 =>
    (gR h6 a12 6 4).bind fun a13 =>
    (aI h6 a13 (nI g)).bind fun v14 =>
    (cO h6 a11 6 (F_X6_addStock h6 a11 (nI g) (-v14))).bind fun h15 =>
    some h15)) = some (P (giveS W g m)) := by
  have h2 : F_X6_addStock (P W) (w + 1) (nI g) m = some (P (stkA W g m)) := s_addStock hP.lt hO hg ht m
  have hO2 : OrdOK (stkA W g m) n o := hO
  have h3 : ∀ d, F_X6_addStock (P (stkA W g m)) (w + 1) (nI g) d = some (P (stkA (stkA W g m) g d)) := fun d => s_addStock hP.lt hO2 hg ht d
  have e04 : (stkA W g m).1 0 4 = W.1 0 4 := rfl
  simp only [ol hP.lo, tl hP.lt, hg, Option.bind_some, h2, h3, e04]
  unfold giveS
  by_cases hc : (stkA W g m).1 14 g ≤ W.1 0 4
  · rw [if_pos hc, if_pos hc]
  · rw [if_neg hc, if_neg hc]
theorem s_giveBack (hP : LW w P) (hO : OrdOK V n o) (hH : HomOK V) {p k : Nat} (hp : p < 16) (ht : phV V p = true) (hk : k < 2) (m : Int32) : F_X8_giveBack (P V) w (nI p) (nI k) m = some (P (giveV V p k m)) := by
  obtain ⟨k1, k2, k3⟩ := hH.at hp ht
  have hk' : k = 0 ∨ k = 1 := by omega
  have hO1 : OrdOK (pgsA V p k (-m)) n o := by rcases hk' with rfl | rfl <;> exact hO
  have ht1 : thV (pgsA V p k (-m)) (hom V p) = true := by rcases hk' with rfl | rfl <;> exact k2
  unfold F_X8_giveBack
  rw [(ol hP.lo).2.2.1 V, Option.bind_some, (cl hP.lc).2.1 V, Option.bind_some]
  simp only [cl hP.lc, hp, Option.bind_some, k3]
  rw [(ol hP.lo).1, s_addPages hP hO hH hp ht hk, Option.bind_some]
  exact s_giveS hP hO1 k1 ht1 m
end WOPS
