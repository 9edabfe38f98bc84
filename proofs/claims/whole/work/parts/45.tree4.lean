theorem sx_comm (V : WV) {a b : Nat} (h : a ≠ b) (f g : Nat → Int32) : sx (sx V a f) b g = sx (sx V b g) a f := by
  simp only [sx]
  congr 1
  funext k
  by_cases e : k = b
  · subst e; simp [va_up, h.symm]
  · simp [va_up, e]
theorem sx4 (V : WV) {a b : Nat} (h : a ≠ b) (f g f' g' : Nat → Int32) : sx (sx (sx (sx V a f) b g) a f') b g' = sx (sx V a f') b g' := by
  rw [sx_comm (sx V a f) h.symm, sx_sx, sx_sx]
section TREE4
variable {V : WV} {n : Nat} {o : Nat → Nat} {w : Nat} {P : WV → Hp}
theorem h12I : (12 : Int32) = nI 12 := rfl
theorem h16I : (16 : Int32) = nI 16 := rfl
theorem h9I : (9 : Int32) = nI 9 := rfl
theorem h4I : (4 : Int32) = nI 4 := rfl
theorem h3I : (3 : Int32) = nI 3 := rfl
theorem h2I : (2 : Int32) = nI 2 := rfl
theorem h1I : (1 : Int32) = nI 1 := rfl
theorem h0I : (0 : Int32) = nI 0 := rfl
/-- the lowest that is free, as the programs tell it -/
def ffI (n : Nat) (th : Nat → Bool) : Option Nat := (List.range n).find? (fun g => !th g)
theorem s_firstFree (hP : LT w P) : F_X6_firstFree (P V) (w + 1) = some (match ffI 12 (thV V) with | none => -1 | some g => nI g) := by
  have key := loop_first (st := fun x => F_X6_firstFree_L2 (P V) (w + 1) x) (fun i => nI i) (fun i => if (fun g => !thV V g) i then some (.inl (nI i)) else none) (.inr ()) 12
    (fun i hi => by
      show F_X6_firstFree_L2 (P V) (w + 1) (nI i) = _
      unfold F_X6_firstFree_L2
      rw [h12I, if_neg (nI_ge hi (by decide))]
      simp only [tl hP, Option.bind_some, hi, bl, nI_1, thV]
      by_cases h : V.1 2 i = -2
      · simp [h]
      · simp [h])
    (by
      show F_X6_firstFree_L2 (P V) (w + 1) (nI 12) = _
      unfold F_X6_firstFree_L2
      rw [h12I, if_pos (nI_le (Nat.le_refl _) (by decide))])
    12 0 6000 (by decide) (by decide)
  unfold F_X6_firstFree
  rw [h0I, key, find_some, ← List.range_eq_range']
  unfold ffI
  cases (List.range 12).find? (fun g => !thV V g) <;> rfl
theorem s_addStock (hP : LT w P) (hO : OrdOK V n o) {g : Nat} (hg : g < 12) (ht : thV V g = true) (d : Int32) : F_X6_addStock (P V) (w + 1) (nI g) d = some (P (sx (sx V 14 (upd (V.1 14) g (V.1 14 g + d))) 15 (addTo (V.1 15) (pth (pfV V) g) d))) := by
  have hO' : OrdOK (sx V 14 (upd (V.1 14) g (V.1 14 g + d))) n o := hO
  have h := s_addTotal hP hO' hg ht d
  unfold F_X6_addStock
  simp only [tl hP, Option.bind_some, hg]
  rw [h]
  rfl
/-- what is charged in and below a group -/
def totF (V : WV) (r : Nat) : Int32 := smI (List.range 12) (fun g => if thV V g && blw (pfV V) r g then V.1 14 g else 0) + smI (List.range 16) (fun p => if decide (V.1 24 p ≠ -1) && blw (pfV V) r (V.1 24 p).toNatClampNeg then V.1 27 p + V.1 28 p else 0)
def outF (V : WV) (r : Nat) : Int32 := smI (List.range 16) (fun p => if decide (V.1 24 p ≠ -1) && blw (pfV V) r (V.1 24 p).toNatClampNeg then V.1 29 p else 0)
def TotOK (V : WV) : Prop := ∀ r, r < 12 → thV V r = true → V.1 15 r = totF V r
def OutOK (V : WV) : Prop := ∀ r, r < 12 → thV V r = true → V.1 16 r = outF V r
theorem smI_upd {f g : Nat → Int32} {i : Nat} {d : Int32} {l : List Nat} (hl : l.Nodup) (hi : i ∈ l) (h1 : g i = f i + d) (h2 : ∀ x ∈ l, x ≠ i → g x = f x) : smI l g = smI l f + d := by
  have e : smI l g = smI l (fun x => f x + (if x = i then d else 0)) := smI_cong fun x hx => by
    by_cases e : x = i
    · subst e; simp [h1]
    · simp [e, h2 x hx e]
  rw [e, smI_add, smI_one hl, if_pos hi]
theorem i32_acd (a b d : Int32) : a + b + d = a + d + b := by rw [Int32.add_assoc, Int32.add_comm b, ← Int32.add_assoc]
/-- stock more by d, all totals of the path too: totals stay right -/
theorem TotOK.stock (hT : TotOK V) (hO : OrdOK V n o) {g : Nat} (hg : g < 12) (ht : thV V g = true) (d : Int32) : TotOK (sx (sx V 14 (upd (V.1 14) g (V.1 14 g + d))) 15 (addTo (V.1 15) (pth (pfV V) g) d)) := by
  intro r hr htr
  have htr' : thV V r = true := htr
  have hL : (sx (sx V 14 (upd (V.1 14) g (V.1 14 g + d))) 15 (addTo (V.1 15) (pth (pfV V) g) d)).1 15 r = if r ∈ pth (pfV V) g then totF V r + d else totF V r := by
    rw [← hT r hr htr', ← addTo_at _ _ (pth_nodup hO.tree hg ht)]; rfl
  have hR : totF (sx (sx V 14 (upd (V.1 14) g (V.1 14 g + d))) 15 (addTo (V.1 15) (pth (pfV V) g) d)) r = smI (List.range 12) (fun x => if thV V x && blw (pfV V) r x then upd (V.1 14) g (V.1 14 g + d) x else 0) + smI (List.range 16) (fun p => if decide (V.1 24 p ≠ -1) && blw (pfV V) r (V.1 24 p).toNatClampNeg then V.1 27 p + V.1 28 p else 0) := rfl
  rw [hL, hR]
  by_cases hb : r ∈ pth (pfV V) g
  · have e : smI (List.range 12) (fun x => if thV V x && blw (pfV V) r x then upd (V.1 14) g (V.1 14 g + d) x else 0) = smI (List.range 12) (fun x => if thV V x && blw (pfV V) r x then V.1 14 x else 0) + d := by
      refine smI_upd List.nodup_range (List.mem_range.mpr hg) ?_ (fun x hx hne => ?_)
      · simp [ht, blw, hb, upd]
      · simp [upd, hne]
    rw [if_pos hb, e]
    exact i32_acd _ _ _
  · have e : smI (List.range 12) (fun x => if thV V x && blw (pfV V) r x then upd (V.1 14) g (V.1 14 g + d) x else 0) = smI (List.range 12) (fun x => if thV V x && blw (pfV V) r x then V.1 14 x else 0) := by
      refine smI_cong fun x hx => ?_
      by_cases e : x = g
      · subst e; simp [blw, hb]
      · simp [upd, e]
    rw [if_neg hb, e]
    rfl
theorem smI_succ (f : Nat → Int32) (i : Nat) : smI (List.range (i + 1)) f = smI (List.range i) f + f i := by
  have h : ∀ (l : List Nat), smI (l ++ [i]) f = smI l f + f i := by
    intro l
    induction l with
    | nil => simp [smI]
    | cons x l ih => rw [List.cons_append, smI_cons, smI_cons, ih, Int32.add_assoc]
  rw [List.range_succ, h]
/-- the stocks below a group, all together -/
def stkF (V : WV) (r : Nat) : Int32 := smI (List.range 12) (fun g => if thV V g && blw (pfV V) r g then V.1 14 g else 0)
def noStk (V : WV) (r : Nat) : Nat → Int32 := fun g => if g < 12 ∧ thV V g = true ∧ blw (pfV V) r g = true then 0 else V.1 14 g
theorem s_emptyStocks (hP : LT w P) (hO : OrdOK V n o) (hT : TotOK V) (hS : ∀ g, g < 12 → thV V g = true → 0 ≤ V.1 14 g) {r : Nat} (hr : r < 12) (ht : thV V r = true) :
    ∃ t, F_X6_emptyStocks (P V) (w + 1) (nI r) = some (stkF V r, P (sx (sx V 14 (noStk V r)) 15 t)) ∧ TotOK (sx (sx V 14 (noStk V r)) 15 t) := by
  obtain ⟨a, ha, hI⟩ := loop_inv (st := fun x => F_X6_emptyStocks_L11 (w + 1) (mkB 12 (fun g => thV V g && blw (pfV V) r g)) x.1 x.2.1 x.2.2) (fun i (a : Int32 × (Nat → Int32) × (Nat → Int32)) => (a.1, nI i, P (sx (sx V 14 a.2.1) 15 a.2.2))) (fun a => (a.1, P (sx (sx V 14 a.2.1) 15 a.2.2)))
    (fun i a => a.1 = smI (List.range i) (fun g => if thV V g && blw (pfV V) r g then V.1 14 g else 0) ∧ a.2.1 = (fun g => if g < i ∧ thV V g = true ∧ blw (pfV V) r g = true then 0 else V.1 14 g) ∧ TotOK (sx (sx V 14 a.2.1) 15 a.2.2)) 12
    (fun i a hi hI => by
      obtain ⟨h1, h2, h3⟩ := hI
      have hbt : bt (mkB 12 (fun g => thV V g && blw (pfV V) r g)) i = (thV V i && blw (pfV V) r i) := by
        rw [bt_mkB (by decide) (by omega)]; simp [hi]
      have hU : (sx (sx V 14 a.2.1) 15 a.2.2).1 14 = a.2.1 := rfl
      have hai : a.2.1 i = V.1 14 i := by rw [h2]; simp
      have hO' : OrdOK (sx (sx V 14 a.2.1) 15 a.2.2) n o := hO
      by_cases hb : (thV V i && blw (pfV V) r i) = true
      · obtain ⟨hti, hbi⟩ := Bool.and_eq_true_iff.mp hb
        by_cases hz : V.1 14 i ≤ 0
        · have h0 : V.1 14 i = 0 := Int32.le_antisymm hz (hS i hi hti)
          refine ⟨a, ?_, ?_, ?_, h3⟩
          · show F_X6_emptyStocks_L11 (w + 1) _ a.1 (nI i) (P _) = _
            unfold F_X6_emptyStocks_L11
            rw [h12I, if_neg (nI_ge hi (by decide)), if_pos ((bit_iff (by omega)).mpr (hbt.trans hb))]
            simp only [tl hP, Option.bind_some, hi, bl, nI_1, hU, hai, if_pos hz]
          · rw [h1, smI_succ, hb, if_pos rfl, h0, Int32.add_zero]
          · rw [h2]
            funext g
            by_cases e : g = i
            · subst e; simp [h0]
            · have : g < i + 1 ↔ g < i := by omega
              simp [this]
        · refine ⟨(a.1 + V.1 14 i, upd a.2.1 i (a.2.1 i + -V.1 14 i), addTo a.2.2 (pth (pfV V) i) (-V.1 14 i)), ?_, ?_, ?_, ?_⟩
          · show F_X6_emptyStocks_L11 (w + 1) _ a.1 (nI i) (P _) = _
            unfold F_X6_emptyStocks_L11
            rw [h12I, if_neg (nI_ge hi (by decide)), if_pos ((bit_iff (by omega)).mpr (hbt.trans hb))]
            simp only [tl hP, Option.bind_some, hi, bl, nI_1, hU, hai, if_neg hz]
            rw [s_addStock hP hO' hi hti, sx4 _ (by decide), hU, hai]
            rfl
          · rw [smI_succ, hb, if_pos rfl, ← h1]
          · rw [h2]
            funext g
            by_cases e : g = i
            · subst e; simp [upd, hti, hbi, Int32.add_right_neg]
            · have : g < i + 1 ↔ g < i := by omega
              simp [upd, e, this]
          · exact TotOK.stock h3 hO' hi hti (-V.1 14 i)
      · refine ⟨a, ?_, ?_, ?_, h3⟩
        · show F_X6_emptyStocks_L11 (w + 1) _ a.1 (nI i) (P _) = _
          unfold F_X6_emptyStocks_L11
          rw [h12I, if_neg (nI_ge hi (by decide)), if_neg (fun q => hb (hbt.symm.trans ((bit_iff (by omega)).mp q)))]
          simp only [bl, nI_1]
        · rw [h1, smI_succ, if_neg hb, Int32.add_zero]
        · rw [h2]
          funext g
          by_cases e : g = i
          · subst e
            simp only [Bool.and_eq_true] at hb
            simp [hb]
          · have : g < i + 1 ↔ g < i := by omega
            simp [this])
    (fun a hI => by
      show F_X6_emptyStocks_L11 (w + 1) _ a.1 (nI 12) _ = _
      unfold F_X6_emptyStocks_L11
      rw [h12I, if_pos (nI_le (Nat.le_refl _) (by decide))])
    12 0 6000 (0, V.1 14, V.1 15) (by decide) (by decide) ⟨rfl, by funext g; simp, by
      show TotOK (sx (sx V 14 (V.1 14)) 15 (V.1 15))
      rw [sx_id, sx_id]; exact hT⟩
  obtain ⟨h1, h2, h3⟩ := hI
  have e2 : a.2.1 = noStk V r := h2
  refine ⟨a.2.2, ?_, by rw [← e2]; exact h3⟩
  have ha' : loopF (fun x => F_X6_emptyStocks_L11 (w + 1) (mkB 12 (fun g => thV V g && blw (pfV V) r g)) x.1 x.2.1 x.2.2) 6000 (0, 0, P V) = some (a.1, P (sx (sx V 14 a.2.1) 15 a.2.2)) := by
    rw [← ha]
    show _ = loopF _ 6000 (0, nI 0, P (sx (sx V 14 (V.1 14)) 15 (V.1 15)))
    rw [sx_id, sx_id]; rfl
  unfold F_X6_emptyStocks
  simp only [tl hP, s_bits hP hO hr ht, Option.bind_some, ha', bl]
  rw [h1, e2]
  rfl
end TREE4
