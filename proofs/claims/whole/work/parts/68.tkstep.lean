/-! one step of taking -/
def tkV (V : WV) (p k : Nat) (i : Int32) : WV := if k = 0 then swpA (pgsA V p k (-i)) p i else pgsA V p k (-i)
def itsF (V : WV) (lv r k g p : Nat) (L : Int32) : Int32 := mnI (mnI 4 L) (mnI (sprF V lv r k g) (V.1 (27 + k) p))
def tkS (V : WV) (r lv k : Nat) (L : Int32) : Option (WV × Int32) := if (nxtF V lv r k).1 = -1 then none else match mstF V (nxtF V lv r k).1.toNatClampNeg k with
  | none => none
  | some p => some (tkV V p k (itsF V lv r k (nxtF V lv r k).1.toNatClampNeg p L), itsF V lv r k (nxtF V lv r k).1.toNatClampNeg p L)
def swpI (V : WV) : Int := isum 16 (fun p => if phV V p then (V.1 29 p).toInt else 0)
/-- what is out is no more than what can be -/
def SwN (V : WV) : Prop := swpI V ≤ (V.1 0 5).toInt ∧ (V.1 0 5).toInt ≤ 999
def TI (V : WV) (n : Nat) (o : Nat → Nat) : Prop := Cor V n o ∧ Num V ∧ LimR V ∧ SwN V
section TKS
variable {V Q : WV} {n : Nat} {o : Nat → Nat}
theorem fold_inv {α : Type} {f : α → Nat → α} (I : α → Prop) : ∀ (l : List Nat) (a : α), I a → (∀ a x, x ∈ l → I a → I (f a x)) → I (l.foldl f a)
  | [], _, h, _ => h
  | x :: l, a, h, hs => fold_inv I l (f a x) (hs a x List.mem_cons_self h) (fun a y hy => hs a y (List.mem_cons_of_mem _ hy))
theorem rich_sp {qf : Nat → Bool} {f : Nat → Int32} (l : List Nat) : richF qf f l = (-1, 0) ∨ ∃ p, p ∈ l ∧ qf p = true ∧ richF qf f l = (nI p, f p) ∧ 0 < (f p).toInt := by
  unfold richF
  refine fold_inv (fun a => a = (-1, 0) ∨ ∃ p, p ∈ l ∧ qf p = true ∧ a = (nI p, f p) ∧ 0 < (f p).toInt) l _ (Or.inl rfl) (fun a x hx hI => ?_)
  by_cases hc : (qf x && decide (¬ f x ≤ a.2)) = true
  · simp only [hc, if_true]
    obtain ⟨h1, h2⟩ := Bool.and_eq_true_iff.mp hc
    have h2' : ¬ f x ≤ a.2 := of_decide_eq_true h2
    right
    refine ⟨x, hx, h1, rfl, ?_⟩
    have h3 : a.2.toInt < (f x).toInt := Int.not_le.mp (fun z => h2' (ti_le.mpr z))
    rcases hI with h | ⟨p, -, -, h, hp⟩
    · rw [h, ti_0] at h3; exact h3
    · rw [h] at h3
      have h3' : (f p).toInt < (f x).toInt := h3
      omega
  · simp only [hc]
    exact hI
theorem rich_mst {g k : Nat} (hg : g < 2 ^ 31) : ∀ i, ((richF (fun p => decide (V.1 24 p = nI g)) (V.1 (27 + k)) (List.range i) = (-1, 0) ∧ (∀ q, (List.range i).foldl (mstS V g k) none = some q → (V.1 (27 + k) q).toInt ≤ 0) ∧ ∀ x, x < i → V.1 24 x = nI g → (V.1 (27 + k) x).toInt ≤ 0) ∨ (∃ q, (List.range i).foldl (mstS V g k) none = some q ∧ richF (fun p => decide (V.1 24 p = nI g)) (V.1 (27 + k)) (List.range i) = (nI q, V.1 (27 + k) q) ∧ 0 < (V.1 (27 + k) q).toInt))
  | 0 => Or.inl ⟨rfl, (fun q h => by cases h), fun x hx => by omega⟩
  | i + 1 => by
    have ih := rich_mst (k := k) hg i
    have e1 : richF (fun p => decide (V.1 24 p = nI g)) (V.1 (27 + k)) (List.range (i + 1)) = if (decide (V.1 24 i = nI g) && decide (¬ V.1 (27 + k) i ≤ (richF (fun p => decide (V.1 24 p = nI g)) (V.1 (27 + k)) (List.range i)).2)) = true then (nI i, V.1 (27 + k) i) else richF (fun p => decide (V.1 24 p = nI g)) (V.1 (27 + k)) (List.range i) := by
      unfold richF
      rw [List.range_succ, List.foldl_append]; rfl
    have e2 : (List.range (i + 1)).foldl (mstS V g k) none = mstS V g k ((List.range i).foldl (mstS V g k) none) i := by
      rw [List.range_succ, List.foldl_append]; rfl
    rw [e1, e2]
    by_cases hc : V.1 24 i = nI g
    · have hph : phV V i = true := by simp only [phV, hc]; exact decide_eq_true (nI_ne1 hg)
      have hm : ∀ a, mstS V g k a i = match a with | none => some i | some q => if V.1 (27 + k) i ≤ V.1 (27 + k) q then some q else some i := fun a => by
        unfold mstS
        rw [hph, hc]; simp
        cases a <;> rfl
      rw [hm]
      rcases ih with ⟨h1, h2, h3⟩ | ⟨q, h1, h2, h3⟩
      · rw [h1]
        by_cases h0 : (V.1 (27 + k) i).toInt ≤ 0
        · have : V.1 (27 + k) i ≤ 0 := ti_le.mpr h0
          left
          refine ⟨by simp [this], fun q hq => ?_, fun x hx hx2 => ?_⟩
          · cases hf : (List.range i).foldl (mstS V g k) none with
            | none => rw [hf] at hq; cases hq; exact h0
            | some y =>
              rw [hf] at hq
              simp only at hq
              split at hq
              · cases hq; exact h2 _ hf
              · cases hq; exact h0
          · by_cases ex : x = i
            · subst ex; exact h0
            · exact h3 x (by omega) hx2
        · have hn : ¬ V.1 (27 + k) i ≤ 0 := fun z => h0 (ti_le.mp z)
          right
          refine ⟨i, ?_, by simp [hc, hn], by omega⟩
          cases hf : (List.range i).foldl (mstS V g k) none with
          | none => rfl
          | some y =>
            have := h2 y hf
            have hny : ¬ V.1 (27 + k) i ≤ V.1 (27 + k) y := fun z => by have := ti_le.mp z; omega
            simp only [if_neg hny]
      · rw [h1, h2]
        by_cases hle : V.1 (27 + k) i ≤ V.1 (27 + k) q
        · right; exact ⟨q, by simp [hle], by simp [hle], h3⟩
        · right
          refine ⟨i, by simp [hle], by simp [hc, hle], ?_⟩
          have := fun z => hle (ti_le.mpr z)
          have : (V.1 (27 + k) q).toInt < (V.1 (27 + k) i).toInt := Int.not_le.mp this
          omega
    · have hm : ∀ a, mstS V g k a i = a := fun a => by
        unfold mstS
        simp [hc]
      rw [hm]
      simp only [hc, decide_false, Bool.false_and, Bool.false_eq_true, if_false]
      rcases ih with ⟨h1, h2, h3⟩ | h
      · exact Or.inl ⟨h1, h2, fun x hx hx2 => by
          by_cases ex : x = i
          · subst ex; exact absurd hx2 hc
          · exact h3 x (by omega) hx2⟩
      · exact Or.inr h
/-- where some is to be had: from whom -/
theorem tk_some (hN : Num V) {lv r k : Nat} (hk : k < 2) (hx : ¬ (nxtF V lv r k).1 = -1) : ∃ g p, g < 12 ∧ thV V g = true ∧ blw (pfV V) r g = true ∧ (nxtF V lv r k).1 = nI g ∧ 0 < (sprF V lv r k g).toInt ∧ mstF V g k = some p ∧ (richF (fun p => decide (V.1 24 p = nI g)) (V.1 (27 + k)) (List.range 16)).1 = nI p ∧ p < 16 ∧ phV V p = true ∧ V.1 24 p = nI g ∧ 0 < (V.1 (27 + k) p).toInt := by
  rcases rich_sp (qf := fun g => thV V g && blw (pfV V) r g) (f := sprF V lv r k) (List.range 12) with h | ⟨g, h1, h2, h3, h4⟩
  · exact absurd (by show (richF _ _ _).1 = -1; rw [h]) hx
  · have hg := List.mem_range.mp h1
    obtain ⟨h5, h6⟩ := Bool.and_eq_true_iff.mp h2
    rcases rich_mst (V := V) (k := k) (g := g) (by omega) 16 with ⟨m1, m2, m3⟩ | ⟨p, m1, m2, m3⟩
    · -- nobody has any: then nothing is to be had
      have hs : sprF V lv r k g ≤ pgIn V (nI g) k := (sprF_le.mp (Int32.le_refl _)).1
      have hz : pgIn V (nI g) k = smI (List.range 16) (fun _ => 0) := smI_cong fun p hp => by
        by_cases e : V.1 24 p = nI g
        · rw [if_pos e]
          have hph : phV V p = true := by simp only [phV, e]; exact decide_eq_true (nI_ne1 (by omega))
          have a1 := m3 p (List.mem_range.mp hp) e
          have a2 := hN.2.1 p (List.mem_range.mp hp) hph
          have hk' : k = 0 ∨ k = 1 := by omega
          have a3 : 0 ≤ (V.1 (27 + k) p).toInt := by
            rcases hk' with rfl | rfl
            · exact a2.1
            · exact a2.2.1
          exact Int32.toInt_inj.mp (by rw [ti_0]; omega)
        · rw [if_neg e]
      rw [hz, smI_zero, ti_le, ti_0] at hs
      omega
    · have hp : ∀ v, mstF V g k = some v → v < 16 ∧ phV V v = true ∧ V.1 24 v = nI g := by
        intro v hv
        have : ∀ i, i ≤ 16 → ∀ v, (List.range i).foldl (mstS V g k) none = some v → v < 16 ∧ phV V v = true ∧ V.1 24 v = nI g := fun i hi => by
          refine fold_inv (fun a => ∀ v, a = some v → v < 16 ∧ phV V v = true ∧ V.1 24 v = nI g) (List.range i) none (fun v hv => by cases hv) (fun a x hx hI v hv => ?_)
          have hxi := List.mem_range.mp hx
          unfold mstS at hv
          by_cases hm : (phV V x && decide (V.1 24 x = nI g)) = true
          · rw [if_pos hm] at hv
            have hm' : phV V x = true ∧ V.1 24 x = nI g := by simpa using hm
            cases a with
            | none => cases hv; exact ⟨by omega, hm'⟩
            | some q =>
              simp only at hv
              split at hv
              · cases hv; exact hI _ rfl
              · cases hv; exact ⟨by omega, hm'⟩
          · rw [if_neg hm] at hv
            exact hI v hv
        exact this 16 (Nat.le_refl _) v hv
      obtain ⟨p1, p2, p3⟩ := hp p m1
      exact ⟨g, p, hg, h5, h6, by show (richF _ _ _).1 = _; rw [h3], h4, m1, by rw [m2], p1, p2, p3, m3⟩
theorem its_bd {lv r k g p : Nat} {L : Int32} (h1 : 0 < (sprF V lv r k g).toInt) (h2 : 0 < (V.1 (27 + k) p).toInt) (h3 : 0 < L.toInt) : 0 < (itsF V lv r k g p L).toInt ∧ (itsF V lv r k g p L).toInt ≤ 4 ∧ (itsF V lv r k g p L).toInt ≤ L.toInt ∧ (itsF V lv r k g p L).toInt ≤ (V.1 (27 + k) p).toInt := by
  have e : (4 : Int32).toInt = 4 := rfl
  unfold itsF
  rw [ti_mn, ti_mn, ti_mn, e]
  omega
theorem Cor.pages (h : Cor V n o) {p k : Nat} (hp : p < 16) (ht : phV V p = true) (hk : k < 2) (d : Int32) : Cor (pgsA V p k d) n o := by
  have hk' : k = 0 ∨ k = 1 := by omega
  refine ⟨?_, ?_, h.2.2.1.pages h.1 h.2.1 hp ht hk d, ?_⟩
  · rcases hk' with rfl | rfl <;> exact h.1
  · rcases hk' with rfl | rfl <;> exact h.2.1
  · rcases hk' with rfl | rfl <;> exact h.2.2.2
theorem Cor.swap (h : Cor V n o) {p : Nat} (hp : p < 16) (ht : phV V p = true) (d : Int32) : Cor (swpA V p d) n o := ⟨h.1, h.2.1, h.2.2.1, h.2.2.2.swap h.1 h.2.1 hp ht d⟩
theorem Num.pages (h : Num V) {p k : Nat} (hp : p < 16) (ht : phV V p = true) (hk : k < 2) {d : Int32} (h0 : 0 ≤ (V.1 (27 + k) p).toInt + d.toInt) (h9 : stkI V + pgsI V + d.toInt ≤ 999) : Num (pgsA V p k d) ∧ stkI (pgsA V p k d) = stkI V ∧ pgsI (pgsA V p k d) = pgsI V + d.toInt := by
  have hk' : k = 0 ∨ k = 1 := by omega
  have hh := h.held hp ht
  have hle : (V.1 (27 + k) p).toInt ≤ 999 := by
    rcases hk' with rfl | rfl
    · have : (V.1 27 p).toInt ≤ 999 := by omega
      exact this
    · have : (V.1 28 p).toInt ≤ 999 := by omega
      exact this
  have e2 : thV (pgsA V p k d) = thV V := by rcases hk' with rfl | rfl <;> rfl
  have e3 : phV (pgsA V p k d) = phV V := by rcases hk' with rfl | rfl <;> rfl
  have e14 : (pgsA V p k d).1 14 = V.1 14 := by rcases hk' with rfl | rfl <;> rfl
  have e29 : (pgsA V p k d).1 29 = V.1 29 := by rcases hk' with rfl | rfl <;> rfl
  have hd : d.toInt < 2147483648 := Int32.toInt_lt d
  have hsum : (V.1 (27 + k) p + d).toInt = (V.1 (27 + k) p).toInt + d.toInt := by
    have := h.stk0; have := h.pgs0
    exact ti_add (by omega) (by omega)
  have hq : ∀ q, q ≠ p → (pgsA V p k d).1 27 q = V.1 27 q ∧ (pgsA V p k d).1 28 q = V.1 28 q := fun q hne => by
    rcases hk' with rfl | rfl
    · exact ⟨upd_ne _ _ hne, rfl⟩
    · exact ⟨rfl, upd_ne _ _ hne⟩
  have hpp : ((pgsA V p k d).1 27 p).toInt + ((pgsA V p k d).1 28 p).toInt = (V.1 27 p).toInt + (V.1 28 p).toInt + d.toInt ∧ 0 ≤ ((pgsA V p k d).1 27 p).toInt ∧ 0 ≤ ((pgsA V p k d).1 28 p).toInt := by
    rcases hk' with rfl | rfl
    · have e : (pgsA V p 0 d).1 27 p = V.1 27 p + d := upd_s _ _ _
      have e' : (pgsA V p 0 d).1 28 p = V.1 28 p := rfl
      have hs : (V.1 27 p + d).toInt = (V.1 27 p).toInt + d.toInt := hsum
      have h0' : 0 ≤ (V.1 27 p).toInt + d.toInt := h0
      rw [e, e', hs]; omega
    · have e : (pgsA V p 1 d).1 28 p = V.1 28 p + d := upd_s _ _ _
      have e' : (pgsA V p 1 d).1 27 p = V.1 27 p := rfl
      have hs : (V.1 28 p + d).toInt = (V.1 28 p).toInt + d.toInt := hsum
      have h0' : 0 ≤ (V.1 28 p).toInt + d.toInt := h0
      rw [e, e', hs]; omega
  have s1 : stkI (pgsA V p k d) = stkI V := by unfold stkI; rw [e2, e14]
  have s2 : pgsI (pgsA V p k d) = pgsI V + d.toInt := by
    unfold pgsI
    rw [e3]
    refine isum_upd (k := p) 16 hp ?_ (fun i hi hne => ?_)
    · rw [ht, if_pos rfl, if_pos rfl]; exact hpp.1
    · rw [(hq i hne).1, (hq i hne).2]
  refine ⟨⟨?_, ?_, ?_⟩, s1, s2⟩
  · intro g hg htg
    rw [e14]; rw [e2] at htg; exact h.1 g hg htg
  · intro q hq' htq
    rw [e3] at htq
    rw [e29]
    by_cases e : q = p
    · subst e; exact ⟨hpp.2.1, hpp.2.2, (h.2.1 q hq' htq).2.2⟩
    · rw [(hq q e).1, (hq q e).2]; exact h.2.1 q hq' htq
  · rw [s1, s2]; omega
theorem Num.sw (h : Num V) {p : Nat} (hp : p < 16) (ht : phV V p = true) : 0 ≤ swpI V ∧ (V.1 29 p).toInt ≤ swpI V := by
  have nn : ∀ i, i < 16 → 0 ≤ (if phV V i then (V.1 29 i).toInt else 0) := fun i hi => by
    cases ht : phV V i
    · simp
    · simp only [if_true]; exact (h.2.1 i hi ht).2.2
  have h2 : (if phV V p then (V.1 29 p).toInt else 0) ≤ swpI V := isum_ge (f := fun p => if phV V p then (V.1 29 p).toInt else 0) 16 hp nn
  rw [ht, if_pos rfl] at h2
  exact ⟨isum_nn 16 nn, h2⟩
theorem swap_out (hC : Cor V n o) (h : Num V) (hS : SwN V) : (V.1 16 0).toInt = swpI V ∧ 0 ≤ swpI V := by
  obtain ⟨hO, hH, hT, hU⟩ := hC
  have ht0 : thV V 0 = true := by
    have := hO.th (i := 0) (by have := hO.1; omega)
    rw [hO.2.2.2.1] at this; exact this
  have e : ∀ p, p < 16 → (if decide (V.1 24 p ≠ -1) && blw (pfV V) 0 (V.1 24 p).toNatClampNeg then V.1 29 p else 0 : Int32).toInt = if phV V p then (V.1 29 p).toInt else 0 := fun p hp => by
    show (if phV V p && blw (pfV V) 0 (hom V p) then V.1 29 p else 0 : Int32).toInt = _
    cases ht : phV V p
    · rfl
    · obtain ⟨k1, k2, k3⟩ := hH.at hp ht
      rw [blw_root hO.tree k1 k2]; rfl
  have nn : ∀ i, i < 16 → 0 ≤ (if phV V i then (V.1 29 i).toInt else 0) := fun i hi => by
    cases ht : phV V i
    · simp
    · simp only [if_true]; exact (h.2.1 i hi ht).2.2
  have ec := isum_cong 16 e
  have h1 := hS.1
  have h2 := hS.2
  have h3 : isum 16 (fun p => if phV V p then (V.1 29 p).toInt else 0) = swpI V := rfl
  have key := smI_I (f := fun p => if decide (V.1 24 p ≠ -1) && blw (pfV V) 0 (V.1 24 p).toNatClampNeg then V.1 29 p else 0) 16 (fun i hi => by rw [e i hi]; exact nn i hi) (by rw [ec]; omega)
  rw [hU 0 (by decide) ht0]
  unfold outF
  rw [key, ec]
  exact ⟨rfl, isum_nn 16 nn⟩
theorem TI.step (h : TI V n o) {p k : Nat} (hp : p < 16) (ht : phV V p = true) (hk : k < 2) {i : Int32} (h0 : 0 ≤ i.toInt) (h1 : i.toInt ≤ (V.1 (27 + k) p).toInt) (h2 : k = 0 → swpI V + i.toInt ≤ (V.1 0 5).toInt) : TI (tkV V p k i) n o := by
  obtain ⟨hC, hN, hL, hS⟩ := h
  have hk' : k = 0 ∨ k = 1 := by omega
  have hi : (-i).toInt = -i.toInt := ti_neg (by omega)
  have hn := (hN.pages hp ht hk (d := -i) (by rw [hi]; omega) (by rw [hi]; have := hN.2.2; omega)).1
  have hc := hC.pages hp ht hk (-i)
  unfold tkV
  rcases hk' with rfl | rfl
  · rw [if_pos rfl]
    obtain ⟨w0, w1⟩ := hN.sw hp ht
    have w2 := h2 rfl
    have w3 := hS.2
    have w4 := (hN.2.1 p hp ht).2.2
    have hsum : (V.1 29 p + i).toInt = (V.1 29 p).toInt + i.toInt := ti_add (by omega) (by omega)
    have s29 : ∀ q, (swpA (pgsA V p 0 (-i)) p i).1 29 q = upd (V.1 29) p (V.1 29 p + i) q := fun q => rfl
    refine ⟨hc.swap hp ht i, ⟨hn.1, fun q hq htq => ?_, hn.2.2⟩, hL, ?_, hS.2⟩
    · have a := hn.2.1 q hq htq
      have a29 : 0 ≤ ((swpA (pgsA V p 0 (-i)) p i).1 29 q).toInt := by
        rw [s29]
        by_cases e : q = p
        · subst e; rw [upd_s, hsum]; omega
        · rw [upd_ne _ _ e]; exact (hN.2.1 q hq htq).2.2
      exact ⟨a.1, a.2.1, a29⟩
    · have e : swpI (swpA (pgsA V p 0 (-i)) p i) = swpI V + i.toInt := by
        refine isum_upd (k := p) 16 hp ?_ (fun j hj hne => ?_)
        · show (if phV V p then ((swpA (pgsA V p 0 (-i)) p i).1 29 p).toInt else 0) = (if phV V p then (V.1 29 p).toInt else 0) + i.toInt
          rw [ht, if_pos rfl, if_pos rfl, s29, upd_s, hsum]
        · show (if phV V j then ((swpA (pgsA V p 0 (-i)) p i).1 29 j).toInt else 0) = _
          rw [s29, upd_ne _ _ hne]
      rw [e]; exact w2
  · rw [if_neg (by decide)]
    exact ⟨hc, hn, hL, hS⟩
theorem spr_sw (hC : Cor V n o) (h : Num V) (hS : SwN V) {lv r g : Nat} : (sprF V lv r 0 g).toInt + swpI V ≤ (V.1 0 5).toInt := by
  have h1 := ((sprF_le (V := V) (lv := lv) (r := r) (k := 0) (g := g)).mp (Int32.le_refl _)).2.2 rfl
  obtain ⟨h2, h3⟩ := swap_out hC h hS
  have h4 := ti_le.mp h1.1
  rw [ti_sub (by have := hS.1; have := hS.2; omega) (by have := hS.1; have := hS.2; omega), h2] at h4
  omega
theorem its_sw (hC : Cor V n o) (h : Num V) (hS : SwN V) {lv r g p : Nat} {L : Int32} : swpI V + (itsF V lv r 0 g p L).toInt ≤ (V.1 0 5).toInt := by
  have := spr_sw (lv := lv) (r := r) (g := g) hC h hS
  unfold itsF
  rw [ti_mn, ti_mn, ti_mn]
  omega
end TKS
