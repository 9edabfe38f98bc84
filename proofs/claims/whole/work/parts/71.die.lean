/-! deaths and numbers -/
section DIE
variable {V : WV} {n : Nat} {o : Nat → Nat}
theorem bury_num (hN : Num V) {p : Nat} (hp : p < 16) (ht : phV V p = true) : Num (buryV V p) ∧ swpI (buryV V p) ≤ swpI V := by
  have hq : ∀ q, q ≠ p → (buryV V p).1 27 q = V.1 27 q ∧ (buryV V p).1 28 q = V.1 28 q ∧ (buryV V p).1 29 q = V.1 29 q := fun q hne => ⟨upd_ne _ _ hne, upd_ne _ _ hne, upd_ne _ _ hne⟩
  have hpp : phV (buryV V p) p = false := by
    show decide (upd (V.1 24) p (-1) p ≠ -1) = false
    rw [upd_s]; rfl
  have hh := hN.held hp ht
  have hs : pgsI (buryV V p) = pgsI V + -((V.1 27 p).toInt + (V.1 28 p).toInt) := by
    refine isum_upd (k := p) 16 hp ?_ (fun i hi hne => ?_)
    · rw [hpp, ht]; simp only [Bool.false_eq_true, if_false, if_true]; omega
    · rw [bury_ph p i hne, (hq i hne).1, (hq i hne).2.1]
  have hs2 : swpI (buryV V p) = swpI V + -(V.1 29 p).toInt := by
    refine isum_upd (k := p) 16 hp ?_ (fun i hi hne => ?_)
    · rw [hpp, ht]; simp only [Bool.false_eq_true, if_false, if_true]; omega
    · rw [bury_ph p i hne, (hq i hne).2.2]
  have hst : stkI (buryV V p) = stkI V := rfl
  refine ⟨⟨hN.1, fun q hq' htq => ?_, ?_⟩, ?_⟩
  · by_cases e : q = p
    · subst e; rw [hpp] at htq; cases htq
    · rw [bury_ph p q e] at htq
      rw [(hq q e).1, (hq q e).2.1, (hq q e).2.2]; exact hN.2.1 q hq' htq
  · have := hN.2.2; rw [hst, hs]; omega
  · have := (hN.2.1 p hp ht).2.2; rw [hs2]; omega
theorem TI.bury (h : TI V n o) {p : Nat} (hp : p < 16) (ht : phV V p = true) : TI (buryV V p) n o ∧ TotLe V (buryV V p) := by
  obtain ⟨hC, hN, hL, hS⟩ := h
  obtain ⟨k1, k2, k3⟩ := hC.2.1.at hp ht
  obtain ⟨b1, b2⟩ := bury_num hN hp ht
  refine ⟨⟨hC.bury hp ht, b1, hL, ⟨Int.le_trans b2 hS.1, hS.2⟩⟩, fun g hg htg => ?_⟩
  show (addTo (V.1 15) (pth (pfV V) (hom V p)) (-heldV V p) g).toInt ≤ _
  have hh := hN.held hp ht
  have ht' := hN.tot hC.2.2.1 hg htg
  rw [addTo_at _ _ (pth_nodup hC.1.tree k1 k2)]
  split
  · rw [ti_add (by rw [ti_neg (by omega)]; omega) (by rw [ti_neg (by omega)]; omega), ti_neg (by omega)]; omega
  · exact Int.le_refl _
theorem bury_c (c p : Nat) (h : c ≠ 15) (h1 : c ≠ 16) (h2 : c ≠ 24) (h3 : c ≠ 25) (h4 : c < 27 ∨ 33 ≤ c) : (buryV V p).1 c = V.1 c := by
  unfold buryV putP
  rw [sx_1, up_n _ _ (by omega), sx_1, up_n _ _ (by omega), sx_1, up_n _ _ (by omega), sx_1, up_n _ _ (by omega), sx_1, up_n _ _ (by omega), sx_1, up_n _ _ (by omega), sx_1, up_n _ _ h3, sx_1, up_n _ _ h2, sx_1, up_n _ _ h1, sx_1, up_n _ _ h]
/-- what deaths leave as it is -/
def DiK (V V' : WV) : Prop := (∀ c, c ≠ 15 → c ≠ 16 → c ≠ 22 → c ≠ 24 → c ≠ 25 → (c < 27 ∨ 33 ≤ c) → V'.1 c = V.1 c) ∧ V'.2 = V.2
theorem kill_TI (h : TI V n o) {S : Nat → Bool} (hS : ∀ p, p < 16 → S p = true → phV V p = true) : ∀ i, i ≤ 16 → TI (killI V S i) n o ∧ TotLe V (killI V S i) ∧ DiK V (killI V S i) ∧ (∀ q, phV (killI V S i) q = (phV V q && !(decide (q < i) && S q))) ∧ (∀ q, (decide (q < i) && S q) = false → ∀ c, 24 ≤ c → c < 33 → (killI V S i).1 c q = V.1 c q)
  | 0, _ => ⟨h, fun _ _ _ => Int.le_refl _, ⟨fun _ _ _ _ _ _ _ => rfl, rfl⟩, fun q => by simp [killI], fun _ _ _ _ _ => rfl⟩
  | i + 1, hi => by
    obtain ⟨h1, h2, h3, h4, h5⟩ := kill_TI h hS i (by omega)
    rw [killI_s]
    cases hs : S i
    · refine ⟨h1, h2, h3, fun q => ?_, fun q hq => ?_⟩
      · show phV (killI V S i) q = _
        rw [h4 q]
        by_cases e : q = i
        · subst e; simp [hs]
        · have : q < i + 1 ↔ q < i := by omega
          simp [this]
      · refine h5 q ?_
        by_cases e : q = i
        · subst e; simp
        · have : q < i + 1 ↔ q < i := by omega
          simpa [this] using hq
    · have hp : phV (killI V S i) i = true := by rw [h4 i]; simp [hS i (by omega) hs]
      obtain ⟨b1, b2⟩ := h1.bury (show i < 16 by omega) hp
      have th2 : thV (killI V S i) = thV V := thV_same (h3.1 2 (by decide) (by decide) (by decide) (by decide) (by decide) (by decide))
      refine ⟨b1, fun g hg htg => Int.le_trans (b2 g hg (by rw [th2]; exact htg)) (h2 g hg htg), ⟨fun c c1 c2 c3 c4 c5 c6 => ?_, h3.2⟩, fun q => ?_, fun q hq c c1 c2 => ?_⟩
      · show (buryV (killI V S i) i).1 c = _
        rw [bury_c c i c1 c2 c4 c5 c6]; exact h3.1 c c1 c2 c3 c4 c5 c6
      · show phV (buryV (killI V S i) i) q = _
        by_cases e : q = i
        · subst e
          have : phV (buryV (killI V S q) q) q = false := by
            show decide (upd ((killI V S q).1 24) q (-1) q ≠ -1) = false
            rw [upd_s]; rfl
          rw [this]; simp [hs]
        · rw [bury_ph i q e, h4 q]
          have : q < i + 1 ↔ q < i := by omega
          simp [this]
      · have e : q ≠ i := fun e => by subst e; simp [hs] at hq
        have hq' : (decide (q < i) && S q) = false := by
          have : q < i + 1 ↔ q < i := by omega
          simpa [this] using hq
        rw [← h5 q hq' c c1 c2]
        show (buryV (killI V S i) i).1 c q = _
        by_cases e26 : c = 26
        · subst e26; rfl
        · have h9 : c = 24 ∨ c = 25 ∨ c = 27 ∨ c = 28 ∨ c = 29 ∨ c = 30 ∨ c = 31 ∨ c = 32 := by omega
          rcases h9 with rfl | rfl | rfl | rfl | rfl | rfl | rfl | rfl <;> exact upd_ne _ _ e
theorem str_TI (h : TI V n o) (r : Nat) : TI (strV V r) n o ∧ TotLe V (strV V r) ∧ DiK V (strV V r) ∧ (∀ q, q < 16 → phV (strV V r) q = (phV V q && !dyS V r q)) ∧ (∀ q, q < 16 → dyS V r q = false → ∀ c, 24 ≤ c → c < 33 → (strV V r).1 c q = V.1 c q) := by
  obtain ⟨h1, h2, h3, h4, h5⟩ := kill_TI h (S := dyS V r) (fun p _ hd => dyS_ph r p hd) 16 (Nat.le_refl _)
  refine ⟨h1, h2, ⟨fun c c1 c2 c3 c4 c5 c6 => ?_, h3.2⟩, fun q hq => ?_, fun q hq hd c c1 c2 => ?_⟩
  · unfold strV
    rw [sx_1, up_n _ _ c3]; exact h3.1 c c1 c2 c3 c4 c5 c6
  · show phV (killI V (dyS V r) 16) q = _
    rw [h4 q]; simp [hq]
  · unfold strV
    rw [sx_1, up_n _ _ (by omega)]; exact h5 q (by simp [hd]) c c1 c2
def aliveN (V : WV) : Nat := cntN 16 (phV V)
theorem cnt_sub {f g : Nat → Bool} : ∀ (N : Nat), (∀ x, x < N → g x = true → f x = true) → cntN N g ≤ cntN N f
  | 0, _ => Nat.le_refl _
  | N + 1, h => by
    rw [cntN_s, cntN_s]
    have := cnt_sub N (fun x hx => h x (by omega))
    have h2 := h N (Nat.lt_succ_self _)
    cases hg : g N
    · cases f N <;> simp <;> omega
    · rw [h2 hg]; simp; omega
theorem cnt_lt {f g : Nat → Bool} {i : Nat} : ∀ (N : Nat), (∀ x, x < N → g x = true → f x = true) → i < N → f i = true → g i = false → cntN N g < cntN N f
  | 0, _, h, _, _ => absurd h (Nat.not_lt_zero _)
  | N + 1, h, hi, h1, h2 => by
    rw [cntN_s, cntN_s]
    by_cases e : i = N
    · subst e
      have := cnt_sub i (fun x hx => h x (by omega))
      rw [h1, h2]; simp; omega
    · have := cnt_lt N (fun x hx => h x (by omega)) (by omega) h1 h2
      have h2 := h N (Nat.lt_succ_self _)
      cases hg : g N
      · cases f N <;> simp <;> omega
      · rw [h2 hg]; simp; omega
theorem mkB_ne0 {f : Nat → Bool} (h : mkB 16 f ≠ 0) : ∃ p, p < 16 ∧ f p = true := by
  by_cases hx : ∃ p, p < 16 ∧ f p = true
  · exact hx
  · exfalso
    apply h
    rw [← mkB_0]
    refine mkB_cong (by decide) fun i hi => ?_
    cases hf : f i with
    | false => rfl
    | true => exact absurd ⟨i, hi, hf⟩ hx
theorem str_alive (h : TI V n o) {r : Nat} (hd : mkB 16 (dyS V r) ≠ 0) : aliveN (strV V r) < aliveN V := by
  obtain ⟨p, hp, hdp⟩ := mkB_ne0 hd
  obtain ⟨-, -, -, h4, -⟩ := str_TI h r
  refine cnt_lt (i := p) 16 (fun x hx hg => ?_) hp (dyS_ph r p hdp) ?_
  · rw [h4 x hx] at hg; exact (Bool.and_eq_true_iff.mp hg).1
  · rw [h4 p hp, hdp]; simp
def abvN (V : WV) (g : Nat) (d : Int32) : Nat := ((pth (pfV V) g).filter (fun r => decide (¬ V.1 15 r + d ≤ V.1 8 r))).length
theorem filter_le {p q : Nat → Bool} : ∀ (l : List Nat), (∀ x ∈ l, q x = true → p x = true) → (l.filter q).length ≤ (l.filter p).length
  | [], _ => Nat.le_refl _
  | x :: l, h => by
    have := filter_le l (fun y hy => h y (List.mem_cons_of_mem _ hy))
    have h2 := h x List.mem_cons_self
    cases hq : q x
    · cases hp : p x <;> simp [List.filter_cons, hq, hp] <;> omega
    · rw [List.filter_cons, List.filter_cons, hq, h2 hq]; simpa using this
theorem filter_lt {p q : Nat → Bool} {z : Nat} : ∀ (l : List Nat), (∀ x ∈ l, q x = true → p x = true) → z ∈ l → p z = true → q z = false → (l.filter q).length < (l.filter p).length
  | [], _, h, _, _ => by cases h
  | x :: l, h, hz, h1, h2 => by
    by_cases e : z = x
    · subst e
      have := filter_le l (fun y hy => h y (List.mem_cons_of_mem _ hy))
      rw [List.filter_cons, List.filter_cons, h1, h2]; simp; omega
    · have hz' : z ∈ l := by
        rcases List.mem_cons.mp hz with q | q
        · exact absurd q e
        · exact q
      have := filter_lt l (fun y hy => h y (List.mem_cons_of_mem _ hy)) hz' h1 h2
      have h3 := h x List.mem_cons_self
      cases hq : q x
      · cases hp : p x <;> simp [List.filter_cons, hq, hp] <;> omega
      · rw [List.filter_cons, List.filter_cons, hq, h3 hq]; simpa using this
end DIE
