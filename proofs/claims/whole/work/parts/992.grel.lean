/-! a group comes, a group goes: the model's row, and what a World keeps to -/
def lgF (p : Int32) (f : Nat) : Int32 := if f = 9 then p else if f = 8 then 16 else if f = 7 then 99 else if f = 6 then 1 else if f = 5 then 999 else if f = 3 then 999 else if f = 2 then 999 else 0
theorem lg_hi (p : Int32) {f : Nat} (hf : 10 ≤ f) : lgF p f = 0 := by
  unfold lgF
  rw [if_neg (by omega), if_neg (by omega), if_neg (by omega), if_neg (by omega), if_neg (by omega), if_neg (by omega), if_neg (by omega)]
def newG (V : WV) (n g : Nat) (p : Int32) : WV := clrG (putG V n g p) g
section GREL
variable {V U : WV} {n : Nat} {o : Nat → Nat} {g s b : Nat} {M M' : Nat → Int32} {P : WV → Hp} {p : Int32}
theorem ng_f (f : Nat) (hf : f < 34) (hc : cg f ≠ 99) : (newG V n g p).1 (cg f) = upd (V.1 (cg f)) g (lgF p f) := by
  rcases f with _|_|_|_|_|_|_|_|_|_|_|_|_|_|_|_|_|_|_|_|_|_|_|_|_|_|_|_|_|_|_|_|_|_|f
  all_goals first | rfl | exact absurd rfl hc | omega
theorem ng_l (j : Nat) (hj : j < 3) : (newG V n g p).2 (35 + j) = vp_updL (V.2 (35 + j)) g 0 := by
  have h : j = 0 ∨ j = 1 ∨ j = 2 := by omega
  rcases h with rfl | rfl | rfl <;> rfl
theorem ng_c (c : Nat) (hc : c = 0 ∨ (23 ≤ c ∧ c < 39) ∨ c = 42 ∨ (52 ≤ c ∧ c < 57)) : (newG V n g p).1 c = V.1 c := by
  have h : c = 0 ∨ c = 23 ∨ c = 24 ∨ c = 25 ∨ c = 26 ∨ c = 27 ∨ c = 28 ∨ c = 29 ∨ c = 30 ∨ c = 31 ∨ c = 32 ∨ c = 33 ∨ c = 34 ∨ c = 35 ∨ c = 36 ∨ c = 37 ∨ c = 38 ∨ c = 42 ∨ c = 52 ∨ c = 53 ∨ c = 54 ∨ c = 55 ∨ c = 56 := by omega
  rcases h with rfl | rfl | rfl | rfl | rfl | rfl | rfl | rfl | rfl | rfl | rfl | rfl | rfl | rfl | rfl | rfl | rfl | rfl | rfl | rfl | rfl | rfl | rfl <;> rfl
theorem ng_2 : (newG V n g p).1 2 = upd (V.1 2) g p := rfl
theorem ng_15 : (newG V n g p).1 15 = upd (V.1 15) g 0 := rfl
theorem ng_16 : (newG V n g p).1 16 = upd (V.1 16) g 0 := rfl
theorem ng_1 : (newG V n g p).1 1 = upd (V.1 1) 2 (nI (n + 1)) := rfl
theorem ng_3 : (newG V n g p).1 3 = upd (V.1 3) n (nI g) := rfl
theorem up_th {x : Nat} (hx : x ≠ g) : thV (newG V n g p) x = thV V x := by
  unfold thV; rw [ng_2, upd_ne _ _ hx]
theorem or_bit {f : Nat → Bool} (hg : g < 12) : mkB 12 f ||| (1 <<< (nI g &&& 31)) = mkB 12 (fun x => decide (x = g) || f x) := by
  refine mkB_eq (by decide) fun i hi => ?_
  rw [b_or, bt_mkB (by decide) hi, bt_one (by omega) hi]
  by_cases e : i = g
  · subst e; simp [hg]
  · simp [e]
theorem and_bit {f : Nat → Bool} (hg : g < 12) : mkB 12 f &&& ((1 <<< (nI g &&& 31)) ^^^ (-1)) = mkB 12 (fun x => !decide (x = g) && f x) := by
  refine mkB_eq (by decide) fun i hi => ?_
  rw [b_and, bt_mkB (by decide) hi, b_xor, bt_one (by omega) hi, b_m1 i hi]
  by_cases e : i = g
  · subst e; simp
  · simp [e]
theorem lo20_0 : lo20 0 = 0 := by decide
theorem hi20_0 : hi20 0 = 0 := by decide
theorem Rel.put (h : Rel V M) (hg : g < 12) (hp2 : p ≠ -2) (h0 : M' 0 = M 0 ||| (1 <<< (nI g &&& 31))) (hrow : ∀ f, f < 34 → M' (7 + 34 * g + f) = lgF p f) (hM : ∀ i, i ≠ 0 → (i < 7 + 34 * g ∨ 7 + 34 * g + 34 ≤ i) → M' i = M i) : Rel (newG V n g p) M' := by
  obtain ⟨⟨a0, a1, a2, a3, a4, a5, a6⟩, h2, h3, h4, h5⟩ := h
  have t24 : phV (newG V n g p) = phV V := phV_same (ng_c 24 (by omega))
  have t0 : (newG V n g p).1 0 = V.1 0 := ng_c 0 (by omega)
  have t52 : (newG V n g p).1 52 = V.1 52 := ng_c 52 (by omega)
  refine ⟨⟨?_, ?_, ?_, ?_, ?_, ?_, ?_⟩, ?_, ?_, ?_, ?_⟩
  · rw [h0, a0, or_bit hg]
    refine mkB_cong (by decide) fun i hi => ?_
    by_cases e : i = g
    · subst e
      unfold thV
      rw [ng_2, upd_s, decide_eq_true (rfl : i = i), Bool.true_or, decide_eq_true hp2]
    · rw [up_th e, decide_eq_false e, Bool.false_or]
  · rw [hM 1 (by omega) (by omega), a1, t24]
  · rw [hM 2 (by omega) (by omega), a2, t0]
  · rw [hM 3 (by omega) (by omega), a3, t0]
  · rw [hM 4 (by omega) (by omega), a4, t52]
  · rw [hM 5 (by omega) (by omega), a5, t0]
  · rw [hM 6 (by omega) (by omega), a6, t0]
  · intro x f hx ht hf hc
    rw [ng_f f hf hc]
    by_cases e : x = g
    · subst e; rw [upd_s]; exact hrow f hf
    · rw [upd_ne _ _ e, hM _ (by omega) (by omega)]
      exact h2 x f hx (by rw [← up_th e]; exact ht) hf hc
  · intro x k hx ht hk
    rw [ng_l k hk]
    by_cases e : x = g
    · subst e
      rw [updL_s, hrow _ (by omega), hrow _ (by omega), lo20_0, hi20_0]
      constructor
      · exact lg_hi p (by omega)
      · exact lg_hi p (by omega)
    · rw [updL_n _ _ e, hM _ (by omega) (by omega), hM _ (by omega) (by omega)]
      exact h3 x k hx (by rw [← up_th e]; exact ht) hk
  · intro q f hq ht hf
    rw [t24] at ht
    rw [hM _ (by omega) (by omega), ng_c (cp f) (by have := cp_dom f hf; omega)]
    exact h4 q f hq ht hf
  · intro i k hi hk
    rw [hM _ (by omega) (by omega), ng_c (53 + k) (by omega)]
    exact h5 i k hi hk
theorem m_zeroG (hP : LM b P) (hg : g < 12) (st : Int32 × Hp → Option ((Int32 × Hp) ⊕ Hp)) (hst : ∀ (k : Nat) (U : WV), k < 34 → st (nI k, P U) = (F_X10_lays (P U) b (nI g) (nI k) 0).bind fun h => some (.inl (nI (k + 1), h))) (hx : ∀ U : WV, st (nI 34, P U) = some (.inr (P U))) (U : WV) : ∃ M', loopF st 6000 (0, P U) = some (P (sx U 1 M')) ∧ (∀ f, f < 34 → M' (7 + 34 * g + f) = 0) ∧ ∀ i, (i < 7 + 34 * g ∨ 7 + 34 * g + 34 ≤ i) → M' i = U.1 1 i := by
  obtain ⟨a, ha, i1, i2⟩ := loop_inv (st := st) (fun k (a : Nat → Int32) => (nI k, P (sx U 1 a))) (fun a => P (sx U 1 a)) (fun m a => (∀ f, f < m → a (7 + 34 * g + f) = 0) ∧ ∀ i, (i < 7 + 34 * g ∨ 7 + 34 * g + m ≤ i) → a i = U.1 1 i) 34
    (fun m a hm hI => by
      obtain ⟨i1, i2⟩ := hI
      refine ⟨upd a (7 + 34 * g + m) 0, ?_, fun f hf => ?_, fun i hi => ?_⟩
      · rw [hst m _ hm, m_lays hP hg hm, sx_sx]; rfl
      · by_cases e : f = m
        · rw [e, upd_s]
        · rw [upd_ne _ _ (by omega)]; exact i1 f (by omega)
      · rw [upd_ne _ _ (by omega)]; exact i2 i (by omega))
    (fun a hI => hx _)
    34 0 6000 (U.1 1) (by omega) (by omega) ⟨fun f hf => absurd hf (Nat.not_lt_zero _), fun _ _ => rfl⟩
  refine ⟨a, ?_, i1, i2⟩
  rw [← ha]
  show _ = loopF _ 6000 (nI 0, P (sx U 1 (U.1 1)))
  rw [sx_id]; rfl
theorem h34I : (34 : Int32) = nI 34 := rfl
theorem m_laysGroup (hP : LM b P) (hg : g < 12) (p : Int32) (U : WV) : ∃ M', F_X10_laysGroup (P U) b (nI g) p = some (P (sx U 1 M')) ∧ (∀ f, f < 34 → M' (7 + 34 * g + f) = lgF p f) ∧ ∀ i, (i < 7 + 34 * g ∨ 7 + 34 * g + 34 ≤ i) → M' i = U.1 1 i := by
  obtain ⟨M1, a1, a2, a3⟩ := m_zeroG hP hg (fun x => F_X10_laysGroup_L2 b (nI g) p x.1 x.2) (fun k U hk => by
    show F_X10_laysGroup_L2 b (nI g) p (nI k) (P U) = _
    unfold F_X10_laysGroup_L2
    rw [h34I, if_neg (nI_ge hk (by decide))]
    simp only [ml hP, bl, nI_1]) (fun U => by
    show F_X10_laysGroup_L2 b (nI g) p (nI 34) (P U) = _
    unfold F_X10_laysGroup_L2
    rw [h34I, if_pos (nI_le (Nat.le_refl _) (by decide))]) U
  have L : ∀ (f : Nat) (x : Int32) (W : WV) (k : Int32), f < 34 → k = nI f → F_X10_lays (P W) b (nI g) k x = some (P (sx W 1 (upd (W.1 1) (7 + 34 * g + f) x))) := fun f x W k hf hk => by rw [hk]; exact m_lays hP hg hf x
  have e1 : ∀ f, (sx U 1 f).1 1 = f := fun f => rfl
  refine ⟨upd (upd (upd (upd (upd (upd (upd M1 (7 + 34 * g + 2) 999) (7 + 34 * g + 3) 999) (7 + 34 * g + 5) 999) (7 + 34 * g + 6) 1) (7 + 34 * g + 7) 99) (7 + 34 * g + 8) 16) (7 + 34 * g + 9) p, ?_, fun f hf => ?_, fun i hi => ?_⟩
  · unfold F_X10_laysGroup
    simp only [a1, Option.bind_some, ml hP, L 2 999 _ 2 (by decide) rfl, L 3 999 _ 3 (by decide) rfl, L 5 999 _ 5 (by decide) rfl, L 6 1 _ 6 (by decide) rfl, L 7 99 _ 7 (by decide) rfl, L 8 16 _ 8 (by decide) rfl, L 9 p _ 9 (by decide) rfl, sx_sx, e1]
  · unfold lgF upd
    have n9 : (7 + 34 * g + f = 7 + 34 * g + 9) = (f = 9) := by apply propext; omega
    have n8 : (7 + 34 * g + f = 7 + 34 * g + 8) = (f = 8) := by apply propext; omega
    have n7 : (7 + 34 * g + f = 7 + 34 * g + 7) = (f = 7) := by apply propext; omega
    have n6 : (7 + 34 * g + f = 7 + 34 * g + 6) = (f = 6) := by apply propext; omega
    have n5 : (7 + 34 * g + f = 7 + 34 * g + 5) = (f = 5) := by apply propext; omega
    have n3 : (7 + 34 * g + f = 7 + 34 * g + 3) = (f = 3) := by apply propext; omega
    have n2 : (7 + 34 * g + f = 7 + 34 * g + 2) = (f = 2) := by apply propext; omega
    simp only [n9, n8, n7, n6, n5, n3, n2, a2 f hf]
  · rw [upd_ne _ _ (by omega), upd_ne _ _ (by omega), upd_ne _ _ (by omega), upd_ne _ _ (by omega), upd_ne _ _ (by omega), upd_ne _ _ (by omega), upd_ne _ _ (by omega)]
    exact a3 i hi
def goneG (V : WV) (n g s : Nat) (R : Nat → Int32) : WV := drpT (drpV V n g R) g s
theorem gone_c {R : Nat → Int32} (c : Nat) (h1 : c ≠ 1) (h2 : c ≠ 2) (h3 : c ≠ 3) (h4 : c ≠ 14) (h5 : c ≠ 15) (h6 : c < 52) : (goneG V n g s R).1 c = V.1 c := by
  unfold goneG drpT
  rw [sx_1, up_n _ _ (by omega), td_c s (by omega), drp_c c h1 h2 h3 h4 h5]
theorem gone_t {R : Nat → Int32} (x : Nat) (hx : x < 4) : (goneG V n g s R).1 (53 + x) = (tdF V g s).1.1 (53 + x) := by
  unfold goneG drpT
  rw [sx_1, up_n _ _ (by omega)]
  exact (td_cong (fun y hy => drp_c _ (by omega) (by omega) (by omega) (by omega) (by omega)) s).2 x hx
theorem gone_k {R : Nat → Int32} : (goneG V n g s R).1 52 4 = nI (tdF V g s).2 := by
  unfold goneG drpT
  rw [sx_1, up_s, upd_s, (td_cong (fun y hy => drp_c _ (by omega) (by omega) (by omega) (by omega) (by omega)) s).1]
theorem gone_14 {R : Nat → Int32} {x : Nat} (hx : x ≠ g) : (goneG V n g s R).1 14 x = V.1 14 x := by
  unfold goneG drpT
  rw [sx_1, up_n _ _ (by decide), td_c s (by omega)]
  show upd (V.1 14) g _ x = _
  rw [upd_ne _ _ hx]
theorem gone_2 {R : Nat → Int32} : (goneG V n g s R).1 2 = upd (V.1 2) g (-2) := by
  unfold goneG drpT
  rw [sx_1, up_n _ _ (by decide), td_c s (by omega)]; rfl
theorem gone_l {R : Nat → Int32} : (goneG V n g s R).2 = V.2 := by
  show (tdF (drpV V n g R) g s).1.2 = _
  rw [td_2]; rfl
theorem gone_th {R : Nat → Int32} {x : Nat} (hx : x ≠ g) : thV (goneG V n g s R) x = thV V x := by
  unfold thV; rw [gone_2, upd_ne _ _ hx]
theorem gone_thg {R : Nat → Int32} : thV (goneG V n g s R) g = false := by
  unfold thV; rw [gone_2, upd_s]; exact decide_eq_false (fun h => h rfl)
theorem Rel.gone {R : Nat → Int32} (h : Rel V M) (hg : g < 12) (h0 : M' 0 = M 0 &&& ((1 <<< (nI g &&& 31)) ^^^ (-1))) (h4 : M' 4 = nI (tdF V g s).2) (hT : RelT (tdF V g s).1 M') (hM : ∀ i, i ≠ 0 → i ≠ 4 → (i < 7 + 34 * g ∨ 7 + 34 * g + 34 ≤ i) → i < 543 → M' i = M i) : Rel (goneG V n g s R) M' := by
  obtain ⟨⟨a0, a1, a2, a3, a4, a5, a6⟩, h2, h3, h4', h5⟩ := h
  have t24 : phV (goneG V n g s R) = phV V := phV_same (gone_c 24 (by omega) (by omega) (by omega) (by omega) (by omega) (by omega))
  have t0 : (goneG V n g s R).1 0 = V.1 0 := gone_c 0 (by omega) (by omega) (by omega) (by omega) (by omega) (by omega)
  refine ⟨⟨?_, ?_, ?_, ?_, ?_, ?_, ?_⟩, ?_, ?_, ?_, ?_⟩
  · rw [h0, a0, and_bit hg]
    refine mkB_cong (by decide) fun i hi => ?_
    by_cases e : i = g
    · subst e
      rw [gone_thg, decide_eq_true (rfl : i = i)]; rfl
    · rw [gone_th e, decide_eq_false e]; rfl
  · rw [hM 1 (by omega) (by omega) (by omega) (by omega), a1, t24]
  · rw [hM 2 (by omega) (by omega) (by omega) (by omega), a2, t0]
  · rw [hM 3 (by omega) (by omega) (by omega) (by omega), a3, t0]
  · rw [h4, gone_k]
  · rw [hM 5 (by omega) (by omega) (by omega) (by omega), a5, t0]
  · rw [hM 6 (by omega) (by omega) (by omega) (by omega), a6, t0]
  · intro x f hx ht hf hc
    have e : x ≠ g := fun z => by rw [z, gone_thg] at ht; cases ht
    rw [gone_th e] at ht
    rw [hM _ (by omega) (by omega) (by omega) (by omega), h2 x f hx ht hf hc]
    by_cases q2 : cg f = 2
    · rw [q2, gone_2, upd_ne _ _ e]
    · by_cases q14 : cg f = 14
      · rw [q14, gone_14 e]
      · have := cg_f1 f hf
        have hl : cg f < 52 := (by decide : ∀ f, f < 34 → cg f ≠ 99 → cg f < 52) f hf hc
        rw [gone_c (cg f) this.1 q2 this.2.1 q14 this.2.2.1 hl]
  · intro x k hx ht hk
    have e : x ≠ g := fun z => by rw [z, gone_thg] at ht; cases ht
    rw [gone_th e] at ht
    rw [hM _ (by omega) (by omega) (by omega) (by omega), hM _ (by omega) (by omega) (by omega) (by omega), gone_l]
    exact h3 x k hx ht hk
  · intro q f hq ht hf
    rw [t24] at ht
    have := cp_dom f hf
    rw [hM _ (by omega) (by omega) (by omega) (by omega), gone_c (cp f) (by omega) (by omega) (by omega) (by omega) (by omega) (by omega)]
    exact h4' q f hq ht hf
  · intro i k hi hk
    rw [gone_t k hk]
    exact hT i k hi hk
end GREL
