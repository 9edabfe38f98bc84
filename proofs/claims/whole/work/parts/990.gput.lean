/-! a group is put, its gauges cleared; a group is dropped: the class -/
theorem pigeon : ∀ (m n : Nat) (o : Nat → Nat), (∀ i, i < n → o i < m) → (∀ i j, i < n → j < n → o i = o j → i = j) → n ≤ m
  | 0, n, o, h, _ => by
    rcases Nat.eq_zero_or_pos n with e | e
    · omega
    · exact absurd (h 0 e) (Nat.not_lt_zero _)
  | m + 1, 0, _, _, _ => Nat.zero_le _
  | m + 1, k + 1, o, h, hi => by
    have := pigeon m k (fun i => if o i = m then o k else o i) (fun i hk => by
      have h1 := h i (by omega)
      have h2 := h k (by omega)
      by_cases e : o i = m
      · rw [if_pos e]
        by_cases e2 : o k = m
        · have := hi i k (by omega) (by omega) (by omega); omega
        · omega
      · rw [if_neg e]; omega) (fun i j hik hjk e => by
      by_cases e1 : o i = m
      · by_cases e2 : o j = m
        · exact hi i j (by omega) (by omega) (by omega)
        · rw [if_pos e1, if_neg e2] at e
          have := hi k j (by omega) (by omega) e; omega
      · by_cases e2 : o j = m
        · rw [if_neg e1, if_pos e2] at e
          have := hi i k (by omega) (by omega) e; omega
        · rw [if_neg e1, if_neg e2] at e
          exact hi i j (by omega) (by omega) e)
    omega
theorem OrdOK.room {V : WV} {n : Nat} {o : Nat → Nat} (hO : OrdOK V n o) {g : Nat} (hg : g < 12) (ht : thV V g = false) : n < 12 := by
  have hne : ∀ i, i < n → o i ≠ g := fun i hi e => by
    have := hO.th hi
    rw [e, ht] at this; cases this
  have := pigeon 11 n (fun i => if o i = 11 then g else o i) (fun i hi => by
    have h1 := (hO.2.2.2.2.1 i hi).1
    by_cases e : o i = 11
    · rw [if_pos e]
      have := hne i hi
      omega
    · rw [if_neg e]; omega) (fun i j hi hj e => by
    have n1 := hne i hi
    have n2 := hne j hj
    by_cases e1 : o i = 11
    · by_cases e2 : o j = 11
      · exact hO.2.2.2.2.2.1 i j hi hj (by omega)
      · rw [if_pos e1, if_neg e2] at e; omega
    · by_cases e2 : o j = 11
      · rw [if_neg e1, if_pos e2] at e; omega
      · rw [if_neg e1, if_neg e2] at e
        exact hO.2.2.2.2.2.1 i j hi hj e)
  omega
def rowL (V : WV) (st m g : Nat) : WV := (V.1, fun o => if st ≤ o ∧ o < st + m then vp_updL (V.2 o) g 0 else V.2 o)
theorem rowL_0 (V : WV) (st g : Nat) : rowL V st 0 g = V := by
  unfold rowL
  refine Prod.ext rfl (funext fun o => ?_)
  show (if st ≤ o ∧ o < st + 0 then _ else V.2 o) = V.2 o
  rw [if_neg (by omega)]
/-- the gauges of a group are set back -/
def clrG (V : WV) (g : Nat) : WV := rowU (rowU (rowL V 35 3 g) 39 3 g (fun _ => 0)) 43 9 g (fun _ => 0)
section GPUT
variable {V : WV} {n : Nat} {o : Nat → Nat} {w g : Nat} {P : WV → Hp}
theorem s_clear (hP : LG w P) (hg : g < 12) : F_X1_clearGroup (P V) (w + 33) (nI g) = some (P (clrG V g)) := by
  have L1 : loopF (fun x => F_X1_clearGroup_L2 (w + 33) (nI g) x.1 x.2) 6000 (0, P V) = some (P (rowU (rowL V 35 3 g) 39 3 g (fun _ => 0))) := by
    have h := loop_rng (st := fun x => F_X1_clearGroup_L2 (w + 33) (nI g) x.1 x.2) (fun i (_ : Unit) => (nI i, P (rowU (rowL V 35 i g) 39 i g (fun _ => 0)))) (fun a _ => a) (fun _ => P (rowU (rowL V 35 3 g) 39 3 g (fun _ => 0))) 3
      (fun i a hi => by
        show F_X1_clearGroup_L2 (w + 33) (nI g) (nI i) _ = _
        unfold F_X1_clearGroup_L2
        have e1 : sy (rowU (rowL V 35 i g) 39 i g (fun _ => 0)) (35 + i) (vp_updL ((rowU (rowL V 35 i g) 39 i g (fun _ => 0)).2 (35 + i)) g 0) = rowU (rowL V 35 (i + 1) g) 39 i g (fun _ => 0) := by
          refine Prod.ext rfl (funext fun c => ?_)
          show (if c = 35 + i then vp_updL (if 35 ≤ 35 + i ∧ 35 + i < 35 + i then vp_updL (V.2 (35 + i)) g 0 else V.2 (35 + i)) g 0 else (if 35 ≤ c ∧ c < 35 + i then vp_updL (V.2 c) g 0 else V.2 c)) = (if 35 ≤ c ∧ c < 35 + (i + 1) then vp_updL (V.2 c) g 0 else V.2 c)
          by_cases h1 : c = 35 + i
          · subst h1
            rw [if_pos rfl, if_neg (by omega), if_pos (by omega)]
          · rw [if_neg h1]
            by_cases h2 : 35 ≤ c ∧ c < 35 + i
            · rw [if_pos h2, if_pos (by omega)]
            · rw [if_neg h2, if_neg (by omega)]
        have e2 : sx (rowU (rowL V 35 (i + 1) g) 39 i g (fun _ => 0)) (39 + i) (upd ((rowU (rowL V 35 (i + 1) g) 39 i g (fun _ => 0)).1 (39 + i)) g 0) = rowU (rowL V 35 (i + 1) g) 39 (i + 1) g (fun _ => 0) := by
          rw [rowU_at]; exact rowU_s (rowL V 35 (i + 1) g) 39 i g (fun _ => 0)
        rw [h3I, if_neg (nI_ge hi (by decide))]
        simp only [ga hP, Option.bind_some, hi, hg, e1, e2, bl, nI_1])
      (fun a => by
        show F_X1_clearGroup_L2 (w + 33) (nI g) (nI 3) _ = _
        unfold F_X1_clearGroup_L2
        rw [h3I, if_pos (nI_le (Nat.le_refl _) (by decide))])
      (n := 6000) (by decide) ()
    rw [← h]
    show _ = loopF _ 6000 (nI 0, P (rowU (rowL V 35 0 g) 39 0 g (fun _ => 0)))
    rw [rowU_0, rowL_0]; rfl
  have L2 : ∀ U : WV, loopF (fun x => F_X1_clearGroup_L33 (w + 33) (nI g) x.1 x.2) 6000 (0, P U) = some (P (rowU U 43 9 g (fun _ => 0))) := by
    intro U
    have h := loop_rng (st := fun x => F_X1_clearGroup_L33 (w + 33) (nI g) x.1 x.2) (fun i (_ : Unit) => (nI i, P (rowU U 43 i g (fun _ => 0)))) (fun a _ => a) (fun _ => P (rowU U 43 9 g (fun _ => 0))) 9
      (fun i a hi => by
        show F_X1_clearGroup_L33 (w + 33) (nI g) (nI i) _ = _
        unfold F_X1_clearGroup_L33
        rw [h9I, if_neg (nI_ge hi (by decide))]
        simp only [ga hP, Option.bind_some, hi, hg, bl, nI_1, rowU_at]
        rw [rowU_s])
      (fun a => by
        show F_X1_clearGroup_L33 (w + 33) (nI g) (nI 9) _ = _
        unfold F_X1_clearGroup_L33
        rw [h9I, if_pos (nI_le (Nat.le_refl _) (by decide))])
      (n := 6000) (by decide) ()
    rw [← h]
    show _ = loopF _ 6000 (nI 0, P (rowU U 43 0 g (fun _ => 0)))
    rw [rowU_0]; rfl
  unfold F_X1_clearGroup clrG
  simp only [L1, L2, Option.bind_some]
/-- a group is dropped: what it had in stock first, then it itself -/
def drpR (V : WV) (n : Nat) (o : Nat → Nat) (r : Nat) (R : Nat → Int32) : Prop := ∀ j, j < n - 1 → R j = nI (if j < r then o j else o (j + 1))
def drpV (V : WV) (n g : Nat) (R : Nat → Int32) : WV := sx (sx (sx (stkA V g (-V.1 14 g)) 2 (upd (V.1 2) g (-2))) 3 R) 1 (upd (V.1 1) 2 (nI (n - 1)))
theorem s_dropGroup (hP : LT w P) (hO : OrdOK V n o) (hg : g < 12) (ht : thV V g = true) {r : Nat} (hr : r < n) (hor : o r = g) : ∃ R, F_X6_dropGroup (P V) (w + 1) (nI g) = some (P (drpV V n g R)) ∧ drpR V n o r R := by
  obtain ⟨V2, hV2⟩ : ∃ V2, V2 = sx (stkA V g (-V.1 14 g)) 2 (upd (V.1 2) g (-2)) := ⟨_, rfl⟩
  have hn12 := hO.2.1
  have hn1 := hO.1
  have hs := hO.2.2.1
  have e1 : V2.1 1 = V.1 1 := by rw [hV2]; rfl
  have e3 : V2.1 3 = V.1 3 := by rw [hV2]; rfl
  obtain ⟨R, ha, hI, -⟩ := loop_inv (st := fun x => F_X6_dropGroup_L24 (w + 1) (nI g) x.1 x.2.1 x.2.2) (fun i (R : Nat → Int32) => (nI (if i ≤ r then i else i - 1), nI i, P (sx V2 3 R))) (fun R => (nI (n - 1), P (sx V2 3 R))) (fun i R => (∀ j, j < (if i ≤ r then i else i - 1) → R j = nI (if j < r then o j else o (j + 1))) ∧ ∀ j, i ≤ j → j < n → R j = nI (o j)) n
    (fun i R hi hI => by
      obtain ⟨i1, i2⟩ := hI
      have hi12 : i < 12 := by omega
      have ei := i2 i (Nat.le_refl _) hi
      have oi12 := (hO.2.2.2.2.1 i hi).1
      have c3 : ∀ f, (sx V2 3 f).1 3 = f := fun f => rfl
      have c1 : ∀ f, (sx V2 3 f).1 1 2 = nI n := fun f => by rw [← hs, ← e1]; rfl
      by_cases er : i = r
      · refine ⟨R, ?_, fun j hj => ?_, fun j h1 h2 => i2 j (by omega) h2⟩
        · show F_X6_dropGroup_L24 (w + 1) (nI g) (nI (if i ≤ r then i else i - 1)) (nI i) (P (sx V2 3 R)) = _
          unfold F_X6_dropGroup_L24
          have : o i = g := by rw [er]; exact hor
          simp only [tl hP, Option.bind_some, c1, if_neg (nI_ge hi (by omega)), hi12, c3, ei, this, if_true, bl, nI_1]
          rw [if_pos (by omega : i ≤ r), if_neg (by omega : ¬ i + 1 ≤ r)]
          rfl
        · rw [if_neg (by omega)] at hj
          exact i1 j (by rw [if_pos (by omega)]; omega)
      · have hne : ¬ nI (o i) = nI g := fun z => er (hO.2.2.2.2.2.1 i r hi hr (by rw [hor]; exact (nI_eq (by omega) (by omega)).mp z))
        obtain ⟨k, hk⟩ : ∃ k, k = if i ≤ r then i else i - 1 := ⟨_, rfl⟩
        have hk12 : k < 12 := by rw [hk]; split <;> omega
        have hk1 : (if i + 1 ≤ r then i + 1 else i + 1 - 1) = k + 1 := by
          rw [hk]
          by_cases h : i ≤ r
          · rw [if_pos h, if_pos (by omega)]
          · rw [if_neg h, if_neg (by omega)]; omega
        rw [← hk] at i1
        refine ⟨upd R k (nI (o i)), ?_, fun j hj => ?_, fun j h1 h2 => ?_⟩
        · show F_X6_dropGroup_L24 (w + 1) (nI g) (nI (if i ≤ r then i else i - 1)) (nI i) (P (sx V2 3 R)) = _
          unfold F_X6_dropGroup_L24
          simp only [tl hP, Option.bind_some, c1, if_neg (nI_ge hi (by omega)), hi12, c3, ei, if_neg hne, ← hk, hk12, sx_sx, bl, nI_1, hk1]
        · rw [hk1] at hj
          by_cases ej : j = k
          · rw [ej, upd_s]
            by_cases h : i ≤ r
            · rw [if_pos h] at hk
              rw [if_pos (by omega), hk]
            · rw [if_neg h] at hk
              rw [if_neg (by omega)]
              congr 2; omega
          · rw [upd_ne _ _ ej]; exact i1 j (by omega)
        · have : j ≠ k := by rw [hk]; split <;> omega
          rw [upd_ne _ _ this]; exact i2 j (by omega) h2)
    (fun R hI => by
      show F_X6_dropGroup_L24 (w + 1) (nI g) (nI (if n ≤ r then n else n - 1)) (nI n) (P (sx V2 3 R)) = _
      unfold F_X6_dropGroup_L24
      have c1 : (sx V2 3 R).1 1 2 = nI n := by rw [← hs, ← e1]; rfl
      simp only [tl hP, Option.bind_some, c1]
      rw [if_pos (nI_le (Nat.le_refl _) (by omega)), if_neg (by omega)])
    n 0 6000 (V2.1 3) (by omega) (by omega) ⟨fun j hj => absurd hj (by rw [if_pos (Nat.zero_le _)]; exact Nat.not_lt_zero _), fun j _ h2 => by rw [e3]; exact (hO.2.2.2.2.1 j h2).2⟩
  refine ⟨R, ?_, fun j hj => hI j (by rw [if_neg (by omega)]; exact hj)⟩
  have ha' : loopF (fun x => F_X6_dropGroup_L24 (w + 1) (nI g) x.1 x.2.1 x.2.2) 6000 (0, 0, P V2) = some (nI (n - 1), P (sx V2 3 R)) := by
    rw [← ha]
    show _ = loopF _ 6000 (nI (if 0 ≤ r then 0 else 0 - 1), nI 0, P (sx V2 3 (V2.1 3)))
    rw [if_pos (Nat.zero_le _), sx_id]; rfl
  have es : F_X6_addStock (P V) (w + 1) (nI g) (-V.1 14 g) = some (P (stkA V g (-V.1 14 g))) := s_addStock hP hO hg ht _
  have e2 : (stkA V g (-V.1 14 g)).1 2 = V.1 2 := rfl
  have ed : (sx V2 3 R).1 1 = V.1 1 := by rw [← e1]; rfl
  unfold F_X6_dropGroup drpV
  simp only [tl hP, Option.bind_some, hg, es, e2, ← hV2, ha', bl, ed]
theorem drp_2 {R : Nat → Int32} : (drpV V n g R).1 2 = upd (V.1 2) g (-2) := rfl
theorem drp_c {R : Nat → Int32} (c : Nat) (h1 : c ≠ 1) (h2 : c ≠ 2) (h3 : c ≠ 3) (h4 : c ≠ 14) (h5 : c ≠ 15) : (drpV V n g R).1 c = V.1 c := by
  unfold drpV stkA
  simp only [sx_1]
  rw [up_n _ _ h1, up_n _ _ h3, up_n _ _ h2, up_n _ _ h5, up_n _ _ h4]
theorem drp_ord (hO : OrdOK V n o) (hg : g < 12) (h0 : g ≠ 0) {r : Nat} (hr : r < n) (hor : o r = g) {R : Nat → Int32} (hR : drpR V n o r R) (hc : ∀ x, x < 12 → thV V x = true → V.1 2 x ≠ nI g) : OrdOK (drpV V n g R) (n - 1) (fun j => if j < r then o j else o (j + 1)) := by
  have hn12 := hO.2.1
  have hn1 := hO.1
  have hr0 : 0 < r := by
    rcases Nat.eq_zero_or_pos r with e | e
    · rw [e, hO.2.2.2.1] at hor; omega
    · exact e
  have ne : ∀ j, j < n → j ≠ r → o j ≠ g := fun j hj e z => e (hO.2.2.2.2.2.1 j r hj hr (by rw [hor]; exact z))
  have oj : ∀ j, j < n - 1 → ∃ k, k < n ∧ k ≠ r ∧ (if j < r then o j else o (j + 1)) = o k ∧ k = (if j < r then j else j + 1) := fun j hj => by
    by_cases h : j < r
    · exact ⟨j, by omega, by omega, if_pos h, by rw [if_pos h]⟩
    · exact ⟨j + 1, by omega, by omega, if_neg h, by rw [if_neg h]⟩
  refine ⟨by omega, by omega, show upd (V.1 1) 2 (nI (n - 1)) 2 = _ from upd_s _ _ _, ?_, fun i hi => ?_, fun i j hi hj e => ?_, ?_, fun i h1 hi => ?_, fun x hx h2 => ?_⟩
  · show (if 0 < r then o 0 else o (0 + 1)) = 0
    rw [if_pos hr0]; exact hO.2.2.2.1
  · refine ⟨?_, hR i hi⟩
    obtain ⟨k, k1, k2, k3, k4⟩ := oj i hi
    dsimp only
    rw [k3]; exact (hO.2.2.2.2.1 k k1).1
  · obtain ⟨k, k1, k2, k3, k4⟩ := oj i hi
    obtain ⟨l, l1, l2, l3, l4⟩ := oj j hj
    dsimp only at e
    rw [k3, l3] at e
    have := hO.2.2.2.2.2.1 k l k1 l1 e
    rw [k4, l4] at this
    by_cases a : i < r
    · by_cases b : j < r
      · rw [if_pos a, if_pos b] at this; exact this
      · rw [if_pos a, if_neg b] at this; omega
    · by_cases b : j < r
      · rw [if_neg a, if_pos b] at this; omega
      · rw [if_neg a, if_neg b] at this; omega
  · rw [drp_2, upd_ne _ _ (Ne.symm h0)]; exact hO.2.2.2.2.2.2.1
  · obtain ⟨k, k1, k2, k3, k4⟩ := oj i hi
    have hk0 : 0 < k := by rw [k4]; split <;> omega
    obtain ⟨j, j1, j2⟩ := hO.2.2.2.2.2.2.2.1 k hk0 k1
    have hjr : j ≠ r := fun z => hc (o k) (hO.2.2.2.2.1 k k1).1 (hO.th k1) (by rw [j2, z, hor])
    refine ⟨if j < r then j else j - 1, ?_, ?_⟩
    · rw [k4] at j1
      by_cases a : i < r
      · rw [if_pos a] at j1; split <;> omega
      · rw [if_neg a] at j1; split <;> omega
    · dsimp only
      rw [k3, drp_2, upd_ne _ _ (ne k k1 k2), j2]
      by_cases a : j < r
      · rw [if_pos a, if_pos a]
      · rw [if_neg a, if_neg (by omega)]
        congr 2; omega
  · rw [drp_2] at h2
    have hxg : x ≠ g := fun z => by rw [z, upd_s] at h2; exact h2 rfl
    rw [upd_ne _ _ hxg] at h2
    obtain ⟨k, k1, k2⟩ := hO.2.2.2.2.2.2.2.2 x hx h2
    have hkr : k ≠ r := fun z => hxg (by rw [← k2, z, hor])
    refine ⟨if k < r then k else k - 1, ?_, ?_⟩
    · split <;> omega
    · dsimp only
      by_cases a : k < r
      · rw [if_pos a, if_pos a]; exact k2
      · rw [if_neg a, if_neg (by omega), ← k2]
        congr 1; omega
end GPUT
