/-! Reclaim, Memory, Labour: one block of cells beside a World's -/
def TQ (o : Nat) : Nat × Nat := ([(5, 0), (11, 12), (11, 12), (11, 12), (11, 12), (11, 12), (11, 12), (3, 0), (2, 0), (11, 28), (11, 28)] : List (Nat × Nat)).getD o (99, 0)
def ZQ : Nat → Nat → Option Nat
  | 0, 0 => some 1
  | 0, 1 => some 2
  | 0, 2 => some 3
  | 0, 3 => some 4
  | 0, 4 => some 5
  | 0, 5 => some 6
  | 7, 0 => some 0
  | 8, 0 => some 9
  | 8, 1 => some 10
  | _, _ => none
abbrev LQ (q : Nat) (P : WV → Hp) : Prop := LB q 0 11 TQ ZQ P
theorem ql {q : Nat} {P : WV → Hp} (h : LQ q P) :
    (∀ (Q : WV) {α : Type} (x : Option α), cO (P Q) (q) 5 x = x) ∧
    (∀ (Q : WV) {α : Type} (x : Option α), cO (P Q) (q + 7) 3 x = x) ∧
    (∀ (Q : WV) {α : Type} (x : Option α), cO (P Q) (q + 8) 2 x = x) ∧
    (∀ Q : WV, gR (P Q) q 5 0 = some (q + 1)) ∧
    (∀ Q : WV, gR (P Q) q 5 1 = some (q + 2)) ∧
    (∀ Q : WV, gR (P Q) q 5 2 = some (q + 3)) ∧
    (∀ Q : WV, gR (P Q) q 5 3 = some (q + 4)) ∧
    (∀ Q : WV, gR (P Q) q 5 4 = some (q + 5)) ∧
    (∀ Q : WV, gR (P Q) q 5 5 = some (q + 6)) ∧
    (∀ Q : WV, gR (P Q) (q + 7) 3 0 = some q) ∧
    (∀ Q : WV, gR (P Q) (q + 8) 2 0 = some (q + 9)) ∧
    (∀ Q : WV, gR (P Q) (q + 8) 2 1 = some (q + 10)) ∧
    (∀ (Q : WV) (i : Nat), i < 12 → aI (P Q) (q + 1) (nI i) = some (Q.1 1 i)) ∧
    (∀ (Q : WV) (i : Nat) (x : Int32), i < 12 → sI (P Q) (q + 1) (nI i) x = some (P (sx Q 1 (upd (Q.1 1) i x)))) ∧
    (∀ (Q : WV) (i : Nat), i < 12 → aI (P Q) (q + 2) (nI i) = some (Q.1 2 i)) ∧
    (∀ (Q : WV) (i : Nat) (x : Int32), i < 12 → sI (P Q) (q + 2) (nI i) x = some (P (sx Q 2 (upd (Q.1 2) i x)))) ∧
    (∀ (Q : WV) (i : Nat), i < 12 → aI (P Q) (q + 3) (nI i) = some (Q.1 3 i)) ∧
    (∀ (Q : WV) (i : Nat) (x : Int32), i < 12 → sI (P Q) (q + 3) (nI i) x = some (P (sx Q 3 (upd (Q.1 3) i x)))) ∧
    (∀ (Q : WV) (i : Nat), i < 12 → aI (P Q) (q + 4) (nI i) = some (Q.1 4 i)) ∧
    (∀ (Q : WV) (i : Nat) (x : Int32), i < 12 → sI (P Q) (q + 4) (nI i) x = some (P (sx Q 4 (upd (Q.1 4) i x)))) ∧
    (∀ (Q : WV) (i : Nat), i < 12 → aI (P Q) (q + 5) (nI i) = some (Q.1 5 i)) ∧
    (∀ (Q : WV) (i : Nat) (x : Int32), i < 12 → sI (P Q) (q + 5) (nI i) x = some (P (sx Q 5 (upd (Q.1 5) i x)))) ∧
    (∀ (Q : WV) (i : Nat), i < 12 → aI (P Q) (q + 6) (nI i) = some (Q.1 6 i)) ∧
    (∀ (Q : WV) (i : Nat) (x : Int32), i < 12 → sI (P Q) (q + 6) (nI i) x = some (P (sx Q 6 (upd (Q.1 6) i x)))) ∧
    (∀ (Q : WV) (i : Nat), i < 28 → aI (P Q) (q + 9) (nI i) = some (Q.1 9 i)) ∧
    (∀ (Q : WV) (i : Nat) (x : Int32), i < 28 → sI (P Q) (q + 9) (nI i) x = some (P (sx Q 9 (upd (Q.1 9) i x)))) ∧
    (∀ (Q : WV) (i : Nat), i < 28 → aI (P Q) (q + 10) (nI i) = some (Q.1 10 i)) ∧
    (∀ (Q : WV) (i : Nat) (x : Int32), i < 28 → sI (P Q) (q + 10) (nI i) x = some (P (sx Q 10 (upd (Q.1 10) i x)))) :=
  ⟨fun V α x => h.co (o := 0) (by decide) (by decide) rfl,
   fun V α x => h.co (o := 7) (by decide) (by decide) rfl,
   fun V α x => h.co (o := 8) (by decide) (by decide) rfl,
   fun V => h.getr (o := 0) (by decide) (by decide) rfl rfl,
   fun V => h.getr (o := 0) (by decide) (by decide) rfl rfl,
   fun V => h.getr (o := 0) (by decide) (by decide) rfl rfl,
   fun V => h.getr (o := 0) (by decide) (by decide) rfl rfl,
   fun V => h.getr (o := 0) (by decide) (by decide) rfl rfl,
   fun V => h.getr (o := 0) (by decide) (by decide) rfl rfl,
   fun V => h.getr (o := 7) (z := 0) (by decide) (by decide) rfl rfl,
   fun V => h.getr (o := 8) (by decide) (by decide) rfl rfl,
   fun V => h.getr (o := 8) (by decide) (by decide) rfl rfl,
   fun V i hi => h.ldi (o := 1) (by decide) (by decide) rfl (by decide) hi,
   fun V i x hi => h.sti (o := 1) (by decide) (by decide) rfl (by decide) hi,
   fun V i hi => h.ldi (o := 2) (by decide) (by decide) rfl (by decide) hi,
   fun V i x hi => h.sti (o := 2) (by decide) (by decide) rfl (by decide) hi,
   fun V i hi => h.ldi (o := 3) (by decide) (by decide) rfl (by decide) hi,
   fun V i x hi => h.sti (o := 3) (by decide) (by decide) rfl (by decide) hi,
   fun V i hi => h.ldi (o := 4) (by decide) (by decide) rfl (by decide) hi,
   fun V i x hi => h.sti (o := 4) (by decide) (by decide) rfl (by decide) hi,
   fun V i hi => h.ldi (o := 5) (by decide) (by decide) rfl (by decide) hi,
   fun V i x hi => h.sti (o := 5) (by decide) (by decide) rfl (by decide) hi,
   fun V i hi => h.ldi (o := 6) (by decide) (by decide) rfl (by decide) hi,
   fun V i x hi => h.sti (o := 6) (by decide) (by decide) rfl (by decide) hi,
   fun V i hi => h.ldi (o := 9) (by decide) (by decide) rfl (by decide) hi,
   fun V i x hi => h.sti (o := 9) (by decide) (by decide) rfl (by decide) hi,
   fun V i hi => h.ldi (o := 10) (by decide) (by decide) rfl (by decide) hi,
   fun V i x hi => h.sti (o := 10) (by decide) (by decide) rfl (by decide) hi⟩
/-- a World at w, the tools at q -/
def L2 (w q : Nat) (P : WV → WV → Hp) : Prop := (∀ Q, LW w (fun V => P V Q)) ∧ (∀ V, LQ q (fun Q => P V Q))
section RECL
variable {V Q : WV} {n : Nat} {o : Nat → Nat} {w q : Nat} {P : WV → WV → Hp}
theorem OrdOK.rk (h : OrdOK V n o) : ∃ rk : Nat → Nat, (∀ i, i < n → rk (o i) = i) ∧ (∀ c, c < 12 → thV V c = true → rk c < n ∧ o (rk c) = c) := by
  obtain ⟨rk, h1, h2⟩ := h.rank
  refine ⟨rk, h1, fun c hc ht => ?_⟩
  obtain ⟨i, hi, e⟩ := h.2.2.2.2.2.2.2.2 c hc (by simpa [thV] using ht)
  rw [← e, h1 i hi]; exact ⟨hi, rfl⟩
theorem c_part (hP : L2 w q P) (hO : OrdOK V n o) {r lv : Nat} (hr : r < 12) (ht : thV V r = true) (hlv : lv < 2) (Q : WV) : ∃ Q', F_X5_partShares (P V Q) q w (nI r) (nI lv) = some (P V Q') ∧ (∀ c, c ≠ 1 → c ≠ 3 → c ≠ 4 → Q'.1 c = Q.1 c) ∧ ∀ g, g < 12 → thV V g = true → blw (pfV V) r g = true → g ≠ r → Q'.1 1 g = shr V lv r g := by
  obtain ⟨h1, h2, h3, h4, h5, h6, h7, h8, h9⟩ := id hO
  obtain ⟨rk, hk1, hk2⟩ := hO.rk
  have hT := hO.tree
  have hv0 : lv = 0 ∨ lv = 1 := by omega
  let A : Nat → Nat → Int32 := fun i g => smI (List.range 12) (fun c => if thV V c && decide (rk c < i) && decide (V.1 2 c = nI g) then clm V lv c else 0)
  have hA : ∀ i g, i < n → A (i + 1) g = A i g + (if V.1 2 (o i) = nI g then clm V lv (o i) else 0) := by
    intro i g hi
    refine smI_upd List.nodup_range (List.mem_range.mpr (h5 i hi).1) ?_ (fun x hx hne => ?_)
    · simp [hO.th hi, hk1 i hi]
    · cases htx : thV V x
      · rfl
      · have hx2 := (hk2 x (List.mem_range.mp hx) htx).2
        have e : rk x < i + 1 ↔ rk x < i := by
          constructor
          · intro q
            rcases Nat.lt_or_ge (rk x) i with q2 | q2
            · exact q2
            · have : rk x = i := by omega
              rw [this] at hx2
              exact absurd hx2.symm hne
          · omega
        simp [e]
  have hA1 : ∀ g, g < 12 → A 1 g = 0 := by
    intro g hg
    have : A 1 g = smI (List.range 12) (fun _ => 0) := smI_cong fun c hc => by
      cases htc : thV V c
      · rfl
      · obtain ⟨q1, q2⟩ := hk2 c (List.mem_range.mp hc) htc
        by_cases e : rk c < 1
        · have e0 : rk c = 0 := by omega
          rw [e0, h4] at q2
          have : ¬ (-1 : Int32) = nI g := (nI_ne1 (by omega)).symm
          simp [← q2, h7, this]
        · simp [e]
    rw [this, smI_zero]
  have hAn : ∀ g, A n g = tog V lv g := by
    intro g
    refine smI_cong fun c hc => ?_
    cases htc : thV V c
    · rfl
    · simp [(hk2 c (List.mem_range.mp hc) htc).1]
  have hlc : ∀ (a : WV) (x : Nat), x < 12 → aI (P V a) (w + lvc lv) (nI x) = some (V.1 (lvc lv) x) := by
    intro a x hx
    rcases hv0 with rfl | rfl
    · have := (tl (hP.1 a).lt).2.2.2.2.2.2.2.2.2.2.2.2.2.2.2.2.2.2.2.2.2.2.2.2.1 V 1 x (by decide) hx
      exact this
    · have := (tl (hP.1 a).lt).2.2.2.2.2.2.2.2.2.2.2.2.2.2.2.2.2.2.2.2.2.2.2.2.1 V 0 x (by decide) hx
      exact this
  -- claims
  obtain ⟨Q1, a1, b1, b2, b3⟩ := loop_inv (st := fun x => F_X5_partShares_L42 q (nI r) (w + 1) (w + lvc lv) (mkB 12 (fun g => thV V g && blw (pfV V) r g)) x.1 x.2) (fun i (a : WV) => (nI i, P V a)) (fun a => P V a)
    (fun i a => (∀ c, c ≠ 3 → c ≠ 4 → a.1 c = Q.1 c) ∧ (∀ k, 0 < k → k < i → a.1 3 (o k) = clm V lv (o k)) ∧ (∀ g, g < 12 → a.1 4 g = A i g) ∧ 0 < i) n
    (fun i a hi hI => by
      obtain ⟨i1, i2, i3, i4⟩ := hI
      obtain ⟨j, hj, e, -, hj12⟩ := hO.pf i4 hi
      have hi12 : i < 12 := by omega
      have ho12 := (h5 i hi).1
      refine ⟨sx (sx a 3 (upd (a.1 3) (o i) (clm V lv (o i)))) 4 (upd (a.1 4) (o j) (a.1 4 (o j) + clm V lv (o i))), ?_, ?_, ?_, ?_, by omega⟩
      · show F_X5_partShares_L42 q (nI r) (w + 1) (w + lvc lv) _ (nI i) (P V a) = _
        unfold F_X5_partShares_L42
        simp only [fun Q => tl (hP.1 Q).lt, ql (hP.2 V), hlc, Option.bind_some, h3, if_neg (nI_ge hi (by omega)), hi12, (h5 i hi).2, ho12, e, hj12, bl, nI_1]
        have e3 : (sx a 3 (upd (a.1 3) (o i) (mnI (V.1 (lvc lv) (o i)) (V.1 15 (o i))))).1 3 (o i) = clm V lv (o i) := upd_s _ _ _
        rw [e3]
        rfl
      · intro c c3 c4
        rw [sx_1, up_n _ _ c4, sx_1, up_n _ _ c3]
        exact i1 c c3 c4
      · intro k k0 ki
        show upd (a.1 3) (o i) (clm V lv (o i)) (o k) = _
        by_cases ek : k = i
        · subst ek; rw [upd_s]
        · rw [upd_ne _ _ (fun z => ek (h6 k i (by omega) hi z))]
          exact i2 k k0 (by omega)
      · intro g hg
        show upd (a.1 4) (o j) (a.1 4 (o j) + clm V lv (o i)) g = _
        rw [hA i g hi, e]
        by_cases eg : g = o j
        · subst eg
          rw [upd_s, if_pos rfl, i3 _ hj12]
        · rw [upd_ne _ _ eg, if_neg (fun z => eg ((nI_eq (by omega) (by omega)).mp z).symm), i3 g hg, Int32.add_zero])
    (fun a hI => by
      show F_X5_partShares_L42 q (nI r) (w + 1) (w + lvc lv) _ (nI n) (P V a) = _
      unfold F_X5_partShares_L42
      simp only [fun Q => tl (hP.1 Q).lt, Option.bind_some, h3]
      rw [if_pos (nI_le (Nat.le_refl _) (by omega))])
    (n - 1) 1 6000 (sx Q 4 (fun i => if i < 12 then 0 else Q.1 4 i)) (by omega) (by omega)
    ⟨fun c _ c4 => up_n _ _ c4, fun k k0 k1 => by omega, fun g hg => by
      rw [hA1 g hg]
      show (if g < 12 then 0 else Q.1 4 g) = 0
      rw [if_pos hg], by decide⟩
  -- shares
  obtain ⟨Q2, a2, d1, d2⟩ := loop_inv (st := fun x => F_X5_partShares_L117 q (nI r) (w + 1) (mkB 12 (fun g => thV V g && blw (pfV V) r g)) x.1 x.2) (fun i (a : WV) => (nI i, P V a)) (fun a => P V a)
    (fun i a => (∀ c, c ≠ 1 → a.1 c = Q1.1 c) ∧ (∀ k, 0 < k → k < i → blw (pfV V) r (o k) = true → o k ≠ r → a.1 1 (o k) = shr V lv r (o k)) ∧ 0 < i) n
    (fun i a hi hI => by
      obtain ⟨i1, i2, i4⟩ := hI
      obtain ⟨j, hj, e, hpf, hj12⟩ := hO.pf i4 hi
      have hi12 : i < 12 := by omega
      have ho12 := (h5 i hi).1
      have hbt : bt (mkB 12 (fun g => thV V g && blw (pfV V) r g)) (o j) = blw (pfV V) r (o j) := by
        rw [bt_mkB (by decide) (by omega)]; simp [hj12, hO.th (show j < n by omega)]
      have hbi := hO.blwS (r := r) i4 hi hj e
      have hC : a.1 3 (o i) = clm V lv (o i) := by rw [i1 3 (by decide)]; exact b2 i i4 hi
      have hG : a.1 4 (o j) = tog V lv (o j) := by rw [i1 4 (by decide), b3.1 _ hj12, hAn]
      have hup : ∀ x : Int32, (∀ c, c ≠ 1 → (sx a 1 (upd (a.1 1) (o i) x)).1 c = Q1.1 c) := fun x c hc => by
        rw [sx_1, up_n _ _ hc]; exact i1 c hc
      have hnew : ∀ x : Int32, x = shr V lv r (o i) → ∀ k, 0 < k → k < i + 1 → blw (pfV V) r (o k) = true → o k ≠ r → (sx a 1 (upd (a.1 1) (o i) x)).1 1 (o k) = shr V lv r (o k) := fun x hx k k0 k1 k2 k3 => by
        show upd (a.1 1) (o i) x (o k) = _
        by_cases ek : k = i
        · subst ek; rw [upd_s, hx]
        · rw [upd_ne _ _ (fun z => ek (h6 k i (by omega) hi z))]
          exact i2 k k0 (by omega) k2 k3
      have hgo : ∀ z, F_X5_partShares_L117 q (nI r) (w + 1) (mkB 12 (fun g => thV V g && blw (pfV V) r g)) (nI i) (P V a) = z → (fun (x : Int32 × Hp) => F_X5_partShares_L117 q (nI r) (w + 1) (mkB 12 (fun g => thV V g && blw (pfV V) r g)) x.1 x.2) (nI i, P V a) = z := fun z hz => hz
      cases hb : blw (pfV V) r (o j)
      · refine ⟨a, ?_, i1, fun k k0 k1 k2 k3 => ?_, by omega⟩
        · refine hgo _ ?_
          unfold F_X5_partShares_L117
          simp only [fun Q => tl (hP.1 Q).lt, Option.bind_some, h3, if_neg (nI_ge hi (by omega)), hi12, (h5 i hi).2, ho12, e, bl, nI_1]
          rw [if_pos ((bit_no (by omega)).mpr (hbt.trans hb))]
        · by_cases ek : k = i
          · subst ek
            rw [hbi, hb] at k2
            simp at k2
            exact absurd k2.symm k3
          · exact i2 k k0 (by omega) k2 k3
      · have hnb : ¬ (mkB 12 (fun g => thV V g && blw (pfV V) r g) >>> (nI (o j) &&& 31)) &&& 1 = 0 := fun z => by
          rw [bit_no (by omega), hbt, hb] at z; cases z
        have hsh := shr_eq (lv := lv) (r := r) hO ho12 (hO.th hi) hpf
        by_cases er : o j = r
        · rw [if_pos er] at hsh
          have hnb2 := hnb
          rw [er] at hnb2
          refine ⟨sx a 1 (upd (a.1 1) (o i) (clm V lv (o i))), ?_, hup _, hnew _ hsh.symm, by omega⟩
          refine hgo _ ?_
          unfold F_X5_partShares_L117
          simp only [fun Q => tl (hP.1 Q).lt, ql (hP.2 V), Option.bind_some, h3, if_neg (nI_ge hi (by omega)), hi12, (h5 i hi).2, ho12, e, bl, nI_1, er, if_neg hnb2, if_true, if_neg (show ¬ (1 : Int32) = 0 by decide), hC]
        · have ern : ¬ nI (o j) = nI r := fun z => er ((nI_eq (by omega) (by omega)).mp z)
          have hj0 : 0 < j := by
            rcases Nat.eq_zero_or_pos j with z | z
            · subst z
              rw [h4, hO.blw0] at hb
              exact absurd (by rw [h4]; exact (of_decide_eq_true hb).symm) er
            · exact z
          have hS : a.1 1 (o j) = shr V lv r (o j) := i2 j hj0 hj hb er
          rw [if_neg er] at hsh
          by_cases c1 : tog V lv (o j) ≤ shr V lv r (o j)
          · rw [if_pos (Or.inl c1)] at hsh
            refine ⟨sx a 1 (upd (a.1 1) (o i) (clm V lv (o i))), ?_, hup _, hnew _ hsh.symm, by omega⟩
            refine hgo _ ?_
            unfold F_X5_partShares_L117
            simp only [fun Q => tl (hP.1 Q).lt, ql (hP.2 V), Option.bind_some, h3, if_neg (nI_ge hi (by omega)), hi12, (h5 i hi).2, ho12, hj12, e, bl, nI_1, if_neg hnb, if_neg ern, hG, hS, if_pos c1, if_neg (show ¬ (1 : Int32) = 0 by decide), hC]
          · by_cases c2 : 0 < tog V lv (o j)
            · have c3 : ¬ tog V lv (o j) ≤ 0 := fun z => by have := ti_le.mp z; have := ti_lt.mp c2; omega
              rw [if_neg (fun z => z.elim c1 c3)] at hsh
              have hnz : ¬ tog V lv (o j) = 0 := fun z => by rw [z] at c2; exact absurd c2 (by decide)
              refine ⟨sx a 1 (upd (a.1 1) (o i) (clm V lv (o i) * shr V lv r (o j) / tog V lv (o j))), ?_, hup _, hnew _ hsh.symm, by omega⟩
              refine hgo _ ?_
              unfold F_X5_partShares_L117
              simp only [fun Q => tl (hP.1 Q).lt, ql (hP.2 V), Option.bind_some, h3, if_neg (nI_ge hi (by omega)), hi12, (h5 i hi).2, ho12, hj12, e, bl, nI_1, if_neg hnb, if_neg ern, hG, hS, if_neg c1, if_pos c2, if_true, hC, dvI, if_neg hnz]
            · have c3 : tog V lv (o j) ≤ 0 := Int32.not_lt.mp c2
              rw [if_pos (Or.inr c3)] at hsh
              refine ⟨sx a 1 (upd (a.1 1) (o i) (clm V lv (o i))), ?_, hup _, hnew _ hsh.symm, by omega⟩
              refine hgo _ ?_
              unfold F_X5_partShares_L117
              simp only [fun Q => tl (hP.1 Q).lt, ql (hP.2 V), Option.bind_some, h3, if_neg (nI_ge hi (by omega)), hi12, (h5 i hi).2, ho12, hj12, e, bl, nI_1, if_neg hnb, if_neg ern, hG, hS, if_neg c1, if_neg c2, if_neg (show ¬ (1 : Int32) = 0 by decide), hC])
    (fun a hI => by
      show F_X5_partShares_L117 q (nI r) (w + 1) _ (nI n) (P V a) = _
      unfold F_X5_partShares_L117
      simp only [fun Q => tl (hP.1 Q).lt, Option.bind_some, h3]
      rw [if_pos (nI_le (Nat.le_refl _) (by omega))])
    (n - 1) 1 6000 Q1 (by omega) (by omega) ⟨fun _ _ => rfl, fun k k0 k1 => by omega, by decide⟩
  refine ⟨Q2, ?_, fun c c1 c3 c4 => (d1 c c1).trans (b1 c c3 c4), fun g hg htg hb hne => ?_⟩
  · unfold F_X5_partShares
    have hfill : F_J7_fill_53178 (P V Q) (q + 4) 0 = some (P V (sx Q 4 (fun i => if i < 12 then 0 else Q.1 4 i))) := s_fill (hP.2 V) (o := 4) (by decide) (by decide) (len := 12) rfl (by decide) Q 0
    have hbits : F_X6_bitsBelow (P V Q) (w + 1) (nI r) = some (mkB 12 (fun g => thV V g && blw (pfV V) r g)) := s_bits (P := fun V => P V Q) (hP.1 Q).lt hO hr ht
    have a1' : loopF (fun x => F_X5_partShares_L42 q (nI r) (w + 1) (w + lvc lv) (mkB 12 (fun g => thV V g && blw (pfV V) r g)) x.1 x.2) 6000 (1, P V (sx Q 4 (fun i => if i < 12 then 0 else Q.1 4 i))) = some (P V Q1) := a1
    have a2' : loopF (fun x => F_X5_partShares_L117 q (nI r) (w + 1) (mkB 12 (fun g => thV V g && blw (pfV V) r g)) x.1 x.2) 6000 (1, P V Q1) = some (P V Q2) := a2
    have hw : ∀ K : Nat → Option Hp, ((if nI lv = 0 then some (1 : Int32) else some 0).bind fun v4 => (aR (P V Q) (w + 4) 15 v4).bind K) = K (w + lvc lv) := by
      intro K
      rcases hv0 with rfl | rfl
      · have := (tl (hP.1 Q).lt).2.2.2.2.2.2.2.2.2.2.2.2.2.2.2.2.2.2.2.2.2.2.2.1 V 1 (by decide)
        have t : aR (P V Q) (w + 4) 15 1 = some (w + 6) := this
        rw [if_pos (show nI 0 = 0 from rfl), Option.bind_some, t]; rfl
      · have := (tl (hP.1 Q).lt).2.2.2.2.2.2.2.2.2.2.2.2.2.2.2.2.2.2.2.2.2.2.2.1 V 0 (by decide)
        have t : aR (P V Q) (w + 4) 15 0 = some (w + 5) := this
        rw [if_neg (show ¬ nI 1 = 0 by decide), Option.bind_some, t]; rfl
    simp only [ol (hP.1 Q).lo, tl (hP.1 Q).lt, ql (hP.2 V), Option.bind_some, hw, hbits, hfill, a1', a2']
  · obtain ⟨q1, q2⟩ := hk2 g hg htg
    rcases Nat.eq_zero_or_pos (rk g) with z | z
    · rw [z, h4] at q2
      subst q2
      rw [hO.blw0] at hb
      exact absurd (of_decide_eq_true hb).symm hne
    · have := d2.1 (rk g) z q1 (by rw [q2]; exact hb) (by rw [q2]; exact hne)
      rw [q2] at this; exact this
end RECL
