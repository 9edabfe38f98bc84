/-! loops by an invariant: every step goes on under it, or ends as Q says -/
theorem loop_cH {σ ρ α : Type} {st : σ → Option (σ ⊕ ρ)} (e : Nat → α → σ) (I : Nat → α → Prop) (Q : ρ → Prop) (N : Nat) (hs : ∀ i a, i < N → I i a → (∃ a', st (e i a) = some (.inl (e (i + 1) a')) ∧ I (i + 1) a') ∨ (∃ r, st (e i a) = some (.inr r) ∧ Q r)) (hx : ∀ a, I N a → ∃ r, st (e N a) = some (.inr r) ∧ Q r) :
    ∀ (d i n : Nat) (a : α), i + d = N → d < n → I i a → ∃ r, loopF st n (e i a) = some r ∧ Q r
  | 0, i, n, a, hi, hn, ha => by
    obtain ⟨n, rfl⟩ : ∃ k, n = k + 1 := ⟨n - 1, by omega⟩
    have e1 : i = N := by omega
    subst e1
    obtain ⟨r, h1, h2⟩ := hx a ha
    exact ⟨r, by simp only [loopF, h1, Option.bind_some], h2⟩
  | d + 1, i, n, a, hi, hn, ha => by
    obtain ⟨n, rfl⟩ : ∃ k, n = k + 1 := ⟨n - 1, by omega⟩
    rcases hs i a (by omega) ha with ⟨a', h1, h2⟩ | ⟨r, h1, h2⟩
    · obtain ⟨b, h3, h4⟩ := loop_cH e I Q N hs hx d (i + 1) n a' (by omega) (by omega) h2
      exact ⟨b, by simp only [loopF, h1, Option.bind_some]; exact h3, h4⟩
    · exact ⟨r, by simp only [loopF, h1, Option.bind_some], h2⟩
theorem loop_pH {σ ρ α : Type} {st : σ → Option (σ ⊕ ρ)} (e : List Nat → α → σ) (I : List Nat → α → Prop) (Q : ρ → Prop) (hs : ∀ x l a, I (x :: l) a → (∃ a', st (e (x :: l) a) = some (.inl (e l a')) ∧ I l a') ∨ (∃ r, st (e (x :: l) a) = some (.inr r) ∧ Q r)) (hx : ∀ a, I [] a → ∃ r, st (e [] a) = some (.inr r) ∧ Q r) :
    ∀ (l : List Nat) (n : Nat) (a : α), l.length < n → I l a → ∃ r, loopF st n (e l a) = some r ∧ Q r
  | [], n, a, hn, ha => by
    obtain ⟨n, rfl⟩ : ∃ k, n = k + 1 := ⟨n - 1, by simp at hn; omega⟩
    obtain ⟨r, h1, h2⟩ := hx a ha
    exact ⟨r, by simp only [loopF, h1, Option.bind_some], h2⟩
  | x :: l, n, a, hn, ha => by
    obtain ⟨n, rfl⟩ : ∃ k, n = k + 1 := ⟨n - 1, by simp at hn; omega⟩
    rcases hs x l a ha with ⟨a', h1, h2⟩ | ⟨r, h1, h2⟩
    · obtain ⟨b, h3, h4⟩ := loop_pH e I Q hs hx l n a' (by simp at hn; omega) h2
      exact ⟨b, by simp only [loopF, h1, Option.bind_some]; exact h3, h4⟩
    · exact ⟨r, by simp only [loopF, h1, Option.bind_some], h2⟩
theorem loop_wH {σ ρ : Type} {st : σ → Option (σ ⊕ ρ)} (I : Nat → σ → Prop) (Q : ρ → Prop) (hs : ∀ m x, I m x → (∃ x' m', st x = some (.inl x') ∧ m' < m ∧ I m' x') ∨ (∃ r, st x = some (.inr r) ∧ Q r)) :
    ∀ (n m : Nat) (x : σ), m < n → I m x → ∃ r, loopF st n x = some r ∧ Q r
  | 0, m, x, hm, _ => absurd hm (Nat.not_lt_zero _)
  | n + 1, m, x, hm, hx => by
    rcases hs m x hx with ⟨x', m', h1, h2, h3⟩ | ⟨r, h1, h2⟩
    · obtain ⟨b, h4, h5⟩ := loop_wH I Q hs n m' x' (by omega) h3
      exact ⟨b, by simp only [loopF, h1, Option.bind_some]; exact h4, h5⟩
    · exact ⟨r, by simp only [loopF, h1, Option.bind_some], h2⟩
theorem inb_iff {x : Int32} {n : Nat} : inb x n = true ↔ 0 ≤ x.toInt ∧ x.toInt < n := by
  have e : x.toNatClampNeg = x.toInt.toNat := rfl
  simp only [inb, Bool.and_eq_true, decide_eq_true_eq, Int32.lt_iff_toInt_lt, e]
  have z : (0 : Int32).toInt = 0 := rfl
  rw [z]
  omega
section MREADS
variable {b : Nat} {P : WV → Hp} {V U : WV}
theorem m_of (hP : LM b P) (hR : Rel V (U.1 1)) {g f : Nat} (hg : g < 12) (ht : thV V g = true) (hf : f < 34) (hc : cg f ≠ 99) : F_X10_of (P U) b (nI g) (nI f) 0 = some (V.1 (cg f) g, P U) := by
  have hi : 7 + 34 * g + f < 1677 := by omega
  unfold F_X10_of
  simp only [ml hP, Option.bind_some, ix_g, hi, Int32.add_zero, upd_id, sx_id]
  rw [hR.2.1 g f hg ht hf hc]
theorem m_ofD (hP : LM b P) (hR : Rel V (U.1 1)) {g f : Nat} (hg : g < 12) (ht : thV V g = true) (hf : f < 34) (hc : cg f ≠ 99) (d : Int32) : F_X10_of (P U) b (nI g) (nI f) d = some (V.1 (cg f) g + d, P (sx U 1 (upd (U.1 1) (7 + 34 * g + f) (V.1 (cg f) g + d)))) := by
  have hi : 7 + 34 * g + f < 1677 := by omega
  unfold F_X10_of
  simp only [ml hP, Option.bind_some, ix_g, hi, sx_1, up_s, upd_s, hR.2.1 g f hg ht hf hc]
theorem m_lays (hP : LM b P) {g f : Nat} (hg : g < 12) (hf : f < 34) (x : Int32) : F_X10_lays (P U) b (nI g) (nI f) x = some (P (sx U 1 (upd (U.1 1) (7 + 34 * g + f) x))) := by
  have hi : 7 + 34 * g + f < 1677 := by omega
  unfold F_X10_lays
  simp only [ml hP, Option.bind_some, ix_g, hi]
theorem m_pr (hP : LM b P) (hR : Rel V (U.1 1)) {g f : Nat} (hg : g < 16) (ht : phV V g = true) (hf : f < 8) : F_X10_ofProcess (P U) b (nI g) (nI f) 0 = some (V.1 (cp f) g, P U) := by
  have hi : 415 + 8 * g + f < 1677 := by omega
  unfold F_X10_ofProcess
  simp only [ml hP, Option.bind_some, ix_p, hi, Int32.add_zero, upd_id, sx_id]
  rw [hR.2.2.2.1 g f hg ht hf]
theorem m_prD (hP : LM b P) (hR : Rel V (U.1 1)) {g f : Nat} (hg : g < 16) (ht : phV V g = true) (hf : f < 8) (d : Int32) : F_X10_ofProcess (P U) b (nI g) (nI f) d = some (V.1 (cp f) g + d, P (sx U 1 (upd (U.1 1) (415 + 8 * g + f) (V.1 (cp f) g + d)))) := by
  have hi : 415 + 8 * g + f < 1677 := by omega
  unfold F_X10_ofProcess
  simp only [ml hP, Option.bind_some, ix_p, hi, sx_1, up_s, upd_s, hR.2.2.2.1 g f hg ht hf]
theorem m_laysP (hP : LM b P) {g f : Nat} (hg : g < 16) (hf : f < 8) (x : Int32) : F_X10_laysProcess (P U) b (nI g) (nI f) x = some (P (sx U 1 (upd (U.1 1) (415 + 8 * g + f) x))) := by
  have hi : 415 + 8 * g + f < 1677 := by omega
  unfold F_X10_laysProcess
  simp only [ml hP, Option.bind_some, ix_p, hi]

theorem mo (hP : LM b P) (V : WV) :
    (∀ (U : WV) (g : Nat), Rel V (U.1 1) → g < 12 → thV V g = true → F_X10_of (P U) b (nI g) 0 0 = some (V.1 5 g, P U)) ∧
    (∀ (U : WV) (g : Nat), Rel V (U.1 1) → g < 12 → thV V g = true → F_X10_of (P U) b (nI g) 1 0 = some (V.1 6 g, P U)) ∧
    (∀ (U : WV) (g : Nat), Rel V (U.1 1) → g < 12 → thV V g = true → F_X10_of (P U) b (nI g) 2 0 = some (V.1 7 g, P U)) ∧
    (∀ (U : WV) (g : Nat), Rel V (U.1 1) → g < 12 → thV V g = true → F_X10_of (P U) b (nI g) 3 0 = some (V.1 8 g, P U)) ∧
    (∀ (U : WV) (g : Nat), Rel V (U.1 1) → g < 12 → thV V g = true → F_X10_of (P U) b (nI g) 4 0 = some (V.1 9 g, P U)) ∧
    (∀ (U : WV) (g : Nat), Rel V (U.1 1) → g < 12 → thV V g = true → F_X10_of (P U) b (nI g) 5 0 = some (V.1 10 g, P U)) ∧
    (∀ (U : WV) (g : Nat), Rel V (U.1 1) → g < 12 → thV V g = true → F_X10_of (P U) b (nI g) 6 0 = some (V.1 11 g, P U)) ∧
    (∀ (U : WV) (g : Nat), Rel V (U.1 1) → g < 12 → thV V g = true → F_X10_of (P U) b (nI g) 7 0 = some (V.1 12 g, P U)) ∧
    (∀ (U : WV) (g : Nat), Rel V (U.1 1) → g < 12 → thV V g = true → F_X10_of (P U) b (nI g) 8 0 = some (V.1 13 g, P U)) ∧
    (∀ (U : WV) (g : Nat), Rel V (U.1 1) → g < 12 → thV V g = true → F_X10_of (P U) b (nI g) 9 0 = some (V.1 2 g, P U)) ∧
    (∀ (U : WV) (g : Nat), Rel V (U.1 1) → g < 12 → thV V g = true → F_X10_of (P U) b (nI g) 10 0 = some (V.1 14 g, P U)) ∧
    (∀ (U : WV) (g : Nat), Rel V (U.1 1) → g < 12 → thV V g = true → F_X10_of (P U) b (nI g) 11 0 = some (V.1 19 g, P U)) ∧
    (∀ (U : WV) (g : Nat), Rel V (U.1 1) → g < 12 → thV V g = true → F_X10_of (P U) b (nI g) 12 0 = some (V.1 20 g, P U)) ∧
    (∀ (U : WV) (g : Nat), Rel V (U.1 1) → g < 12 → thV V g = true → F_X10_of (P U) b (nI g) 13 0 = some (V.1 21 g, P U)) ∧
    (∀ (U : WV) (g : Nat), Rel V (U.1 1) → g < 12 → thV V g = true → F_X10_of (P U) b (nI g) 14 0 = some (V.1 22 g, P U)) ∧
    (∀ (U : WV) (g : Nat), Rel V (U.1 1) → g < 12 → thV V g = true → F_X10_of (P U) b (nI g) 15 0 = some (V.1 39 g, P U)) ∧
    (∀ (U : WV) (g : Nat), Rel V (U.1 1) → g < 12 → thV V g = true → F_X10_of (P U) b (nI g) 16 0 = some (V.1 40 g, P U)) ∧
    (∀ (U : WV) (g : Nat), Rel V (U.1 1) → g < 12 → thV V g = true → F_X10_of (P U) b (nI g) 17 0 = some (V.1 41 g, P U)) ∧
    (∀ (U : WV) (g : Nat), Rel V (U.1 1) → g < 12 → thV V g = true → F_X10_of (P U) b (nI g) 24 0 = some (V.1 17 g, P U)) ∧
    (∀ (U : WV) (g : Nat), Rel V (U.1 1) → g < 12 → thV V g = true → F_X10_of (P U) b (nI g) 25 0 = some (V.1 43 g, P U)) ∧
    (∀ (U : WV) (g : Nat), Rel V (U.1 1) → g < 12 → thV V g = true → F_X10_of (P U) b (nI g) 26 0 = some (V.1 44 g, P U)) ∧
    (∀ (U : WV) (g : Nat), Rel V (U.1 1) → g < 12 → thV V g = true → F_X10_of (P U) b (nI g) 27 0 = some (V.1 45 g, P U)) ∧
    (∀ (U : WV) (g : Nat), Rel V (U.1 1) → g < 12 → thV V g = true → F_X10_of (P U) b (nI g) 28 0 = some (V.1 46 g, P U)) ∧
    (∀ (U : WV) (g : Nat), Rel V (U.1 1) → g < 12 → thV V g = true → F_X10_of (P U) b (nI g) 29 0 = some (V.1 47 g, P U)) ∧
    (∀ (U : WV) (g : Nat), Rel V (U.1 1) → g < 12 → thV V g = true → F_X10_of (P U) b (nI g) 30 0 = some (V.1 48 g, P U)) ∧
    (∀ (U : WV) (g : Nat), Rel V (U.1 1) → g < 12 → thV V g = true → F_X10_of (P U) b (nI g) 31 0 = some (V.1 49 g, P U)) ∧
    (∀ (U : WV) (g : Nat), Rel V (U.1 1) → g < 12 → thV V g = true → F_X10_of (P U) b (nI g) 32 0 = some (V.1 50 g, P U)) ∧
    (∀ (U : WV) (g : Nat), Rel V (U.1 1) → g < 12 → thV V g = true → F_X10_of (P U) b (nI g) 33 0 = some (V.1 51 g, P U)) :=
  ⟨fun U g hR hg ht => m_of (f := 0) hP hR hg ht (by decide) (by decide),
   fun U g hR hg ht => m_of (f := 1) hP hR hg ht (by decide) (by decide),
   fun U g hR hg ht => m_of (f := 2) hP hR hg ht (by decide) (by decide),
   fun U g hR hg ht => m_of (f := 3) hP hR hg ht (by decide) (by decide),
   fun U g hR hg ht => m_of (f := 4) hP hR hg ht (by decide) (by decide),
   fun U g hR hg ht => m_of (f := 5) hP hR hg ht (by decide) (by decide),
   fun U g hR hg ht => m_of (f := 6) hP hR hg ht (by decide) (by decide),
   fun U g hR hg ht => m_of (f := 7) hP hR hg ht (by decide) (by decide),
   fun U g hR hg ht => m_of (f := 8) hP hR hg ht (by decide) (by decide),
   fun U g hR hg ht => m_of (f := 9) hP hR hg ht (by decide) (by decide),
   fun U g hR hg ht => m_of (f := 10) hP hR hg ht (by decide) (by decide),
   fun U g hR hg ht => m_of (f := 11) hP hR hg ht (by decide) (by decide),
   fun U g hR hg ht => m_of (f := 12) hP hR hg ht (by decide) (by decide),
   fun U g hR hg ht => m_of (f := 13) hP hR hg ht (by decide) (by decide),
   fun U g hR hg ht => m_of (f := 14) hP hR hg ht (by decide) (by decide),
   fun U g hR hg ht => m_of (f := 15) hP hR hg ht (by decide) (by decide),
   fun U g hR hg ht => m_of (f := 16) hP hR hg ht (by decide) (by decide),
   fun U g hR hg ht => m_of (f := 17) hP hR hg ht (by decide) (by decide),
   fun U g hR hg ht => m_of (f := 24) hP hR hg ht (by decide) (by decide),
   fun U g hR hg ht => m_of (f := 25) hP hR hg ht (by decide) (by decide),
   fun U g hR hg ht => m_of (f := 26) hP hR hg ht (by decide) (by decide),
   fun U g hR hg ht => m_of (f := 27) hP hR hg ht (by decide) (by decide),
   fun U g hR hg ht => m_of (f := 28) hP hR hg ht (by decide) (by decide),
   fun U g hR hg ht => m_of (f := 29) hP hR hg ht (by decide) (by decide),
   fun U g hR hg ht => m_of (f := 30) hP hR hg ht (by decide) (by decide),
   fun U g hR hg ht => m_of (f := 31) hP hR hg ht (by decide) (by decide),
   fun U g hR hg ht => m_of (f := 32) hP hR hg ht (by decide) (by decide),
   fun U g hR hg ht => m_of (f := 33) hP hR hg ht (by decide) (by decide)⟩
theorem mp (hP : LM b P) (V : WV) :
    (∀ (U : WV) (g : Nat), Rel V (U.1 1) → g < 16 → phV V g = true → F_X10_ofProcess (P U) b (nI g) 0 0 = some (V.1 24 g, P U)) ∧
    (∀ (U : WV) (g : Nat), Rel V (U.1 1) → g < 16 → phV V g = true → F_X10_ofProcess (P U) b (nI g) 1 0 = some (V.1 25 g, P U)) ∧
    (∀ (U : WV) (g : Nat), Rel V (U.1 1) → g < 16 → phV V g = true → F_X10_ofProcess (P U) b (nI g) 2 0 = some (V.1 27 g, P U)) ∧
    (∀ (U : WV) (g : Nat), Rel V (U.1 1) → g < 16 → phV V g = true → F_X10_ofProcess (P U) b (nI g) 3 0 = some (V.1 28 g, P U)) ∧
    (∀ (U : WV) (g : Nat), Rel V (U.1 1) → g < 16 → phV V g = true → F_X10_ofProcess (P U) b (nI g) 4 0 = some (V.1 30 g, P U)) ∧
    (∀ (U : WV) (g : Nat), Rel V (U.1 1) → g < 16 → phV V g = true → F_X10_ofProcess (P U) b (nI g) 5 0 = some (V.1 29 g, P U)) ∧
    (∀ (U : WV) (g : Nat), Rel V (U.1 1) → g < 16 → phV V g = true → F_X10_ofProcess (P U) b (nI g) 6 0 = some (V.1 31 g, P U)) ∧
    (∀ (U : WV) (g : Nat), Rel V (U.1 1) → g < 16 → phV V g = true → F_X10_ofProcess (P U) b (nI g) 7 0 = some (V.1 32 g, P U)) :=
  ⟨fun U g hR hg ht => m_pr (f := 0) hP hR hg ht (by decide),
   fun U g hR hg ht => m_pr (f := 1) hP hR hg ht (by decide),
   fun U g hR hg ht => m_pr (f := 2) hP hR hg ht (by decide),
   fun U g hR hg ht => m_pr (f := 3) hP hR hg ht (by decide),
   fun U g hR hg ht => m_pr (f := 4) hP hR hg ht (by decide),
   fun U g hR hg ht => m_pr (f := 5) hP hR hg ht (by decide),
   fun U g hR hg ht => m_pr (f := 6) hP hR hg ht (by decide),
   fun U g hR hg ht => m_pr (f := 7) hP hR hg ht (by decide)⟩
theorem cp_k {k : Nat} (hk : k < 2) : cp (2 + k) = 27 + k := (by decide : ∀ k, k < 2 → cp (2 + k) = 27 + k) k hk
theorem m_prk (hP : LM b P) (hR : Rel V (U.1 1)) {g k : Nat} (hg : g < 16) (ht : phV V g = true) (hk : k < 2) : F_X10_ofProcess (P U) b (nI g) (2 + nI k) 0 = some (V.1 (27 + k) g, P U) := by
  rw [show (2 : Int32) + nI k = nI (2 + k) from nI_add 2 k, m_pr hP hR hg ht (by omega), cp_k hk]
theorem m_within (h : Hp) (x : Int32) (a c : Int64) : F_X10_within h x.toInt64 a c = some (if a.toInt ≤ x.toInt ∧ x.toInt ≤ c.toInt then 1 else 0) := by
  unfold F_X10_within
  simp only [lg_cmp_lt, lg_cmp_gt, Int64.lt_iff_toInt_lt, Int32.toInt_toInt64]
  by_cases h1 : x.toInt < a.toInt
  · rw [if_pos h1, if_neg (by omega)]
  · by_cases h2 : c.toInt < x.toInt
    · rw [if_neg h1, if_pos h2, if_neg (by omega)]
    · rw [if_neg h1, if_neg h2, if_pos (by omega)]
theorem m_has (h : Hp) (x : Int32) {k : Nat} (hk : k < 31) : F_X10_has h x (nI k) = some (if bt x k then 1 else 0) := by
  unfold F_X10_has
  by_cases hb : bt x k = true
  · rw [if_pos ((bit_iff hk).mpr hb), if_pos hb]
  · rw [if_neg (fun q => hb ((bit_iff hk).mp q)), if_neg hb]
theorem m_lesser (h : Hp) (x y : Int32) : F_X10_lesser h x y = some (mnI x y) := by
  unfold F_X10_lesser mnI
  by_cases h1 : y < x
  · rw [if_pos h1, if_pos (Int32.le_of_lt h1)]
  · by_cases h2 : y ≤ x
    · rw [if_neg h1, if_pos h2, Int32.le_antisymm h2 (Int32.not_lt.mp h1)]
    · rw [if_neg h1, if_neg h2]
theorem m_greater (h : Hp) (x y : Int32) : F_X10_greater h x y = some (mxI x y) := by
  unfold F_X10_greater mxI
  by_cases h1 : x < y
  · rw [if_pos h1, if_pos (Int32.le_of_lt h1)]
  · by_cases h2 : x ≤ y
    · rw [if_neg h1, if_pos h2, Int32.le_antisymm h2 (Int32.not_lt.mp h1)]
    · rw [if_neg h1, if_neg h2]
theorem m_isGroup (hP : LM b P) (hR : Rel V (U.1 1)) (x : Int32) : F_X10_isGroup (P U) b x = some (if inb x 12 && thV V x.toNatClampNeg then 1 else 0) := by
  unfold F_X10_isGroup
  rw [m_within, Option.bind_some, show (0 : Int64).toInt = 0 from rfl, show (11 : Int64).toInt = 11 from rfl]
  by_cases hx : inb x 12 = true
  · have hx' := inb_iff.mp hx
    have hc : (0 : Int) ≤ x.toInt ∧ x.toInt ≤ 11 := by omega
    simp only [if_pos hc, if_neg (show ¬ (1 : Int32) = 0 by decide)]
    obtain ⟨k, hk, rfl⟩ := inb_of hx (by decide)
    simp only [ml hP, ml0 hP, Option.bind_some, m_has _ _ (show k < 31 by omega), hR.1.1]
    rw [bt_mkB (by decide) (by omega), hx, nI_clamp (by omega)]
    cases thV V k <;> simp [hk]
  · have hc : ¬ ((0 : Int) ≤ x.toInt ∧ x.toInt ≤ 11) := fun q => hx (inb_iff.mpr (by omega))
    simp only [if_neg hc, if_true]
    simp only [Bool.not_eq_true] at hx
    rw [hx]; rfl
theorem m_isGroup' (hP : LM b P) (hR : Rel V (U.1 1)) {g : Nat} (hg : g < 12) : F_X10_isGroup (P U) b (nI g) = some (if thV V g then 1 else 0) := by
  rw [m_isGroup hP hR, inb_nI hg (by decide), nI_clamp (by omega)]
  rfl
theorem m_isProc (hP : LM b P) (hR : Rel V (U.1 1)) (x : Int32) : F_X10_isProcess (P U) b x = some (if inb x 16 && phV V x.toNatClampNeg then 1 else 0) := by
  unfold F_X10_isProcess
  rw [m_within, Option.bind_some, show (0 : Int64).toInt = 0 from rfl, show (15 : Int64).toInt = 15 from rfl]
  by_cases hx : inb x 16 = true
  · have hx' := inb_iff.mp hx
    have hc : (0 : Int) ≤ x.toInt ∧ x.toInt ≤ 15 := by omega
    simp only [if_pos hc, if_neg (show ¬ (1 : Int32) = 0 by decide)]
    obtain ⟨k, hk, rfl⟩ := inb_of hx (by decide)
    simp only [ml hP, ml0 hP, Option.bind_some, m_has _ _ (show k < 31 by omega), hR.1.2.1]
    rw [bt_mkB (by decide) (by omega), hx, nI_clamp (by omega)]
    cases phV V k <;> simp [hk]
  · have hc : ¬ ((0 : Int) ≤ x.toInt ∧ x.toInt ≤ 15) := fun q => hx (inb_iff.mpr (by omega))
    simp only [if_neg hc, if_true]
    simp only [Bool.not_eq_true] at hx
    rw [hx]; rfl
theorem m_isProc' (hP : LM b P) (hR : Rel V (U.1 1)) {g : Nat} (hg : g < 16) : F_X10_isProcess (P U) b (nI g) = some (if phV V g then 1 else 0) := by
  rw [m_isProc hP hR, inb_nI hg (by decide), nI_clamp (by omega)]
  rfl
theorem m_freeIn (h : Hp) {N : Nat} (hN : N < 31) (f : Nat → Bool) : F_X10_freeIn h (mkB N f) (nI N) = some (match ffI N f with | none => nI N | some g => nI g) := by
  have key := loop_first (st := fun x => F_X10_freeIn_L2 h (mkB N f) (nI N) x) (fun i => nI i) (fun i => if (fun g => !f g) i then some (nI i) else none) (nI N) N
    (fun i hi => by
      show F_X10_freeIn_L2 h (mkB N f) (nI N) (nI i) = _
      unfold F_X10_freeIn_L2
      rw [if_neg (nI_ge hi (by omega)), m_has _ _ (by omega), bt_mkB (by omega) (by omega), Option.bind_some]
      cases hf : f i
      · simp [hf]
      · simp [hf, hi, bl, nI_1])
    (by
      show F_X10_freeIn_L2 h (mkB N f) (nI N) (nI N) = _
      unfold F_X10_freeIn_L2
      rw [if_pos (nI_le (Nat.le_refl _) (by omega))])
    N 0 6000 (by omega) (by omega)
  unfold F_X10_freeIn
  rw [h0I, key, find_some, ← List.range_eq_range']
  unfold ffI
  cases (List.range N).find? (fun g => !f g) <;> rfl
theorem m_parent (hP : LM b P) (hR : Rel V (U.1 1)) {g : Nat} (hg : g < 12) (ht : thV V g = true) : F_X10_parentOf (P U) b (nI g) = some (V.1 2 g, P U) := by
  unfold F_X10_parentOf
  simp only [ml hP, mo hP V, hR, hg, ht, Option.bind_some, un]
theorem m_home (hP : LM b P) (hR : Rel V (U.1 1)) {p : Nat} (hp : p < 16) (ht : phV V p = true) : F_X10_groupOf (P U) b (nI p) = some (V.1 24 p, P U) := by
  unfold F_X10_groupOf
  simp only [ml hP, mp hP V, hR, hp, ht, Option.bind_some, un]
theorem m_pagesOf (hP : LM b P) (hR : Rel V (U.1 1)) {p : Nat} (hp : p < 16) (ht : phV V p = true) : F_X10_pagesOf (P U) b (nI p) = some (heldV V p, P U) := by
  unfold F_X10_pagesOf
  simp only [ml hP, mp hP V, hR, hp, ht, Option.bind_some, un]
  rfl
theorem m_bad (hP : LM b P) (hR : Rel V (U.1 1)) {p : Nat} (hp : p < 16) (ht : phV V p = true) : F_X10_badnessOf (P U) b (nI p) = some (badV V p, P U) := by
  unfold F_X10_badnessOf
  simp only [ml hP, mp hP V, m_pagesOf hP hR hp ht, hR, hp, ht, Option.bind_some, un]
  rfl
end MREADS
