/-! the model's row M beside a World's contents V -/
def cg (f : Nat) : Nat := ([5, 6, 7, 8, 9, 10, 11, 12, 13, 2, 14, 19, 20, 21, 22, 39, 40, 41, 99, 99, 99, 99, 99, 99, 17, 43, 44, 45, 46, 47, 48, 49, 50, 51] : List Nat).getD f 99
def cp (f : Nat) : Nat := ([24, 25, 27, 28, 30, 29, 31, 32] : List Nat).getD f 99
def lo20 (x : Int64) : Int32 := nI (n64 x % 1048576)
def hi20 (x : Int64) : Int32 := nI (n64 x / 1048576 % 1048576)
def RelS (V : WV) (M : Nat → Int32) : Prop := M 0 = mkB 12 (thV V) ∧ M 1 = mkB 16 (phV V) ∧ M 2 = V.1 0 7 ∧ M 3 = V.1 0 4 ∧ M 4 = V.1 52 4 ∧ M 5 = V.1 0 5 ∧ M 6 = V.1 0 6
def RelG (V : WV) (M : Nat → Int32) : Prop := ∀ g f, g < 12 → thV V g = true → f < 34 → cg f ≠ 99 → M (7 + 34 * g + f) = V.1 (cg f) g
def RelL (V : WV) (M : Nat → Int32) : Prop := ∀ g k, g < 12 → thV V g = true → k < 3 → M (7 + 34 * g + (18 + 2 * k)) = lo20 (V.2 (35 + k) g) ∧ M (7 + 34 * g + (18 + 2 * k + 1)) = hi20 (V.2 (35 + k) g)
def RelP (V : WV) (M : Nat → Int32) : Prop := ∀ p f, p < 16 → phV V p = true → f < 8 → M (415 + 8 * p + f) = V.1 (cp f) p
def RelT (V : WV) (M : Nat → Int32) : Prop := ∀ i k, i < 4 → k < 4 → M (543 + 4 * i + k) = V.1 (53 + k) i
def Rel (V : WV) (M : Nat → Int32) : Prop := RelS V M ∧ RelG V M ∧ RelL V M ∧ RelP V M ∧ RelT V M
theorem nI_mul (a b : Nat) : nI a * nI b = nI (a * b) := (Int32.ofNat_mul a b).symm
theorem ix_g (g f : Nat) : (7 + 34 * nI g) + nI f = nI (7 + 34 * g + f) := by
  rw [show (7 : Int32) = nI 7 from rfl, show (34 : Int32) = nI 34 from rfl, nI_mul, nI_add, nI_add]
theorem ix_p (p f : Nat) : (415 + 8 * nI p) + nI f = nI (415 + 8 * p + f) := by
  rw [show (415 : Int32) = nI 415 from rfl, show (8 : Int32) = nI 8 from rfl, nI_mul, nI_add, nI_add]
/-- the cells that Rel looks at are the same -/
def SameB (V V' : WV) : Prop := (∀ c, c ≠ 1 → c ≠ 3 → c ≠ 15 → c ≠ 16 → V'.1 c = V.1 c) ∧ V'.2 = V.2
theorem cg_f1 : ∀ f, f < 34 → cg f ≠ 1 ∧ cg f ≠ 3 ∧ cg f ≠ 15 ∧ cg f ≠ 16 ∧ cg f ≠ 0 ∧ cg f ≠ 52 ∧ cg f ≠ 24 ∧ (cg f = 2 → f = 9) := by decide
theorem cp_f1 : ∀ f, f < 8 → cp f ≠ 1 ∧ cp f ≠ 3 ∧ cp f ≠ 15 ∧ cp f ≠ 16 ∧ cp f ≠ 0 ∧ cp f ≠ 52 ∧ cp f ≠ 2 ∧ (cp f = 24 → f = 0) := by decide
theorem cg_inj : ∀ f, f < 34 → ∀ e, e < 34 → cg f = cg e → cg f ≠ 99 → f = e := by decide +kernel
theorem cp_inj : ∀ f, f < 8 → ∀ e, e < 8 → cp f = cp e → f = e := by decide +kernel
theorem cg_cp : ∀ f, f < 34 → ∀ e, e < 8 → cg f ≠ cp e := by decide +kernel
theorem cg_t : ∀ f, f < 34 → ∀ e, e < 4 → cg f ≠ 53 + e := by decide +kernel
theorem cp_t : ∀ f, f < 8 → ∀ e, e < 4 → cp f ≠ 53 + e := by decide +kernel
section REL
variable {V V' : WV} {M : Nat → Int32}
theorem thV_same (h : V'.1 2 = V.1 2) : thV V' = thV V := by funext g; simp only [thV, h]
theorem pfV_same (h : V'.1 2 = V.1 2) : pfV V' = pfV V := by funext g; simp only [pfV, h]
theorem phV_same (h : V'.1 24 = V.1 24) : phV V' = phV V := by funext g; simp only [phV, h]
theorem Rel.same (h : Rel V M) (hs : SameB V V') : Rel V' M := by
  obtain ⟨h1, h2, h3, h4, h5⟩ := h
  obtain ⟨s1, s2⟩ := hs
  have t2 := s1 2 (by decide) (by decide) (by decide) (by decide)
  have t24 := s1 24 (by decide) (by decide) (by decide) (by decide)
  have t0 := s1 0 (by decide) (by decide) (by decide) (by decide)
  have t52 := s1 52 (by decide) (by decide) (by decide) (by decide)
  refine ⟨?_, ?_, ?_, ?_, ?_⟩
  · unfold RelS at h1 ⊢
    rw [thV_same t2, phV_same t24, t0, t52]; exact h1
  · intro g f hg ht hf hc
    rw [thV_same t2] at ht
    obtain ⟨c1, c2, c3, c4, -⟩ := cg_f1 f hf
    rw [s1 _ c1 c2 c3 c4]
    exact h2 g f hg ht hf hc
  · intro g k hg ht hk
    rw [thV_same t2] at ht
    rw [s2]
    exact h3 g k hg ht hk
  · intro p f hp ht hf
    rw [phV_same t24] at ht
    obtain ⟨c1, c2, c3, c4, -⟩ := cp_f1 f hf
    rw [s1 _ c1 c2 c3 c4]
    exact h4 p f hp ht hf
  · intro i k hi hk
    rw [s1 (53 + k) (by omega) (by omega) (by omega) (by omega)]
    exact h5 i k hi hk
theorem upd_ne (f : Nat → Int32) {k j : Nat} (v : Int32) (h : j ≠ k) : upd f k v j = f j := if_neg h
/-- a number of a group is another one -/
theorem Rel.grp (h : Rel V M) {g f : Nat} (hg : g < 12) (hf : f < 34) (hc : cg f ≠ 99) (h9 : f ≠ 9) (x : Int32) : Rel (sx V (cg f) (upd (V.1 (cg f)) g x)) (upd M (7 + 34 * g + f) x) := by
  obtain ⟨h1, h2, h3, h4, h5⟩ := h
  obtain ⟨c1, c2, c3, c4, c0, c52, c24, c9⟩ := cg_f1 f hf
  have e2 : (sx V (cg f) (upd (V.1 (cg f)) g x)).1 2 = V.1 2 := up_n _ _ (fun q => h9 (c9 q.symm))
  have e24 : (sx V (cg f) (upd (V.1 (cg f)) g x)).1 24 = V.1 24 := up_n _ _ (Ne.symm c24)
  have e0 : (sx V (cg f) (upd (V.1 (cg f)) g x)).1 0 = V.1 0 := up_n _ _ (Ne.symm c0)
  have e52 : (sx V (cg f) (upd (V.1 (cg f)) g x)).1 52 = V.1 52 := up_n _ _ (Ne.symm c52)
  refine ⟨?_, ?_, ?_, ?_, ?_⟩
  · unfold RelS at h1 ⊢
    rw [thV_same e2, phV_same e24, e0, e52, upd_ne _ _ (by omega), upd_ne _ _ (by omega), upd_ne _ _ (by omega), upd_ne _ _ (by omega), upd_ne _ _ (by omega), upd_ne _ _ (by omega), upd_ne _ _ (by omega)]; exact h1
  · intro g' f' hg' ht hf' hc'
    rw [thV_same e2] at ht
    by_cases ef : f' = f
    · subst ef
      rw [sx_1, up_s]
      by_cases eg : g' = g
      · subst eg; rw [upd_s, upd_s]
      · rw [upd_ne _ _ (by omega), upd_ne _ _ eg]; exact h2 g' f' hg' ht hf' hc'
    · rw [sx_1, up_n _ _ (fun q => ef (cg_inj f' hf' f hf q hc')), upd_ne _ _ (by omega)]
      exact h2 g' f' hg' ht hf' hc'
  · intro g' k hg' ht hk
    rw [thV_same e2] at ht
    have n1 : 18 + 2 * k ≠ f := fun q => hc (by rw [← q]; exact (by decide : ∀ k, k < 3 → cg (18 + 2 * k) = 99) k hk)
    have n2 : 18 + 2 * k + 1 ≠ f := fun q => hc (by rw [← q]; exact (by decide : ∀ k, k < 3 → cg (18 + 2 * k + 1) = 99) k hk)
    rw [upd_ne _ _ (by omega), upd_ne _ _ (by omega)]
    exact h3 g' k hg' ht hk
  · intro p e hp ht he
    rw [phV_same e24] at ht
    rw [sx_1, up_n _ _ (fun q => cg_cp f hf e he q.symm), upd_ne _ _ (by omega)]
    exact h4 p e hp ht he
  · intro i k hi hk
    rw [sx_1, up_n _ _ (fun q => cg_t f hf k hk q.symm), upd_ne _ _ (by omega)]
    exact h5 i k hi hk
/-- a number of a process is another one -/
theorem Rel.prc (h : Rel V M) {p f : Nat} (hp : p < 16) (hf : f < 8) (h0 : f ≠ 0) (x : Int32) : Rel (sx V (cp f) (upd (V.1 (cp f)) p x)) (upd M (415 + 8 * p + f) x) := by
  obtain ⟨h1, h2, h3, h4, h5⟩ := h
  obtain ⟨c1, c2, c3, c4, c0, c52, c24, c9⟩ := cp_f1 f hf
  have e2 : (sx V (cp f) (upd (V.1 (cp f)) p x)).1 2 = V.1 2 := up_n _ _ (Ne.symm c24)
  have e24 : (sx V (cp f) (upd (V.1 (cp f)) p x)).1 24 = V.1 24 := up_n _ _ (fun q => h0 (c9 q.symm))
  have e0 : (sx V (cp f) (upd (V.1 (cp f)) p x)).1 0 = V.1 0 := up_n _ _ (Ne.symm c0)
  have e52 : (sx V (cp f) (upd (V.1 (cp f)) p x)).1 52 = V.1 52 := up_n _ _ (Ne.symm c52)
  refine ⟨?_, ?_, ?_, ?_, ?_⟩
  · unfold RelS at h1 ⊢
    rw [thV_same e2, phV_same e24, e0, e52, upd_ne _ _ (by omega), upd_ne _ _ (by omega), upd_ne _ _ (by omega), upd_ne _ _ (by omega), upd_ne _ _ (by omega), upd_ne _ _ (by omega), upd_ne _ _ (by omega)]; exact h1
  · intro g' f' hg' ht hf' hc'
    rw [thV_same e2] at ht
    rw [sx_1, up_n _ _ (fun q => cg_cp f' hf' f hf q), upd_ne _ _ (by omega)]
    exact h2 g' f' hg' ht hf' hc'
  · intro g' k hg' ht hk
    rw [thV_same e2] at ht
    rw [upd_ne _ _ (by omega), upd_ne _ _ (by omega)]
    exact h3 g' k hg' ht hk
  · intro q e hq ht he
    rw [phV_same e24] at ht
    by_cases ef : e = f
    · subst ef
      rw [sx_1, up_s]
      by_cases eg : q = p
      · subst eg; rw [upd_s, upd_s]
      · rw [upd_ne _ _ (by omega), upd_ne _ _ eg]; exact h4 q e hq ht he
    · rw [sx_1, up_n _ _ (fun w => ef (cp_inj e he f hf w)), upd_ne _ _ (by omega)]
      exact h4 q e hq ht he
  · intro i k hi hk
    rw [sx_1, up_n _ _ (fun q => cp_t f hf k hk q.symm), upd_ne _ _ (by omega)]
    exact h5 i k hi hk
end REL
