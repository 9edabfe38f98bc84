section CROWD
variable {V : WV} {w : Nat} {P : WV → Hp}
theorem cl2 {w : Nat} {P : WV → Hp} (h : LC w P) :
    (∀ V : WV, aR (P V) (w + 26) 15 0 = some (w + 27)) ∧
    (∀ V : WV, aR (P V) (w + 26) 15 1 = some (w + 28)) ∧
    (∀ (V : WV) (i : Nat), i < 16 → aI (P V) (w + 27) (nI i) = some (V.1 27 i)) ∧
    (∀ (V : WV) (i : Nat), i < 16 → aI (P V) (w + 28) (nI i) = some (V.1 28 i)) ∧
    (∀ (V : WV) (i : Nat) (x : Int32), i < 16 → sI (P V) (w + 27) (nI i) x = some (P (sx V 27 (upd (V.1 27) i x)))) ∧
    (∀ (V : WV) (i : Nat) (x : Int32), i < 16 → sI (P V) (w + 28) (nI i) x = some (P (sx V 28 (upd (V.1 28) i x)))) :=
  ⟨fun V => h.ldr (o := 26) (i := 0) (by decide) (by decide) rfl (by decide) (len := 2) (by decide) rfl,
   fun V => h.ldr (o := 26) (i := 1) (by decide) (by decide) rfl (by decide) (len := 2) (by decide) rfl,
   fun V i hi => h.ldi (o := 27) (by decide) (by decide) rfl (by decide) hi,
   fun V i hi => h.ldi (o := 28) (by decide) (by decide) rfl (by decide) hi,
   fun V i x hi => h.sti (o := 27) (by decide) (by decide) rfl (by decide) hi,
   fun V i x hi => h.sti (o := 28) (by decide) (by decide) rfl (by decide) hi⟩
/-- a process is there -/
def phV (V : WV) (p : Nat) : Bool := decide (V.1 24 p ≠ -1)
theorem s_phas (hP : LC w P) (g : Int32) : F_X0_has (P V) (w + 23) g = some (if inb g 16 && phV V g.toNatClampNeg then 1 else 0) := by
  unfold F_X0_has
  by_cases h1 : g < 0
  · simp [h1, inb]
  · by_cases h2 : 16 ≤ g
    · have : inb g 16 = false := by
        obtain ⟨j, hj, rfl⟩ := nI_of h1
        rw [h16I, nI_leI (by omega) hj] at h2
        simp [inb, nI_clamp hj]
        omega
      simp [h1, h2, this]
    · obtain ⟨j, hj, rfl⟩ := nI_of h1
      have hj16 : j < 16 := by
        rw [h16I, nI_leI (by omega) hj] at h2
        omega
      rw [if_neg h1, if_neg h2]
      simp only [cl hP, Option.bind_some, hj16, inb_nI hj16 (by decide), nI_clamp hj, phV, Bool.true_and]
      by_cases h3 : V.1 24 j = -1
      · simp [h3]
      · simp [h3]
theorem s_phas' (hP : LC w P) {g : Nat} (hg : g < 16) : F_X0_has (P V) (w + 23) (nI g) = some (if phV V g then 1 else 0) := by
  rw [s_phas hP, inb_nI hg (by decide), nI_clamp (by omega)]
  rfl
theorem s_pfirst (hP : LC w P) : F_X0_firstFree (P V) (w + 23) = some (match ffI 16 (phV V) with | none => -1 | some g => nI g) := by
  have key := loop_first (st := fun x => F_X0_firstFree_L2 (P V) (w + 23) x) (fun i => nI i) (fun i => if (fun g => !phV V g) i then some (.inl (nI i)) else none) (.inr ()) 16
    (fun i hi => by
      show F_X0_firstFree_L2 (P V) (w + 23) (nI i) = _
      unfold F_X0_firstFree_L2
      rw [h16I, if_neg (nI_ge hi (by decide))]
      simp only [cl hP, Option.bind_some, hi, bl, nI_1, phV]
      by_cases h : V.1 24 i = -1
      · simp [h]
      · simp [h])
    (by
      show F_X0_firstFree_L2 (P V) (w + 23) (nI 16) = _
      unfold F_X0_firstFree_L2
      rw [h16I, if_pos (nI_le (Nat.le_refl _) (by decide))])
    16 0 6000 (by decide) (by decide)
  unfold F_X0_firstFree
  rw [h0I, key, find_some, ← List.range_eq_range']
  unfold ffI
  cases (List.range 16).find? (fun g => !phV V g) <;> rfl
def heldV (V : WV) (p : Nat) : Int32 := V.1 27 p + V.1 28 p
def badV (V : WV) (p : Nat) : Int32 := heldV V p + V.1 29 p + 10 * V.1 25 p
theorem s_held (hP : LC w P) {p : Nat} (hp : p < 16) : F_X0_held (P V) (w + 23) (nI p) = some (heldV V p) := by
  unfold F_X0_held
  simp only [cl hP, cl2 hP, Option.bind_some, hp]
  rfl
theorem s_bad (hP : LC w P) {p : Nat} (hp : p < 16) : F_X0_badness (P V) (w + 23) (nI p) = some (badV V p) := by
  unfold F_X0_badness
  simp only [cl hP, s_held hP hp, Option.bind_some, hp]
  rfl
/-- a process is put, or (home -1, adj 0) it is no more -/
def putP (V : WV) (p : Nat) (g a : Int32) : WV := sx (sx (sx (sx (sx (sx (sx (sx V 24 (upd (V.1 24) p g)) 25 (upd (V.1 25) p a)) 27 (upd (V.1 27) p 0)) 28 (upd (V.1 28) p 0)) 29 (upd (V.1 29) p 0)) 30 (upd (V.1 30) p 0)) 31 (upd (V.1 31) p 0)) 32 (upd (V.1 32) p 0)
theorem s_putP (hP : LC w P) {p : Nat} (hp : p < 16) (g a : Int32) : F_X0_putProcess (P V) (w + 23) (nI p) g a = some (P (putP V p g a)) := by
  unfold F_X0_putProcess
  simp only [cl hP, cl2 hP, Option.bind_some, hp]
  rfl
def addSt (V : WV) (p : Nat) (t : Int32) : WV := sx V 30 (upd (V.1 30) p (mnI 20 (V.1 30 p + t)))
theorem s_addStall (hP : LC w P) {p : Nat} (hp : p < 16) (t : Int32) : F_X0_addStall (P V) (w + 23) (nI p) t = some (P (addSt V p t)) := by
  unfold F_X0_addStall
  simp only [cl hP, Option.bind_some, hp]
  rfl
def fadeF (V : WV) : WV := sx V 30 (fun p => if p < 16 then mxI 0 (V.1 30 p - 1) else V.1 30 p)
theorem s_fade (hP : LC w P) : F_X0_fadeStalls (P V) (w + 23) = some (P (fadeF V)) := by
  obtain ⟨a, ha, hI⟩ := loop_inv (st := fun x => F_X0_fadeStalls_L2 (w + 23) x.1 x.2) (fun i (f : Nat → Int32) => (nI i, P (sx V 30 f))) (fun f => P (sx V 30 f)) (fun i f => f = fun p => if p < i then mxI 0 (V.1 30 p - 1) else V.1 30 p) 16
    (fun i f hi hf => by
      refine ⟨upd f i (mxI 0 (f i - 1)), ?_, ?_⟩
      · show F_X0_fadeStalls_L2 (w + 23) (nI i) (P (sx V 30 f)) = _
        unfold F_X0_fadeStalls_L2
        rw [h16I, if_neg (nI_ge hi (by decide))]
        simp only [cl hP, Option.bind_some, hi, bl, nI_1, sx_sx, sx_1, up_s]
      · rw [hf]
        funext k
        by_cases e : k = i
        · subst e; simp [upd]
        · have : k < i + 1 ↔ k < i := by omega
          simp [upd, e, this])
    (fun f hf => by
      show F_X0_fadeStalls_L2 (w + 23) (nI 16) _ = _
      unfold F_X0_fadeStalls_L2
      rw [h16I, if_pos (nI_le (Nat.le_refl _) (by decide))])
    16 0 6000 (V.1 30) (by decide) (by decide) (by funext k; simp)
  have e1 : loopF (fun x => F_X0_fadeStalls_L2 (w + 23) x.1 x.2) 6000 (0, P V) = some (P (sx V 30 a)) := by
    rw [← ha]
    show _ = loopF _ 6000 (nI 0, P (sx V 30 (V.1 30)))
    rw [sx_id]; rfl
  unfold F_X0_fadeStalls
  rw [e1, hI]
  rfl
/-- pages of a kind of the processes in one group -/
def pgIn (V : WV) (g : Int32) (k : Nat) : Int32 := smI (List.range 16) (fun p => if V.1 24 p = g then V.1 (27 + k) p else 0)
theorem foldl_sm0 (f : Nat → Int32) (l : List Nat) : l.foldl (fun a i => a + f i) 0 = smI l f := by rw [foldl_sm, Int32.zero_add]
theorem s_pagesIn (hP : LC w P) (g : Int32) {k : Nat} (hk : k < 2) : F_X0_pagesIn (P V) (w + 23) g (nI k) = some (pgIn V g k) := by
  have h := loop_rng (st := fun x => F_X0_pagesIn_L5 (P V) (w + 23) g (nI k) x.1 x.2) (fun i (a : Int32) => (a, nI i)) (fun a p => a + (if V.1 24 p = g then V.1 (27 + k) p else 0)) (fun a => a) 16
    (fun i a hi => by
      show F_X0_pagesIn_L5 (P V) (w + 23) g (nI k) a (nI i) = _
      unfold F_X0_pagesIn_L5
      rw [h16I, if_neg (nI_ge hi (by decide))]
      simp only [cl hP, Option.bind_some, hi, hk, bl, nI_1]
      by_cases e : V.1 24 i = g
      · simp only [e, if_true, Option.bind_some]
      · simp only [e, if_false, Option.bind_some])
    (fun a => by
      show F_X0_pagesIn_L5 (P V) (w + 23) g (nI k) a (nI 16) = _
      unfold F_X0_pagesIn_L5
      rw [h16I, if_pos (nI_le (Nat.le_refl _) (by decide))])
    (n := 6000) (by decide) 0
  rw [foldl_sm0] at h
  unfold F_X0_pagesIn
  have h' : loopF (fun x => F_X0_pagesIn_L5 (P V) (w + 23) g (nI k) x.1 x.2) 6000 (0, 0) = _ := h
  rw [h']
  rfl
theorem s_own (hP : LC w P) (g : Int32) : F_X0_ownPages (P V) (w + 23) g = some (pgIn V g 0 + pgIn V g 1) := by
  unfold F_X0_ownPages
  have h0 := s_pagesIn (V := V) hP g (k := 0) (by decide)
  have h1 := s_pagesIn (V := V) hP g (k := 1) (by decide)
  have e0 : F_X0_pagesIn (P V) (w + 23) g 0 = some (pgIn V g 0) := h0
  have e1 : F_X0_pagesIn (P V) (w + 23) g 1 = some (pgIn V g 1) := h1
  simp only [cl hP, e0, e1, Option.bind_some]
def pgAll (V : WV) (k : Nat) : Int32 := smI (List.range 16) (fun p => V.1 (27 + k) p)
theorem s_allPages (hP : LC w P) {k : Nat} (hk : k < 2) : F_X0_allPages (P V) (w + 23) (nI k) = some (pgAll V k) := by
  have h := loop_rng (st := fun x => F_X0_allPages_L4 (P V) (w + 23) (nI k) x.1 x.2) (fun i (a : Int32) => (a, nI i)) (fun a p => a + V.1 (27 + k) p) (fun a => a) 16
    (fun i a hi => by
      show F_X0_allPages_L4 (P V) (w + 23) (nI k) a (nI i) = _
      unfold F_X0_allPages_L4
      rw [h16I, if_neg (nI_ge hi (by decide))]
      simp only [cl hP, Option.bind_some, hi, hk, bl, nI_1])
    (fun a => by
      show F_X0_allPages_L4 (P V) (w + 23) (nI k) a (nI 16) = _
      unfold F_X0_allPages_L4
      rw [h16I, if_pos (nI_le (Nat.le_refl _) (by decide))])
    (n := 6000) (by decide) 0
  rw [foldl_sm0] at h
  unfold F_X0_allPages
  have h' : loopF (fun x => F_X0_allPages_L4 (P V) (w + 23) (nI k) x.1 x.2) 6000 (0, 0) = _ := h
  rw [h']
  rfl
def anyTodo (V : WV) : Bool := (List.range 16).any (fun p => decide (¬ V.1 31 p ≤ 0))
theorem find_any (p : Nat → Bool) : ∀ l : List Nat, (l.find? p).isSome = l.any p
  | [] => rfl
  | x :: l => by
    cases h : p x
    · simp [List.find?_cons, h, find_any p l]
    · simp [List.find?_cons, h]
theorem s_hasTodo (hP : LC w P) : F_X0_hasTodo (P V) (w + 23) = some (if anyTodo V then 1 else 0) := by
  have key := loop_first (st := fun x => F_X0_hasTodo_L2 (P V) (w + 23) x) (fun i => nI i) (fun i => if (fun p => decide (¬ V.1 31 p ≤ 0)) i then some (.inl 1) else none) (.inr ()) 16
    (fun i hi => by
      show F_X0_hasTodo_L2 (P V) (w + 23) (nI i) = _
      unfold F_X0_hasTodo_L2
      rw [h16I, if_neg (nI_ge hi (by decide))]
      simp only [cl hP, Option.bind_some, hi, bl, nI_1]
      by_cases h : V.1 31 i ≤ 0
      · simp [h]
      · simp [h])
    (by
      show F_X0_hasTodo_L2 (P V) (w + 23) (nI 16) = _
      unfold F_X0_hasTodo_L2
      rw [h16I, if_pos (nI_le (Nat.le_refl _) (by decide))])
    16 0 6000 (by decide) (by decide)
  unfold F_X0_hasTodo
  rw [h0I, key, find_some, ← List.range_eq_range']
  unfold anyTodo
  rw [← find_any]
  cases (List.range 16).find? (fun p => decide (¬ V.1 31 p ≤ 0)) <;> rfl
/-- the greatest of f over those of a list that q keeps, the first of them; none where none is above 0 -/
def richF (q : Nat → Bool) (f : Nat → Int32) (l : List Nat) : Int32 × Int32 := l.foldl (fun a p => if q p && decide (¬ f p ≤ a.2) then (nI p, f p) else a) (-1, 0)
theorem s_richestIn (hP : LC w P) (g : Int32) {k : Nat} (hk : k < 2) : F_X0_richestIn (P V) (w + 23) g (nI k) = some (richF (fun p => decide (V.1 24 p = g)) (V.1 (27 + k)) (List.range 16)).1 := by
  have h := loop_rng (st := fun x => F_X0_richestIn_L8 (P V) (w + 23) g (nI k) x.1 x.2.1 x.2.2) (fun i (a : Int32 × Int32) => (a.1, a.2, nI i)) (fun a p => if decide (V.1 24 p = g) && decide (¬ V.1 (27 + k) p ≤ a.2) then (nI p, V.1 (27 + k) p) else a) (fun a => a.1) 16
    (fun i a hi => by
      show F_X0_richestIn_L8 (P V) (w + 23) g (nI k) a.1 a.2 (nI i) = _
      unfold F_X0_richestIn_L8
      rw [h16I, if_neg (nI_ge hi (by decide))]
      simp only [cl hP, Option.bind_some, hi, hk, bl, nI_1]
      by_cases e : V.1 24 i = g
      · by_cases e2 : V.1 (27 + k) i ≤ a.2
        · simp [e, e2]
        · simp [e, e2]
      · simp [e])
    (fun a => by
      show F_X0_richestIn_L8 (P V) (w + 23) g (nI k) a.1 a.2 (nI 16) = _
      unfold F_X0_richestIn_L8
      rw [h16I, if_pos (nI_le (Nat.le_refl _) (by decide))])
    (n := 6000) (by decide) (-1, 0)
  unfold F_X0_richestIn
  have h' : loopF (fun x => F_X0_richestIn_L8 (P V) (w + 23) g (nI k) x.1 x.2.1 x.2.2) 6000 (-1, 0, 0) = _ := h
  rw [h']
  rfl
end CROWD
