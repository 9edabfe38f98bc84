theorem fold_sx (o : Nat) (d : Int32) : ∀ (l : List Nat) (k : Nat) (V : WV), l.foldl (fun (a : Nat × WV) r => (a.1 + 1, sx a.2 o (upd (a.2.1 o) r (a.2.1 o r + d)))) (k, V) = (k + l.length, sx V o (addTo (V.1 o) l d))
  | [], k, V => by simp [addTo, sx_id]
  | x :: l, k, V => by
    rw [List.foldl_cons, fold_sx o d l]
    simp only [sx_sx, sx_1, up_s, List.length_cons]
    exact Prod.ext (by simp only; omega) rfl
theorem loop_lfirst {σ ρ : Type} {st : σ → Option (σ ⊕ ρ)} (e : List Nat → Nat → σ) (g : Nat → Option ρ) (r0 : ρ) (J : List Nat → Nat → Prop) (hs : ∀ x l k, J (x :: l) k → (g x = none → J l (k + 1)) ∧ st (e (x :: l) k) = match g x with | none => some (.inl (e l (k + 1))) | some r => some (.inr r)) (hx : ∀ k, J [] k → st (e [] k) = some (.inr r0)) :
    ∀ (l : List Nat) (n k : Nat), l.length < n → J l k → loopF st n (e l k) = some ((l.findSome? g).getD r0)
  | [], n, k, hn, hk => by
    obtain ⟨n, rfl⟩ : ∃ q, n = q + 1 := ⟨n - 1, by simp at hn; omega⟩
    simp [loopF, hx k hk]
  | x :: l, n, k, hn, hk => by
    obtain ⟨n, rfl⟩ : ∃ q, n = q + 1 := ⟨n - 1, by simp at hn; omega⟩
    obtain ⟨h1, h2⟩ := hs x l k hk
    cases hg : g x with
    | none =>
      rw [hg] at h2
      have ih := loop_lfirst e g r0 J hs hx l n (k + 1) (by simp at hn; omega) (h1 hg)
      simp only [loopF, h2, Option.bind_some, List.findSome?_cons, hg]
      exact ih
    | some q =>
      rw [hg] at h2
      simp [loopF, h2, List.findSome?_cons, hg]
section TREE3
variable {V : WV} {n : Nat} {o : Nat → Nat} {w : Nat} {P : WV → Hp}
theorem s_addTotal_step (hP : LT w P) (hO : OrdOK V n o) {x : Nat} {l : List Nat} (hs : Sfx (thV V) (pfV V) (x :: l)) {U : WV} (hU : U.1 2 = V.1 2) {k : Nat} (hk : k < 12) (d : Int32) :
    F_X6_addTotal_L5 (w + 1) d (hd (x :: l)) (nI k) (P U) = some (.inl (hd l, nI (k + 1), P (sx U 15 (upd (U.1 15) x (U.1 15 x + d))))) := by
  obtain ⟨hx, ht, -, -, -⟩ := hs.cons hO.tree
  have h12 : (12 : Int32) = nI 12 := rfl
  have hv := hO.hdv hs
  unfold F_X6_addTotal_L5
  simp only [hd, if_neg (nI_ne1 (show x < 2 ^ 31 by omega)), h12, if_neg (nI_ge hk (by decide)), tl hP, Option.bind_some, hx, bl, nI_1, sx_1, up_n _ _ (show (2 : Nat) ≠ 15 by decide), hU, hv]
theorem s_addTotal (hP : LT w P) (hO : OrdOK V n o) {g : Nat} (hg : g < 12) (ht : thV V g = true) (d : Int32) : F_X6_addTotal (P V) (w + 1) (nI g) d = some (P (sx V 15 (addTo (V.1 15) (pth (pfV V) g) d))) := by
  have key := (loop_list (st := fun x => F_X6_addTotal_L5 (w + 1) d x.1 x.2.1 x.2.2) (fun l (a : Nat × WV) => (hd l, nI a.1, P a.2)) (fun a r => (a.1 + 1, sx a.2 15 (upd (a.2.1 15) r (a.2.1 15 r + d)))) (fun a => P a.2)
    (fun l a => a.1 + l.length ≤ 12 ∧ Sfx (thV V) (pfV V) l ∧ a.2.1 2 = V.1 2)
    (fun x l a h => by
      obtain ⟨h1, h2, h3⟩ := h
      simp only [List.length_cons] at h1
      exact ⟨s_addTotal_step hP hO h2 h3 (by omega) d, by simp only; omega, (h2.cons hO.tree).2.2.2.1, by simp only [sx_1, up_n _ _ (show (2 : Nat) ≠ 15 by decide), h3]⟩)
    (fun a h => by
      show F_X6_addTotal_L5 (w + 1) d (-1) (nI a.1) (P a.2) = some (.inr (P a.2))
      unfold F_X6_addTotal_L5
      rw [if_pos rfl])
    (pth (pfV V) g) 6000 (0, V) (by have := pth_len (pfV V) g; omega) ⟨by have := pth_len (pfV V) g; simp only; omega, Sfx.pth hg ht, rfl⟩).1
  unfold F_X6_addTotal
  rw [fold_sx] at key
  have e1 : hd (pth (pfV V) g) = nI g := by rw [pth_cons hO.tree hg ht]; rfl
  simp only [e1] at key
  rw [show (0 : Int32) = nI 0 from rfl, key]
  rfl
theorem s_addOut_step (hP : LT w P) (hO : OrdOK V n o) {x : Nat} {l : List Nat} (hs : Sfx (thV V) (pfV V) (x :: l)) {U : WV} (hU : U.1 2 = V.1 2) {k : Nat} (hk : k < 12) (d : Int32) :
    F_X6_addOut_L5 (w + 1) d (hd (x :: l)) (nI k) (P U) = some (.inl (hd l, nI (k + 1), P (sx U 16 (upd (U.1 16) x (U.1 16 x + d))))) := by
  obtain ⟨hx, ht, -, -, -⟩ := hs.cons hO.tree
  have h12 : (12 : Int32) = nI 12 := rfl
  have hv := hO.hdv hs
  unfold F_X6_addOut_L5
  simp only [hd, if_neg (nI_ne1 (show x < 2 ^ 31 by omega)), h12, if_neg (nI_ge hk (by decide)), tl hP, Option.bind_some, hx, bl, nI_1, sx_1, up_n _ _ (show (2 : Nat) ≠ 16 by decide), hU, hv]
theorem s_addOut (hP : LT w P) (hO : OrdOK V n o) {g : Nat} (hg : g < 12) (ht : thV V g = true) (d : Int32) : F_X6_addOut (P V) (w + 1) (nI g) d = some (P (sx V 16 (addTo (V.1 16) (pth (pfV V) g) d))) := by
  have key := (loop_list (st := fun x => F_X6_addOut_L5 (w + 1) d x.1 x.2.1 x.2.2) (fun l (a : Nat × WV) => (hd l, nI a.1, P a.2)) (fun a r => (a.1 + 1, sx a.2 16 (upd (a.2.1 16) r (a.2.1 16 r + d)))) (fun a => P a.2)
    (fun l a => a.1 + l.length ≤ 12 ∧ Sfx (thV V) (pfV V) l ∧ a.2.1 2 = V.1 2)
    (fun x l a h => by
      obtain ⟨h1, h2, h3⟩ := h
      simp only [List.length_cons] at h1
      exact ⟨s_addOut_step hP hO h2 h3 (by omega) d, by simp only; omega, (h2.cons hO.tree).2.2.2.1, by simp only [sx_1, up_n _ _ (show (2 : Nat) ≠ 16 by decide), h3]⟩)
    (fun a h => by
      show F_X6_addOut_L5 (w + 1) d (-1) (nI a.1) (P a.2) = some (.inr (P a.2))
      unfold F_X6_addOut_L5
      rw [if_pos rfl])
    (pth (pfV V) g) 6000 (0, V) (by have := pth_len (pfV V) g; omega) ⟨by have := pth_len (pfV V) g; simp only; omega, Sfx.pth hg ht, rfl⟩).1
  unfold F_X6_addOut
  rw [fold_sx] at key
  have e1 : hd (pth (pfV V) g) = nI g := by rw [pth_cons hO.tree hg ht]; rfl
  simp only [e1] at key
  rw [show (0 : Int32) = nI 0 from rfl, key]
  rfl
/-- the first of a path that n pages more would put above MAX -/
def fstAb (V : WV) (g : Nat) (n : Int32) : Option Nat := (pth (pfV V) g).find? (fun r => decide (¬ V.1 15 r + n ≤ V.1 8 r))
theorem find_some {α : Type} (p : Nat → Bool) (f : Nat → α) : ∀ l : List Nat, l.findSome? (fun x => if p x then some (f x) else none) = (l.find? p).map f
  | [] => rfl
  | x :: l => by
    cases h : p x
    · simp [List.findSome?_cons, List.find?_cons, h, find_some p f l]
    · simp [List.findSome?_cons, List.find?_cons, h]
theorem s_firstAbove (hP : LT w P) (hO : OrdOK V n o) {g : Nat} (hg : g < 12) (ht : thV V g = true) (d : Int32) : F_X6_firstAboveMax (P V) (w + 1) (nI g) d = some (match fstAb V g d with | none => -1 | some r => nI r) := by
  have key := loop_lfirst (st := fun x => F_X6_firstAboveMax_L5 (P V) (w + 1) d x.1 x.2) (fun l k => (hd l, nI k)) (fun x => if decide (¬ V.1 15 x + d ≤ V.1 8 x) then some (.inl (nI x)) else none) (.inr ())
    (fun l k => k + l.length ≤ 12 ∧ Sfx (thV V) (pfV V) l)
    (fun x l k h => by
      obtain ⟨h1, h2⟩ := h
      simp only [List.length_cons] at h1
      obtain ⟨hx, htx, -, h4, -⟩ := h2.cons hO.tree
      have hv := hO.hdv h2
      refine ⟨fun _ => ⟨by omega, h4⟩, ?_⟩
      have h12 : (12 : Int32) = nI 12 := rfl
      have h3 : (3 : Int32) = nI 3 := rfl
      show F_X6_firstAboveMax_L5 (P V) (w + 1) d (nI x) (nI k) = _
      unfold F_X6_firstAboveMax_L5
      simp only [if_neg (nI_ne1 (show x < 2 ^ 31 by omega)), h12, if_neg (nI_ge (show k < 12 by omega) (by decide)), tl hP, Option.bind_some, hx, bl, nI_1, h3, show (3 : Nat) < 9 by decide, hv]
      by_cases hc : V.1 15 x + d ≤ V.1 8 x
      · simp [hc]
      · simp [hc])
    (fun k h => by
      show F_X6_firstAboveMax_L5 (P V) (w + 1) d (-1) (nI k) = _
      unfold F_X6_firstAboveMax_L5
      rw [if_pos rfl])
    (pth (pfV V) g) 6000 0 (by have := pth_len (pfV V) g; omega) ⟨by have := pth_len (pfV V) g; omega, Sfx.pth hg ht⟩
  unfold F_X6_firstAboveMax
  have e1 : hd (pth (pfV V) g) = nI g := by rw [pth_cons hO.tree hg ht]; rfl
  rw [e1] at key
  rw [show (0 : Int32) = nI 0 from rfl, key, find_some]
  unfold fstAb
  cases (pth (pfV V) g).find? (fun r => decide (¬ V.1 15 r + d ≤ V.1 8 r)) <;> rfl
theorem s_pathBits (hP : LT w P) (hO : OrdOK V n o) {g : Nat} (hg : g < 12) (ht : thV V g = true) : F_X6_pathBits (P V) (w + 1) (nI g) = some (mkB 12 (fun r => blw (pfV V) r g)) := by
  have key := (loop_list (st := fun x => F_X6_pathBits_L7 (P V) (w + 1) x.1 x.2.1 x.2.2) (fun l (a : Nat × Int32) => (a.2, hd l, nI a.1)) (fun a r => (a.1 + 1, a.2 ||| (1 <<< (nI r &&& 31)))) (fun a => a.2)
    (fun l a => a.1 + l.length ≤ 12 ∧ Sfx (thV V) (pfV V) l)
    (fun x l a h => by
      obtain ⟨h1, h2⟩ := h
      simp only [List.length_cons] at h1
      obtain ⟨hx, htx, -, h4, -⟩ := h2.cons hO.tree
      have hv := hO.hdv h2
      have h12 : (12 : Int32) = nI 12 := rfl
      refine ⟨?_, by simp only; omega, h4⟩
      show F_X6_pathBits_L7 (P V) (w + 1) a.2 (nI x) (nI a.1) = _
      unfold F_X6_pathBits_L7
      simp only [if_neg (nI_ne1 (show x < 2 ^ 31 by omega)), h12, if_neg (nI_ge (show a.1 < 12 by omega) (by decide)), tl hP, Option.bind_some, hx, bl, nI_1, hv])
    (fun a h => by
      show F_X6_pathBits_L7 (P V) (w + 1) a.2 (-1) (nI a.1) = _
      unfold F_X6_pathBits_L7
      rw [if_pos rfl])
    (pth (pfV V) g) 6000 (0, 0) (by have := pth_len (pfV V) g; omega) ⟨by have := pth_len (pfV V) g; simp only; omega, Sfx.pth hg ht⟩).1
  unfold F_X6_pathBits
  have e1 : hd (pth (pfV V) g) = nI g := by rw [pth_cons hO.tree hg ht]; rfl
  simp only [e1] at key
  rw [show loopF (fun x => F_X6_pathBits_L7 (P V) (w + 1) x.1 x.2.1 x.2.2) 6000 (0, nI g, 0) = loopF (fun x => F_X6_pathBits_L7 (P V) (w + 1) x.1 x.2.1 x.2.2) 6000 (0, nI g, nI 0) from rfl, key, Option.bind_some]
  congr 1
  refine mkB_eq (by decide) (fun i hi => ?_)
  have hf : ∀ (l : List Nat) (k : Nat) (a : Int32), (l.foldl (fun (a : Nat × Int32) r => (a.1 + 1, a.2 ||| (1 <<< (nI r &&& 31)))) (k, a)).2 = l.foldl (fun a r => a ||| (if (fun _ => true) r then 1 <<< (nI r &&& 31) else 0)) a := by
    intro l
    induction l with
    | nil => intro k a; rfl
    | cons x l ih => intro k a; rw [List.foldl_cons, List.foldl_cons, ih]; rfl
  have hm : ∀ x ∈ pth (pfV V) g, x < 12 := fun x hx => (pth_mem hO.tree _ g (Nat.le_refl _) hg ht x hx).1
  rw [hf, bt_foldB hi _ _ (fun x hx => by have := hm x hx; omega), b_0]
  by_cases hx : i ∈ pth (pfV V) g
  · simp [blw, hx, hm i hx]
  · simp [blw, hx]
/-- the lowest of both paths -/
def lca (pf : Nat → Option Nat) (g q : Nat) : Nat := ((pth pf g).find? (fun x => blw pf x q)).getD 0
theorem pth_root {th : Nat → Bool} {pf : Nat → Option Nat} {rk : Nat → Nat} (h : Ranked th pf rk) : ∀ (n g : Nat), rk g < n → g < 12 → th g = true → 0 ∈ pth pf g
  | 0, _, h1, _, _ => absurd h1 (Nat.not_lt_zero _)
  | n + 1, g, h1, hg, ht => by
    rw [pth_cons ⟨rk, h⟩ hg ht]
    by_cases e : g = 0
    · subst e; simp
    · obtain ⟨q, hq, hq1, hq2, hq3⟩ := h.2.2.2 g hg ht e
      rw [hq]
      exact List.mem_cons_of_mem _ (pth_root h n q (by omega) hq1 hq2)
theorem blw_root {th : Nat → Bool} {pf : Nat → Option Nat} (h : TreeOK th pf) {g : Nat} (hg : g < 12) (ht : th g = true) : blw pf 0 g = true := by
  obtain ⟨rk, h⟩ := h
  simp [blw, pth_root h _ g (Nat.lt_succ_self _) hg ht]
theorem s_common (hP : LT w P) (hO : OrdOK V n o) {g q : Nat} (hg : g < 12) (ht : thV V g = true) (hq : q < 12) (hqt : thV V q = true) : F_X6_lowestCommon (P V) (w + 1) (nI g) (nI q) = some (nI (lca (pfV V) g q)) := by
  have hb : ∀ x, x < 12 → bt (mkB 12 (fun r => blw (pfV V) r q)) x = blw (pfV V) x q := fun x hx => by
    rw [bt_mkB (by decide) (by omega)]; simp [hx]
  have key := loop_lfirst (st := fun x => F_X6_lowestCommon_L12 (P V) (w + 1) (mkB 12 (fun r => blw (pfV V) r q)) x.1 x.2) (fun l k => (hd l, nI k)) (fun x => if blw (pfV V) x q then some (nI x) else none) (nI 0)
    (fun l k => k + l.length ≤ 12 ∧ Sfx (thV V) (pfV V) l ∧ l ≠ [])
    (fun x l k h => by
      obtain ⟨h1, h2, -⟩ := h
      simp only [List.length_cons] at h1
      obtain ⟨hx, htx, -, h4, h5⟩ := h2.cons hO.tree
      have hv := hO.hdv h2
      have h12 : (12 : Int32) = nI 12 := rfl
      have hnb : ((mkB 12 (fun r => blw (pfV V) r q) >>> (nI x &&& 31)) &&& 1 = 0) ↔ blw (pfV V) x q = false := by rw [bit_no (by omega), hb x hx]
      show _ ∧ F_X6_lowestCommon_L12 (P V) (w + 1) _ (nI x) (nI k) = _
      unfold F_X6_lowestCommon_L12
      cases hbx : blw (pfV V) x q with
      | true =>
        refine ⟨fun h => by simp at h, ?_⟩
        rw [if_neg (fun z => by rw [hnb.mp z] at hbx; cases hbx)]
        rfl
      | false =>
        have hx0 : x ≠ 0 := by
          rintro rfl
          rw [blw_root hO.tree hq hqt] at hbx
          cases hbx
        have hln : l ≠ [] := by
          obtain ⟨rk, hk⟩ := hO.tree
          obtain ⟨q', hq', z1, z2, -⟩ := hk.2.2.2 x hx htx hx0
          rw [hq'] at h5
          rw [← h5]
          show pth (pfV V) q' ≠ []
          rw [pth_cons hO.tree z1 z2]
          simp
        refine ⟨fun _ => ⟨by omega, h4, hln⟩, ?_⟩
        rw [if_pos (hnb.mpr hbx), if_neg (fun z => nI_ne0 (by omega) (by omega) z), h12, if_neg (nI_ge (show k < 12 by omega) (by decide))]
        simp only [tl hP, Option.bind_some, hx, bl, nI_1, hv]
        rfl)
    (fun k h => absurd rfl h.2.2)
    (pth (pfV V) g) 6000 0 (by have := pth_len (pfV V) g; omega) ⟨by have := pth_len (pfV V) g; omega, Sfx.pth hg ht, by rw [pth_cons hO.tree hg ht]; simp⟩
  unfold F_X6_lowestCommon
  have e1 : hd (pth (pfV V) g) = nI g := by rw [pth_cons hO.tree hg ht]; rfl
  rw [e1] at key
  simp only [tl hP, s_pathBits hP hO hq hqt, Option.bind_some]
  rw [show (0 : Int32) = nI 0 from rfl, key, find_some, Option.bind_some]
  unfold lca
  cases (pth (pfV V) g).find? (fun x => blw (pfV V) x q) <;> rfl
theorem s_leastLeft (hP : LT w P) (hO : OrdOK V n o) {g : Nat} (hg : g < 12) (ht : thV V g = true) : F_X6_leastLeft (P V) (w + 1) (nI g) = some ((pth (pfV V) g).foldl (fun a r => mnI a (V.1 8 r - V.1 15 r)) 999) := by
  have key := (loop_list (st := fun x => F_X6_leastLeft_L9 (P V) (w + 1) x.1 x.2.1 x.2.2) (fun l (a : Nat × Int32) => (a.2, hd l, nI a.1)) (fun a r => (a.1 + 1, mnI a.2 (V.1 8 r - V.1 15 r))) (fun a => a.2)
    (fun l a => a.1 + l.length ≤ 12 ∧ Sfx (thV V) (pfV V) l)
    (fun x l a h => by
      obtain ⟨h1, h2⟩ := h
      simp only [List.length_cons] at h1
      obtain ⟨hx, htx, -, h4, -⟩ := h2.cons hO.tree
      have hv := hO.hdv h2
      have h12 : (12 : Int32) = nI 12 := rfl
      have h3 : (3 : Int32) = nI 3 := rfl
      refine ⟨?_, by simp only; omega, h4⟩
      show F_X6_leastLeft_L9 (P V) (w + 1) a.2 (nI x) (nI a.1) = _
      unfold F_X6_leastLeft_L9
      simp only [if_neg (nI_ne1 (show x < 2 ^ 31 by omega)), h12, if_neg (nI_ge (show a.1 < 12 by omega) (by decide)), tl hP, Option.bind_some, hx, bl, nI_1, hv, h3, show (3 : Nat) < 9 by decide])
    (fun a h => by
      show F_X6_leastLeft_L9 (P V) (w + 1) a.2 (-1) (nI a.1) = _
      unfold F_X6_leastLeft_L9
      rw [if_pos rfl])
    (pth (pfV V) g) 6000 (0, 999) (by have := pth_len (pfV V) g; omega) ⟨by have := pth_len (pfV V) g; simp only; omega, Sfx.pth hg ht⟩).1
  unfold F_X6_leastLeft
  have e1 : hd (pth (pfV V) g) = nI g := by rw [pth_cons hO.tree hg ht]; rfl
  simp only [e1] at key
  rw [show loopF (fun x => F_X6_leastLeft_L9 (P V) (w + 1) x.1 x.2.1 x.2.2) 6000 (999, nI g, 0) = loopF (fun x => F_X6_leastLeft_L9 (P V) (w + 1) x.1 x.2.1 x.2.2) 6000 (999, nI g, nI 0) from rfl, key, Option.bind_some]
  congr 1
  have hf : ∀ (l : List Nat) (k : Nat) (a : Int32), (l.foldl (fun (a : Nat × Int32) r => (a.1 + 1, mnI a.2 (V.1 8 r - V.1 15 r))) (k, a)).2 = l.foldl (fun a r => mnI a (V.1 8 r - V.1 15 r)) a := by
    intro l
    induction l with
    | nil => intro k a; rfl
    | cons x l ih => intro k a; rw [List.foldl_cons, List.foldl_cons, ih]
  exact hf _ _ _
end TREE3
