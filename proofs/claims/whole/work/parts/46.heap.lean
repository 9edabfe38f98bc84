/-! a heap out of a list of cells -/
abbrev Cel : Type := (Nat × Nat) × (Nat → Int32) × (Nat → Int64) × (Nat → Option Nat)
def hl (L : List Cel) : Hp := (L.length, fun a => (L[a]?.map fun c => c.1).getD (0, 0), fun a => (L[a]?.map fun c => c.2.1).getD (fun _ => 0), fun a => (L[a]?.map fun c => c.2.2.1).getD (fun _ => 0), fun a => (L[a]?.map fun c => c.2.2.2).getD (fun _ => none))
theorem hl_N (L : List Cel) : mN (hl L) = L.length := rfl
theorem hl_nil : hl [] = hE := by
  unfold hl hE
  simp
theorem hl_T {L : List Cel} {a : Nat} {c : Cel} (h : L[a]? = some c) : mT (hl L) a = c.1 := by simp [mT, hl, h]
theorem hl_X {L : List Cel} {a : Nat} {c : Cel} (h : L[a]? = some c) : mX (hl L) a = c.2.1 := by simp [mX, hl, h]
theorem hl_Y {L : List Cel} {a : Nat} {c : Cel} (h : L[a]? = some c) : mY (hl L) a = c.2.2.1 := by simp [mY, hl, h]
theorem hl_Z {L : List Cel} {a : Nat} {c : Cel} (h : L[a]? = some c) : mZ (hl L) a = c.2.2.2 := by simp [mZ, hl, h]
theorem hl_al (L : List Cel) (t : Nat × Nat) (z : Nat → Option Nat) : mal (hl L) t z = hl (L ++ [(t, fun _ => 0, fun _ => 0, z)]) := by
  have key : ∀ {α : Type} (f : Cel → α) (d x : α) (b : Nat), f (t, fun _ => 0, fun _ => 0, z) = x → va_up (fun a => (L[a]?.map f).getD d) L.length x b = ((L ++ [(t, fun _ => 0, fun _ => 0, z)])[b]?.map f).getD d := by
    intro α f d x b hx
    by_cases e : b = L.length
    · subst e
      simp [va_up, hx]
    · rcases Nat.lt_or_ge b L.length with hlt | hge
      · simp [va_up, e, List.getElem?_append_left hlt]
      · have h1 : L[b]? = none := by simp; omega
        have h2 : (L ++ [(t, fun _ => 0, fun _ => 0, z)])[b]? = none := by
          rw [List.getElem?_eq_none_iff]; simp; omega
        simp [va_up, e, h1, h2]
  unfold mal hl
  refine Prod.ext (by simp) (Prod.ext (funext fun b => ?_) (Prod.ext (funext fun b => ?_) (Prod.ext (funext fun b => ?_) (funext fun b => ?_))))
  · exact key (fun c => c.1) (0, 0) t b rfl
  · exact key (fun c => c.2.1) (fun _ => 0) (fun _ => 0) b rfl
  · exact key (fun c => c.2.2.1) (fun _ => 0) (fun _ => 0) b rfl
  · exact key (fun c => c.2.2.2) (fun _ => none) z b rfl
theorem hl_up {L : List Cel} {a : Nat} {c c' : Cel} (h : L[a]? = some c) {α : Type} (f : Cel → α) (d : α) (b : Nat) : va_up (fun a => (L[a]?.map f).getD d) a (f c') b = ((L.set a c')[b]?.map f).getD d := by
  have hlt : a < L.length := (List.getElem?_eq_some_iff.mp h).1
  rw [List.getElem?_set]
  by_cases e : b = a
  · subst e
    simp [va_up, hlt]
  · simp [va_up, e, Ne.symm e]
theorem hl_same {L : List Cel} {a : Nat} {c c' : Cel} (h : L[a]? = some c) {α : Type} (f : Cel → α) (d : α) (hf : f c' = f c) (b : Nat) : (L[b]?.map f).getD d = ((L.set a c')[b]?.map f).getD d := by
  have hlt : a < L.length := (List.getElem?_eq_some_iff.mp h).1
  rw [List.getElem?_set]
  by_cases e : a = b
  · subst e
    rw [if_pos rfl, if_pos hlt, h]
    show f c = f c'
    rw [hf]
  · simp [e]
theorem hl_sX {L : List Cel} {a : Nat} {c : Cel} (h : L[a]? = some c) (f : Nat → Int32) : msX (hl L) a f = hl (L.set a (c.1, f, c.2.2.1, c.2.2.2)) := by
  unfold msX hl
  refine Prod.ext (by simp) (Prod.ext (funext fun b => ?_) (Prod.ext (funext fun b => ?_) (Prod.ext (funext fun b => ?_) (funext fun b => ?_))))
  · exact hl_same (c' := (c.1, f, c.2.2.1, c.2.2.2)) h (fun c => c.1) (0, 0) rfl b
  · exact hl_up (c' := (c.1, f, c.2.2.1, c.2.2.2)) h (fun c => c.2.1) (fun _ => 0) b
  · exact hl_same (c' := (c.1, f, c.2.2.1, c.2.2.2)) h (fun c => c.2.2.1) (fun _ => 0) rfl b
  · exact hl_same (c' := (c.1, f, c.2.2.1, c.2.2.2)) h (fun c => c.2.2.2) (fun _ => none) rfl b
theorem hl_sY {L : List Cel} {a : Nat} {c : Cel} (h : L[a]? = some c) (f : Nat → Int64) : msY (hl L) a f = hl (L.set a (c.1, c.2.1, f, c.2.2.2)) := by
  unfold msY hl
  refine Prod.ext (by simp) (Prod.ext (funext fun b => ?_) (Prod.ext (funext fun b => ?_) (Prod.ext (funext fun b => ?_) (funext fun b => ?_))))
  · exact hl_same (c' := (c.1, c.2.1, f, c.2.2.2)) h (fun c => c.1) (0, 0) rfl b
  · exact hl_same (c' := (c.1, c.2.1, f, c.2.2.2)) h (fun c => c.2.1) (fun _ => 0) rfl b
  · exact hl_up (c' := (c.1, c.2.1, f, c.2.2.2)) h (fun c => c.2.2.1) (fun _ => 0) b
  · exact hl_same (c' := (c.1, c.2.1, f, c.2.2.2)) h (fun c => c.2.2.2) (fun _ => none) rfl b
theorem hl_sZ {L : List Cel} {a : Nat} {c : Cel} (h : L[a]? = some c) (f : Nat → Option Nat) : msZ (hl L) a f = hl (L.set a (c.1, c.2.1, c.2.2.1, f)) := by
  unfold msZ hl
  refine Prod.ext (by simp) (Prod.ext (funext fun b => ?_) (Prod.ext (funext fun b => ?_) (Prod.ext (funext fun b => ?_) (funext fun b => ?_))))
  · exact hl_same (c' := (c.1, c.2.1, c.2.2.1, f)) h (fun c => c.1) (0, 0) rfl b
  · exact hl_same (c' := (c.1, c.2.1, c.2.2.1, f)) h (fun c => c.2.1) (fun _ => 0) rfl b
  · exact hl_same (c' := (c.1, c.2.1, c.2.2.1, f)) h (fun c => c.2.2.1) (fun _ => 0) rfl b
  · exact hl_up (c' := (c.1, c.2.1, c.2.2.1, f)) h (fun c => c.2.2.2) (fun _ => none) b
/-- a block of cells: the places lo to lo + n of T, Z, V -/
def blk (b lo n : Nat) (T : Nat → Nat × Nat) (Z : Nat → Nat → Option Nat) (V : WV) : List Cel := (List.range n).map (fun o => (T (lo + o), V.1 (lo + o), V.2 (lo + o), fun i => (Z (lo + o) i).map (fun x => b + x)))
theorem blk_len (b lo n : Nat) (T : Nat → Nat × Nat) (Z : Nat → Nat → Option Nat) (V : WV) : (blk b lo n T Z V).length = n := by simp [blk]
theorem blk_at {b lo n : Nat} {T : Nat → Nat × Nat} {Z : Nat → Nat → Option Nat} {V : WV} {A C : List Cel} {o : Nat} (ho : o < n) : (A ++ (blk b lo n T Z V ++ C))[A.length + o]? = some (T (lo + o), V.1 (lo + o), V.2 (lo + o), fun i => (Z (lo + o) i).map (fun x => b + x)) := by
  rw [List.getElem?_append_right (by omega), Nat.add_sub_cancel_left, List.getElem?_append_left (by rw [blk_len]; exact ho)]
  simp [blk, ho]
theorem blk_set {b lo n : Nat} {T : Nat → Nat × Nat} {Z : Nat → Nat → Option Nat} {V V' : WV} {A C : List Cel} {o : Nat} (ho : o < n) {c : Cel} (hc : c = (T (lo + o), V'.1 (lo + o), V'.2 (lo + o), fun i => (Z (lo + o) i).map (fun x => b + x))) (h : ∀ k, k ≠ lo + o → V'.1 k = V.1 k ∧ V'.2 k = V.2 k) : (A ++ (blk b lo n T Z V ++ C)).set (A.length + o) c = A ++ (blk b lo n T Z V' ++ C) := by
  apply List.ext_getElem?
  intro k
  rw [List.getElem?_set]
  have hl1 : (A ++ (blk b lo n T Z V ++ C)).length = A.length + (n + C.length) := by simp [blk_len]
  by_cases e : A.length + o = k
  · subst e
    rw [if_pos rfl, if_pos (by omega), blk_at ho, hc]
  · rw [if_neg e]
    rcases Nat.lt_or_ge k A.length with h1 | h1
    · rw [List.getElem?_append_left h1, List.getElem?_append_left h1]
    · obtain ⟨j, rfl⟩ : ∃ j, k = A.length + j := ⟨k - A.length, by omega⟩
      rcases Nat.lt_or_ge j n with h2 | h2
      · rw [blk_at h2, blk_at h2, (h (lo + j) (by omega)).1, (h (lo + j) (by omega)).2]
      · have hq : ∀ U : WV, (A ++ (blk b lo n T Z U ++ C))[A.length + j]? = C[j - n]? := fun U => by
          rw [List.getElem?_append_right h1, Nat.add_sub_cancel_left, List.getElem?_append_right (by rw [blk_len]; exact h2), blk_len]
        rw [hq, hq]
/-- places lo to hi of a block that begins at b: what stands ahead of them in the list is b + lo long -/
theorem lens_of (A C : List Cel) (b lo n : Nat) (hA : A.length = b + lo) (T : Nat → Nat × Nat) (Z : Nat → Nat → Option Nat) : LB b lo (lo + n) T Z (fun V => hl (A ++ (blk b lo n T Z V ++ C))) := by
  intro V o h1 h2
  obtain ⟨j, rfl⟩ : ∃ j, o = lo + j := ⟨o - lo, by omega⟩
  have e : b + (lo + j) = A.length + j := by omega
  have h := blk_at (b := b) (lo := lo) (T := T) (Z := Z) (V := V) (A := A) (C := C) (show j < n by omega)
  rw [e]
  refine ⟨by rw [hl_N]; simp [blk_len]; omega, hl_T h, hl_X h, hl_Y h, hl_Z h, fun f => ?_, fun f => ?_⟩
  · rw [hl_sX h, blk_set (by omega) (V' := sx V (lo + j) f) (by simp [sx, va_up]) (fun k hk => by simp [sx, va_up, hk])]
  · rw [hl_sY h, blk_set (by omega) (V' := sy V (lo + j) f) (by simp [sy, va_up]) (fun k hk => by simp [sy, va_up, hk])]
