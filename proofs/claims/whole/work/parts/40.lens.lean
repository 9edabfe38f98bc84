/-! A LENS: a block of n cells from b on, of kinds T, with references Z within it; P V: the heap with the block's contents V -/
abbrev WV : Type := (Nat → Nat → Int32) × (Nat → Nat → Int64)
def sx (V : WV) (o : Nat) (f : Nat → Int32) : WV := (va_up V.1 o f, V.2)
def sy (V : WV) (o : Nat) (f : Nat → Int64) : WV := (V.1, va_up V.2 o f)
def LB (b lo n : Nat) (T : Nat → Nat × Nat) (Z : Nat → Nat → Option Nat) (P : WV → Hp) : Prop :=
  ∀ (V : WV) (o : Nat), lo ≤ o → o < n → b + o < mN (P V) ∧ mT (P V) (b + o) = T o ∧ mX (P V) (b + o) = V.1 o ∧ mY (P V) (b + o) = V.2 o ∧ mZ (P V) (b + o) = (fun i => (Z o i).map (fun x => b + x)) ∧ (∀ f, msX (P V) (b + o) f = P (sx V o f)) ∧ (∀ f, msY (P V) (b + o) f = P (sy V o f))
theorem sx_1 (V : WV) (o : Nat) (f : Nat → Int32) : (sx V o f).1 = va_up V.1 o f := rfl
theorem sx_2 (V : WV) (o : Nat) (f : Nat → Int32) : (sx V o f).2 = V.2 := rfl
theorem sy_1 (V : WV) (o : Nat) (f : Nat → Int64) : (sy V o f).1 = V.1 := rfl
theorem sy_2 (V : WV) (o : Nat) (f : Nat → Int64) : (sy V o f).2 = va_up V.2 o f := rfl
theorem up_s {α : Type} (f : Nat → α) (k : Nat) (v : α) : va_up f k v k = v := if_pos rfl
theorem up_n {α : Type} (f : Nat → α) {k j : Nat} (v : α) (h : j ≠ k) : va_up f k v j = f j := if_neg h
theorem up_uu {α : Type} (f : Nat → α) (k : Nat) (v w : α) : va_up (va_up f k v) k w = va_up f k w := by
  funext j
  by_cases h : j = k <;> simp [va_up, h]
theorem up_id {α : Type} (f : Nat → α) (k : Nat) : va_up f k (f k) = f := by
  funext j
  by_cases h : j = k
  · subst h; exact if_pos rfl
  · exact if_neg h
theorem sx_sx (V : WV) (o : Nat) (f g : Nat → Int32) : sx (sx V o f) o g = sx V o g := by
  simp only [sx, up_uu]
theorem sx_id (V : WV) (o : Nat) : sx V o (V.1 o) = V := by
  simp only [sx, up_id]
theorem upd_s (f : Nat → Int32) (k : Nat) (v : Int32) : upd f k v k = v := if_pos rfl
theorem upd_n (f : Nat → Int32) {k j : Nat} (v : Int32) (h : j ≠ k) : upd f k v j = f j := if_neg h
theorem upd_id (f : Nat → Int32) (k : Nat) : upd f k (f k) = f := by
  funext j
  by_cases h : j = k
  · subst h; exact if_pos rfl
  · exact if_neg h
theorem inb_nI {k n : Nat} (hk : k < n) (hn : n < 2 ^ 31) : inb (nI k) n = true := by
  have h1 : ¬ nI k < 0 := nI_pos (by omega)
  have h2 : (nI k).toNatClampNeg = k := nI_clamp (by omega)
  simp [inb, h1, h2, hk]
theorem inb_of {x : Int32} {n : Nat} (h : inb x n = true) (hn : n < 2 ^ 31) : ∃ k, k < n ∧ x = nI k := by
  obtain ⟨j, hj, e⟩ := vp_in_of (inb_i h) hn
  exact ⟨j, hj, e⟩
section LENS
variable {b lo n : Nat} {T : Nat → Nat × Nat} {Z : Nat → Nat → Option Nat} {P : WV → Hp} {V : WV} {o t k z i len : Nat}
theorem LB.ok (h : LB b lo n T Z P) (hq : lo ≤ o) (ho : o < n) (ht : (T o).1 = t) : okT (P V) (b + o) t = true := by
  obtain ⟨h1, h2, -⟩ := h V o hq ho
  simp [okT, h1, h2, ht]
theorem LB.co {α : Type} {x : Option α} (h : LB b lo n T Z P) (hq : lo ≤ o) (ho : o < n) (ht : (T o).1 = t) : cO (P V) (b + o) t x = x := by
  unfold cO
  rw [h.ok hq ho ht]; rfl
theorem LB.getr (h : LB b lo n T Z P) (hq : lo ≤ o) (ho : o < n) (ht : (T o).1 = t) (hz : Z o k = some z) : gR (P V) (b + o) t k = some (b + z) := by
  unfold gR
  rw [h.ok hq ho ht, if_pos rfl, (h V o hq ho).2.2.2.2.1]
  simp [hz]
theorem LB.geti (h : LB b lo n T Z P) (hq : lo ≤ o) (ho : o < n) (ht : (T o).1 = t) : gI (P V) (b + o) t k = some (V.1 o k) := by
  unfold gI
  rw [h.ok hq ho ht, if_pos rfl, (h V o hq ho).2.2.1]
theorem LB.puti {x : Int32} (h : LB b lo n T Z P) (hq : lo ≤ o) (ho : o < n) (ht : (T o).1 = t) : pI (P V) (b + o) t k x = some (P (sx V o (upd (V.1 o) k x))) := by
  unfold pI
  rw [h.ok hq ho ht, if_pos rfl, (h V o hq ho).2.2.1, (h V o hq ho).2.2.2.2.2.1]
theorem LB.aIx {x : Int32} (h : LB b lo n T Z P) (hq : lo ≤ o) (ho : o < n) (ht : T o = (11, len)) : aI (P V) (b + o) x = if inb x len then some (V.1 o x.toNatClampNeg) else none := by
  unfold aI
  rw [h.ok hq ho (by rw [ht]), (h V o hq ho).2.2.1, (h V o hq ho).2.1, ht]
  rfl
theorem LB.ldi (h : LB b lo n T Z P) (hq : lo ≤ o) (ho : o < n) (ht : T o = (11, len)) (hl : len < 2 ^ 31) (hi : i < len) : aI (P V) (b + o) (nI i) = some (V.1 o i) := by
  rw [h.aIx hq ho ht, inb_nI hi hl, if_pos rfl, nI_clamp (by omega)]
theorem LB.sti {x : Int32} (h : LB b lo n T Z P) (hq : lo ≤ o) (ho : o < n) (ht : T o = (11, len)) (hl : len < 2 ^ 31) (hi : i < len) : sI (P V) (b + o) (nI i) x = some (P (sx V o (upd (V.1 o) i x))) := by
  unfold sI
  rw [h.ok hq ho (by rw [ht]), (h V o hq ho).2.2.1, (h V o hq ho).2.1, ht, inb_nI hi hl, nI_clamp (by omega), (h V o hq ho).2.2.2.2.2.1]
  rfl
theorem LB.ldb (h : LB b lo n T Z P) (hq : lo ≤ o) (ho : o < n) (ht : T o = (13, len)) (hl : len < 2 ^ 31) (hi : i < len) : aB (P V) (b + o) (nI i) = some (V.1 o i) := by
  unfold aB
  rw [h.ok hq ho (by rw [ht]), (h V o hq ho).2.2.1, (h V o hq ho).2.1, ht, inb_nI hi hl, nI_clamp (by omega)]
  rfl
theorem LB.stb {x : Int32} (h : LB b lo n T Z P) (hq : lo ≤ o) (ho : o < n) (ht : T o = (13, len)) (hl : len < 2 ^ 31) (hi : i < len) : sB (P V) (b + o) (nI i) x = some (P (sx V o (upd (V.1 o) i (vp_nar .boolean x)))) := by
  unfold sB
  rw [h.ok hq ho (by rw [ht]), (h V o hq ho).2.2.1, (h V o hq ho).2.1, ht, inb_nI hi hl, nI_clamp (by omega), (h V o hq ho).2.2.2.2.2.1]
  rfl
theorem LB.ldj (h : LB b lo n T Z P) (hq : lo ≤ o) (ho : o < n) (ht : T o = (12, len)) (hl : len < 2 ^ 31) (hi : i < len) : aJ (P V) (b + o) (nI i) = some (V.2 o i) := by
  unfold aJ
  rw [h.ok hq ho (by rw [ht]), (h V o hq ho).2.2.2.1, (h V o hq ho).2.1, ht, inb_nI hi hl, nI_clamp (by omega)]
  rfl
theorem LB.stj {x : Int64} (h : LB b lo n T Z P) (hq : lo ≤ o) (ho : o < n) (ht : T o = (12, len)) (hl : len < 2 ^ 31) (hi : i < len) : sJ (P V) (b + o) (nI i) x = some (P (sy V o (vp_updL (V.2 o) i x))) := by
  unfold sJ
  rw [h.ok hq ho (by rw [ht]), (h V o hq ho).2.2.2.1, (h V o hq ho).2.1, ht, inb_nI hi hl, nI_clamp (by omega), (h V o hq ho).2.2.2.2.2.2]
  rfl
theorem LB.ldr (h : LB b lo n T Z P) (hq : lo ≤ o) (ho : o < n) (ht : T o = (t, len)) (hl : len < 2 ^ 31) (hi : i < len) (hz : Z o i = some z) : aR (P V) (b + o) t (nI i) = some (b + z) := by
  unfold aR
  rw [h.ok hq ho (by rw [ht]), (h V o hq ho).2.2.2.2.1, (h V o hq ho).2.1, ht, inb_nI hi hl, nI_clamp (by omega)]
  simp [hz]
theorem LB.alen (h : LB b lo n T Z P) (hq : lo ≤ o) (ho : o < n) (ht : T o = (11, len)) : aL (P V) (b + o) = some (Int32.ofNat len) := by
  unfold aL
  rw [h.ok hq ho (by rw [ht]), if_pos rfl, (h V o hq ho).2.1, ht]
end LENS
def TW (o : Nat) : Nat × Nat := ([(8, 0), (6, 0), (11, 12), (11, 12), (15, 9), (11, 12), (11, 12), (11, 12), (11, 12), (11, 12), (11, 12), (11, 12), (11, 12), (11, 12), (11, 12), (11, 12), (11, 12), (11, 12), (15, 4), (11, 12), (11, 12), (11, 12), (11, 12), (0, 0), (11, 16), (11, 16), (15, 2), (11, 16), (11, 16), (11, 16), (11, 16), (11, 16), (11, 16), (1, 0), (16, 3), (12, 12), (12, 12), (12, 12), (15, 3), (11, 12), (11, 12), (11, 12), (15, 9), (11, 12), (11, 12), (11, 12), (11, 12), (11, 12), (11, 12), (11, 12), (11, 12), (11, 12), (7, 0), (11, 4), (11, 4), (11, 4), (11, 4)] : List (Nat × Nat)).getD o (99, 0)
def ZW : Nat → Nat → Option Nat
  | 0, 0 => some 1
  | 0, 1 => some 23
  | 0, 2 => some 33
  | 0, 3 => some 52
  | 1, 0 => some 2
  | 1, 1 => some 3
  | 1, 3 => some 4
  | 1, 4 => some 14
  | 1, 5 => some 15
  | 1, 6 => some 16
  | 1, 7 => some 17
  | 1, 8 => some 18
  | 23, 0 => some 24
  | 23, 1 => some 25
  | 23, 2 => some 26
  | 23, 3 => some 29
  | 23, 4 => some 30
  | 23, 5 => some 31
  | 23, 6 => some 32
  | 33, 0 => some 34
  | 33, 1 => some 38
  | 33, 2 => some 42
  | 52, 0 => some 53
  | 52, 1 => some 54
  | 52, 2 => some 55
  | 52, 3 => some 56
  | 4, i => if i < 9 then some (5 + i) else none
  | 18, i => if i < 4 then some (19 + i) else none
  | 26, i => if i < 2 then some (27 + i) else none
  | 34, i => if i < 3 then some (35 + i) else none
  | 38, i => if i < 3 then some (39 + i) else none
  | 42, i => if i < 9 then some (43 + i) else none
  | _, _ => none
abbrev LW (w : Nat) (P : WV → Hp) : Prop := LB w 0 57 TW ZW P
/-- Tree alone -/
abbrev LT (w : Nat) (P : WV → Hp) : Prop := LB w 1 23 TW ZW P
/-- Crowd alone -/
abbrev LC (w : Nat) (P : WV → Hp) : Prop := LB w 23 33 TW ZW P
/-- Gauges alone -/
abbrev LG (w : Nat) (P : WV → Hp) : Prop := LB w 33 52 TW ZW P
/-- Triggers alone -/
abbrev LR (w : Nat) (P : WV → Hp) : Prop := LB w 52 57 TW ZW P
/-- the World itself alone -/
abbrev LO (w : Nat) (P : WV → Hp) : Prop := LB w 0 1 TW ZW P
theorem LB.lt {w : Nat} {P : WV → Hp} (h : LW w P) : LT w P := fun V o h1 h2 => h V o (Nat.zero_le _) (by omega)
theorem LB.lc {w : Nat} {P : WV → Hp} (h : LW w P) : LC w P := fun V o h1 h2 => h V o (Nat.zero_le _) (by omega)
theorem LB.lg {w : Nat} {P : WV → Hp} (h : LW w P) : LG w P := fun V o h1 h2 => h V o (Nat.zero_le _) (by omega)
theorem LB.lr {w : Nat} {P : WV → Hp} (h : LW w P) : LR w P := fun V o h1 h2 => h V o (Nat.zero_le _) (by omega)
theorem LB.lo {w : Nat} {P : WV → Hp} (h : LW w P) : LO w P := fun V o h1 h2 => h V o (Nat.zero_le _) (by omega)
theorem tT_5 : ∀ j, j < 9 → TW (5 + j) = (11, 12) := by decide
theorem tT_19 : ∀ j, j < 4 → TW (19 + j) = (11, 12) := by decide
theorem tT_27 : ∀ j, j < 2 → TW (27 + j) = (11, 16) := by decide
theorem tT_35 : ∀ j, j < 3 → TW (35 + j) = (12, 12) := by decide
theorem tT_39 : ∀ j, j < 3 → TW (39 + j) = (11, 12) := by decide
theorem tT_43 : ∀ j, j < 9 → TW (43 + j) = (11, 12) := by decide
theorem tl {w : Nat} {P : WV → Hp} (h : LT w P) :
    (∀ (V : WV) {α : Type} (x : Option α), cO (P V) (w + 1) 6 x = x) ∧
    (∀ V : WV, gR (P V) (w + 1) 6 0 = some (w + 2)) ∧
    (∀ V : WV, gR (P V) (w + 1) 6 1 = some (w + 3)) ∧
    (∀ V : WV, gR (P V) (w + 1) 6 3 = some (w + 4)) ∧
    (∀ V : WV, gR (P V) (w + 1) 6 4 = some (w + 14)) ∧
    (∀ V : WV, gR (P V) (w + 1) 6 5 = some (w + 15)) ∧
    (∀ V : WV, gR (P V) (w + 1) 6 6 = some (w + 16)) ∧
    (∀ V : WV, gR (P V) (w + 1) 6 7 = some (w + 17)) ∧
    (∀ V : WV, gR (P V) (w + 1) 6 8 = some (w + 18)) ∧
    (∀ V : WV, gI (P V) (w + 1) 6 2 = some (V.1 1 2)) ∧
    (∀ (V : WV) (x : Int32), pI (P V) (w + 1) 6 2 x = some (P (sx V 1 (upd (V.1 1) 2 x)))) ∧
    (∀ (V : WV) (i : Nat), i < 12 → aI (P V) (w + 2) (nI i) = some (V.1 2 i)) ∧
    (∀ (V : WV) (i : Nat) (x : Int32), i < 12 → sI (P V) (w + 2) (nI i) x = some (P (sx V 2 (upd (V.1 2) i x)))) ∧
    (∀ (V : WV) (i : Nat), i < 12 → aI (P V) (w + 3) (nI i) = some (V.1 3 i)) ∧
    (∀ (V : WV) (i : Nat) (x : Int32), i < 12 → sI (P V) (w + 3) (nI i) x = some (P (sx V 3 (upd (V.1 3) i x)))) ∧
    (∀ (V : WV) (i : Nat), i < 12 → aI (P V) (w + 14) (nI i) = some (V.1 14 i)) ∧
    (∀ (V : WV) (i : Nat) (x : Int32), i < 12 → sI (P V) (w + 14) (nI i) x = some (P (sx V 14 (upd (V.1 14) i x)))) ∧
    (∀ (V : WV) (i : Nat), i < 12 → aI (P V) (w + 15) (nI i) = some (V.1 15 i)) ∧
    (∀ (V : WV) (i : Nat) (x : Int32), i < 12 → sI (P V) (w + 15) (nI i) x = some (P (sx V 15 (upd (V.1 15) i x)))) ∧
    (∀ (V : WV) (i : Nat), i < 12 → aI (P V) (w + 16) (nI i) = some (V.1 16 i)) ∧
    (∀ (V : WV) (i : Nat) (x : Int32), i < 12 → sI (P V) (w + 16) (nI i) x = some (P (sx V 16 (upd (V.1 16) i x)))) ∧
    (∀ (V : WV) (i : Nat), i < 12 → aI (P V) (w + 17) (nI i) = some (V.1 17 i)) ∧
    (∀ (V : WV) (i : Nat) (x : Int32), i < 12 → sI (P V) (w + 17) (nI i) x = some (P (sx V 17 (upd (V.1 17) i x)))) ∧
    (∀ (V : WV) (j : Nat), j < 9 → aR (P V) (w + 4) 15 (nI j) = some (w + (5 + j))) ∧
    (∀ (V : WV) (j i : Nat), j < 9 → i < 12 → aI (P V) (w + (5 + j)) (nI i) = some (V.1 (5 + j) i)) ∧
    (∀ (V : WV) (j i : Nat) (x : Int32), j < 9 → i < 12 → sI (P V) (w + (5 + j)) (nI i) x = some (P (sx V (5 + j) (upd (V.1 (5 + j)) i x)))) ∧
    (∀ (V : WV) (j : Nat), j < 4 → aR (P V) (w + 18) 15 (nI j) = some (w + (19 + j))) ∧
    (∀ (V : WV) (j i : Nat), j < 4 → i < 12 → aI (P V) (w + (19 + j)) (nI i) = some (V.1 (19 + j) i)) ∧
    (∀ (V : WV) (j i : Nat) (x : Int32), j < 4 → i < 12 → sI (P V) (w + (19 + j)) (nI i) x = some (P (sx V (19 + j) (upd (V.1 (19 + j)) i x)))) :=
  ⟨fun V α x => h.co (o := 1) (by decide) (by decide) rfl,
   fun V => h.getr (o := 1) (by decide) (by decide) rfl rfl,
   fun V => h.getr (o := 1) (by decide) (by decide) rfl rfl,
   fun V => h.getr (o := 1) (by decide) (by decide) rfl rfl,
   fun V => h.getr (o := 1) (by decide) (by decide) rfl rfl,
   fun V => h.getr (o := 1) (by decide) (by decide) rfl rfl,
   fun V => h.getr (o := 1) (by decide) (by decide) rfl rfl,
   fun V => h.getr (o := 1) (by decide) (by decide) rfl rfl,
   fun V => h.getr (o := 1) (by decide) (by decide) rfl rfl,
   fun V => h.geti (o := 1) (by decide) (by decide) rfl,
   fun V x => h.puti (o := 1) (by decide) (by decide) rfl,
   fun V i hi => h.ldi (o := 2) (by decide) (by decide) rfl (by decide) hi,
   fun V i x hi => h.sti (o := 2) (by decide) (by decide) rfl (by decide) hi,
   fun V i hi => h.ldi (o := 3) (by decide) (by decide) rfl (by decide) hi,
   fun V i x hi => h.sti (o := 3) (by decide) (by decide) rfl (by decide) hi,
   fun V i hi => h.ldi (o := 14) (by decide) (by decide) rfl (by decide) hi,
   fun V i x hi => h.sti (o := 14) (by decide) (by decide) rfl (by decide) hi,
   fun V i hi => h.ldi (o := 15) (by decide) (by decide) rfl (by decide) hi,
   fun V i x hi => h.sti (o := 15) (by decide) (by decide) rfl (by decide) hi,
   fun V i hi => h.ldi (o := 16) (by decide) (by decide) rfl (by decide) hi,
   fun V i x hi => h.sti (o := 16) (by decide) (by decide) rfl (by decide) hi,
   fun V i hi => h.ldi (o := 17) (by decide) (by decide) rfl (by decide) hi,
   fun V i x hi => h.sti (o := 17) (by decide) (by decide) rfl (by decide) hi,
   fun V j hj => h.ldr (o := 4) (by decide) (by decide) rfl (by decide) hj (by show (if j < 9 then some (5 + j) else none) = some _; rw [if_pos hj]),
   fun V j i hj hi => h.ldi (o := 5 + j) (by omega) (by omega) (tT_5 j hj) (by decide) hi,
   fun V j i x hj hi => h.sti (o := 5 + j) (by omega) (by omega) (tT_5 j hj) (by decide) hi,
   fun V j hj => h.ldr (o := 18) (by decide) (by decide) rfl (by decide) hj (by show (if j < 4 then some (19 + j) else none) = some _; rw [if_pos hj]),
   fun V j i hj hi => h.ldi (o := 19 + j) (by omega) (by omega) (tT_19 j hj) (by decide) hi,
   fun V j i x hj hi => h.sti (o := 19 + j) (by omega) (by omega) (tT_19 j hj) (by decide) hi⟩
theorem cl {w : Nat} {P : WV → Hp} (h : LC w P) :
    (∀ (V : WV) {α : Type} (x : Option α), cO (P V) (w + 23) 0 x = x) ∧
    (∀ V : WV, gR (P V) (w + 23) 0 0 = some (w + 24)) ∧
    (∀ V : WV, gR (P V) (w + 23) 0 1 = some (w + 25)) ∧
    (∀ V : WV, gR (P V) (w + 23) 0 2 = some (w + 26)) ∧
    (∀ V : WV, gR (P V) (w + 23) 0 3 = some (w + 29)) ∧
    (∀ V : WV, gR (P V) (w + 23) 0 4 = some (w + 30)) ∧
    (∀ V : WV, gR (P V) (w + 23) 0 5 = some (w + 31)) ∧
    (∀ V : WV, gR (P V) (w + 23) 0 6 = some (w + 32)) ∧
    (∀ (V : WV) (i : Nat), i < 16 → aI (P V) (w + 24) (nI i) = some (V.1 24 i)) ∧
    (∀ (V : WV) (i : Nat) (x : Int32), i < 16 → sI (P V) (w + 24) (nI i) x = some (P (sx V 24 (upd (V.1 24) i x)))) ∧
    (∀ (V : WV) (i : Nat), i < 16 → aI (P V) (w + 25) (nI i) = some (V.1 25 i)) ∧
    (∀ (V : WV) (i : Nat) (x : Int32), i < 16 → sI (P V) (w + 25) (nI i) x = some (P (sx V 25 (upd (V.1 25) i x)))) ∧
    (∀ (V : WV) (i : Nat), i < 16 → aI (P V) (w + 29) (nI i) = some (V.1 29 i)) ∧
    (∀ (V : WV) (i : Nat) (x : Int32), i < 16 → sI (P V) (w + 29) (nI i) x = some (P (sx V 29 (upd (V.1 29) i x)))) ∧
    (∀ (V : WV) (i : Nat), i < 16 → aI (P V) (w + 30) (nI i) = some (V.1 30 i)) ∧
    (∀ (V : WV) (i : Nat) (x : Int32), i < 16 → sI (P V) (w + 30) (nI i) x = some (P (sx V 30 (upd (V.1 30) i x)))) ∧
    (∀ (V : WV) (i : Nat), i < 16 → aI (P V) (w + 31) (nI i) = some (V.1 31 i)) ∧
    (∀ (V : WV) (i : Nat) (x : Int32), i < 16 → sI (P V) (w + 31) (nI i) x = some (P (sx V 31 (upd (V.1 31) i x)))) ∧
    (∀ (V : WV) (i : Nat), i < 16 → aI (P V) (w + 32) (nI i) = some (V.1 32 i)) ∧
    (∀ (V : WV) (i : Nat) (x : Int32), i < 16 → sI (P V) (w + 32) (nI i) x = some (P (sx V 32 (upd (V.1 32) i x)))) ∧
    (∀ (V : WV) (j : Nat), j < 2 → aR (P V) (w + 26) 15 (nI j) = some (w + (27 + j))) ∧
    (∀ (V : WV) (j i : Nat), j < 2 → i < 16 → aI (P V) (w + (27 + j)) (nI i) = some (V.1 (27 + j) i)) ∧
    (∀ (V : WV) (j i : Nat) (x : Int32), j < 2 → i < 16 → sI (P V) (w + (27 + j)) (nI i) x = some (P (sx V (27 + j) (upd (V.1 (27 + j)) i x)))) :=
  ⟨fun V α x => h.co (o := 23) (by decide) (by decide) rfl,
   fun V => h.getr (o := 23) (by decide) (by decide) rfl rfl,
   fun V => h.getr (o := 23) (by decide) (by decide) rfl rfl,
   fun V => h.getr (o := 23) (by decide) (by decide) rfl rfl,
   fun V => h.getr (o := 23) (by decide) (by decide) rfl rfl,
   fun V => h.getr (o := 23) (by decide) (by decide) rfl rfl,
   fun V => h.getr (o := 23) (by decide) (by decide) rfl rfl,
   fun V => h.getr (o := 23) (by decide) (by decide) rfl rfl,
   fun V i hi => h.ldi (o := 24) (by decide) (by decide) rfl (by decide) hi,
   fun V i x hi => h.sti (o := 24) (by decide) (by decide) rfl (by decide) hi,
   fun V i hi => h.ldi (o := 25) (by decide) (by decide) rfl (by decide) hi,
   fun V i x hi => h.sti (o := 25) (by decide) (by decide) rfl (by decide) hi,
   fun V i hi => h.ldi (o := 29) (by decide) (by decide) rfl (by decide) hi,
   fun V i x hi => h.sti (o := 29) (by decide) (by decide) rfl (by decide) hi,
   fun V i hi => h.ldi (o := 30) (by decide) (by decide) rfl (by decide) hi,
   fun V i x hi => h.sti (o := 30) (by decide) (by decide) rfl (by decide) hi,
   fun V i hi => h.ldi (o := 31) (by decide) (by decide) rfl (by decide) hi,
   fun V i x hi => h.sti (o := 31) (by decide) (by decide) rfl (by decide) hi,
   fun V i hi => h.ldi (o := 32) (by decide) (by decide) rfl (by decide) hi,
   fun V i x hi => h.sti (o := 32) (by decide) (by decide) rfl (by decide) hi,
   fun V j hj => h.ldr (o := 26) (by decide) (by decide) rfl (by decide) hj (by show (if j < 2 then some (27 + j) else none) = some _; rw [if_pos hj]),
   fun V j i hj hi => h.ldi (o := 27 + j) (by omega) (by omega) (tT_27 j hj) (by decide) hi,
   fun V j i x hj hi => h.sti (o := 27 + j) (by omega) (by omega) (tT_27 j hj) (by decide) hi⟩
theorem ga {w : Nat} {P : WV → Hp} (h : LG w P) :
    (∀ (V : WV) {α : Type} (x : Option α), cO (P V) (w + 33) 1 x = x) ∧
    (∀ V : WV, gR (P V) (w + 33) 1 0 = some (w + 34)) ∧
    (∀ V : WV, gR (P V) (w + 33) 1 1 = some (w + 38)) ∧
    (∀ V : WV, gR (P V) (w + 33) 1 2 = some (w + 42)) ∧
    (∀ (V : WV) (j : Nat), j < 3 → aR (P V) (w + 34) 16 (nI j) = some (w + (35 + j))) ∧
    (∀ (V : WV) (j i : Nat), j < 3 → i < 12 → aJ (P V) (w + (35 + j)) (nI i) = some (V.2 (35 + j) i)) ∧
    (∀ (V : WV) (j i : Nat) (x : Int64), j < 3 → i < 12 → sJ (P V) (w + (35 + j)) (nI i) x = some (P (sy V (35 + j) (vp_updL (V.2 (35 + j)) i x)))) ∧
    (∀ (V : WV) (j : Nat), j < 3 → aR (P V) (w + 38) 15 (nI j) = some (w + (39 + j))) ∧
    (∀ (V : WV) (j i : Nat), j < 3 → i < 12 → aI (P V) (w + (39 + j)) (nI i) = some (V.1 (39 + j) i)) ∧
    (∀ (V : WV) (j i : Nat) (x : Int32), j < 3 → i < 12 → sI (P V) (w + (39 + j)) (nI i) x = some (P (sx V (39 + j) (upd (V.1 (39 + j)) i x)))) ∧
    (∀ (V : WV) (j : Nat), j < 9 → aR (P V) (w + 42) 15 (nI j) = some (w + (43 + j))) ∧
    (∀ (V : WV) (j i : Nat), j < 9 → i < 12 → aI (P V) (w + (43 + j)) (nI i) = some (V.1 (43 + j) i)) ∧
    (∀ (V : WV) (j i : Nat) (x : Int32), j < 9 → i < 12 → sI (P V) (w + (43 + j)) (nI i) x = some (P (sx V (43 + j) (upd (V.1 (43 + j)) i x)))) :=
  ⟨fun V α x => h.co (o := 33) (by decide) (by decide) rfl,
   fun V => h.getr (o := 33) (by decide) (by decide) rfl rfl,
   fun V => h.getr (o := 33) (by decide) (by decide) rfl rfl,
   fun V => h.getr (o := 33) (by decide) (by decide) rfl rfl,
   fun V j hj => h.ldr (o := 34) (by decide) (by decide) rfl (by decide) hj (by show (if j < 3 then some (35 + j) else none) = some _; rw [if_pos hj]),
   fun V j i hj hi => h.ldj (o := 35 + j) (by omega) (by omega) (tT_35 j hj) (by decide) hi,
   fun V j i x hj hi => h.stj (o := 35 + j) (by omega) (by omega) (tT_35 j hj) (by decide) hi,
   fun V j hj => h.ldr (o := 38) (by decide) (by decide) rfl (by decide) hj (by show (if j < 3 then some (39 + j) else none) = some _; rw [if_pos hj]),
   fun V j i hj hi => h.ldi (o := 39 + j) (by omega) (by omega) (tT_39 j hj) (by decide) hi,
   fun V j i x hj hi => h.sti (o := 39 + j) (by omega) (by omega) (tT_39 j hj) (by decide) hi,
   fun V j hj => h.ldr (o := 42) (by decide) (by decide) rfl (by decide) hj (by show (if j < 9 then some (43 + j) else none) = some _; rw [if_pos hj]),
   fun V j i hj hi => h.ldi (o := 43 + j) (by omega) (by omega) (tT_43 j hj) (by decide) hi,
   fun V j i x hj hi => h.sti (o := 43 + j) (by omega) (by omega) (tT_43 j hj) (by decide) hi⟩
theorem tr {w : Nat} {P : WV → Hp} (h : LR w P) :
    (∀ (V : WV) {α : Type} (x : Option α), cO (P V) (w + 52) 7 x = x) ∧
    (∀ V : WV, gR (P V) (w + 52) 7 0 = some (w + 53)) ∧
    (∀ V : WV, gR (P V) (w + 52) 7 1 = some (w + 54)) ∧
    (∀ V : WV, gR (P V) (w + 52) 7 2 = some (w + 55)) ∧
    (∀ V : WV, gR (P V) (w + 52) 7 3 = some (w + 56)) ∧
    (∀ V : WV, gI (P V) (w + 52) 7 4 = some (V.1 52 4)) ∧
    (∀ (V : WV) (x : Int32), pI (P V) (w + 52) 7 4 x = some (P (sx V 52 (upd (V.1 52) 4 x)))) ∧
    (∀ (V : WV) (i : Nat), i < 4 → aI (P V) (w + 53) (nI i) = some (V.1 53 i)) ∧
    (∀ (V : WV) (i : Nat) (x : Int32), i < 4 → sI (P V) (w + 53) (nI i) x = some (P (sx V 53 (upd (V.1 53) i x)))) ∧
    (∀ (V : WV) (i : Nat), i < 4 → aI (P V) (w + 54) (nI i) = some (V.1 54 i)) ∧
    (∀ (V : WV) (i : Nat) (x : Int32), i < 4 → sI (P V) (w + 54) (nI i) x = some (P (sx V 54 (upd (V.1 54) i x)))) ∧
    (∀ (V : WV) (i : Nat), i < 4 → aI (P V) (w + 55) (nI i) = some (V.1 55 i)) ∧
    (∀ (V : WV) (i : Nat) (x : Int32), i < 4 → sI (P V) (w + 55) (nI i) x = some (P (sx V 55 (upd (V.1 55) i x)))) ∧
    (∀ (V : WV) (i : Nat), i < 4 → aI (P V) (w + 56) (nI i) = some (V.1 56 i)) ∧
    (∀ (V : WV) (i : Nat) (x : Int32), i < 4 → sI (P V) (w + 56) (nI i) x = some (P (sx V 56 (upd (V.1 56) i x)))) :=
  ⟨fun V α x => h.co (o := 52) (by decide) (by decide) rfl,
   fun V => h.getr (o := 52) (by decide) (by decide) rfl rfl,
   fun V => h.getr (o := 52) (by decide) (by decide) rfl rfl,
   fun V => h.getr (o := 52) (by decide) (by decide) rfl rfl,
   fun V => h.getr (o := 52) (by decide) (by decide) rfl rfl,
   fun V => h.geti (o := 52) (by decide) (by decide) rfl,
   fun V x => h.puti (o := 52) (by decide) (by decide) rfl,
   fun V i hi => h.ldi (o := 53) (by decide) (by decide) rfl (by decide) hi,
   fun V i x hi => h.sti (o := 53) (by decide) (by decide) rfl (by decide) hi,
   fun V i hi => h.ldi (o := 54) (by decide) (by decide) rfl (by decide) hi,
   fun V i x hi => h.sti (o := 54) (by decide) (by decide) rfl (by decide) hi,
   fun V i hi => h.ldi (o := 55) (by decide) (by decide) rfl (by decide) hi,
   fun V i x hi => h.sti (o := 55) (by decide) (by decide) rfl (by decide) hi,
   fun V i hi => h.ldi (o := 56) (by decide) (by decide) rfl (by decide) hi,
   fun V i x hi => h.sti (o := 56) (by decide) (by decide) rfl (by decide) hi⟩
theorem ol {w : Nat} {P : WV → Hp} (h : LO w P) :
    (∀ (V : WV) {α : Type} (x : Option α), cO (P V) (w) 8 x = x) ∧
    (∀ V : WV, gR (P V) (w) 8 0 = some (w + 1)) ∧
    (∀ V : WV, gR (P V) (w) 8 1 = some (w + 23)) ∧
    (∀ V : WV, gR (P V) (w) 8 2 = some (w + 33)) ∧
    (∀ V : WV, gR (P V) (w) 8 3 = some (w + 52)) ∧
    (∀ V : WV, gI (P V) (w) 8 4 = some (V.1 0 4)) ∧
    (∀ (V : WV) (x : Int32), pI (P V) (w) 8 4 x = some (P (sx V 0 (upd (V.1 0) 4 x)))) ∧
    (∀ V : WV, gI (P V) (w) 8 5 = some (V.1 0 5)) ∧
    (∀ (V : WV) (x : Int32), pI (P V) (w) 8 5 x = some (P (sx V 0 (upd (V.1 0) 5 x)))) ∧
    (∀ V : WV, gI (P V) (w) 8 6 = some (V.1 0 6)) ∧
    (∀ (V : WV) (x : Int32), pI (P V) (w) 8 6 x = some (P (sx V 0 (upd (V.1 0) 6 x)))) ∧
    (∀ V : WV, gI (P V) (w) 8 7 = some (V.1 0 7)) ∧
    (∀ (V : WV) (x : Int32), pI (P V) (w) 8 7 x = some (P (sx V 0 (upd (V.1 0) 7 x)))) :=
  ⟨fun V α x => h.co (o := 0) (by decide) (by decide) rfl,
   fun V => h.getr (o := 0) (by decide) (by decide) rfl rfl,
   fun V => h.getr (o := 0) (by decide) (by decide) rfl rfl,
   fun V => h.getr (o := 0) (by decide) (by decide) rfl rfl,
   fun V => h.getr (o := 0) (by decide) (by decide) rfl rfl,
   fun V => h.geti (o := 0) (by decide) (by decide) rfl,
   fun V x => h.puti (o := 0) (by decide) (by decide) rfl,
   fun V => h.geti (o := 0) (by decide) (by decide) rfl,
   fun V x => h.puti (o := 0) (by decide) (by decide) rfl,
   fun V => h.geti (o := 0) (by decide) (by decide) rfl,
   fun V x => h.puti (o := 0) (by decide) (by decide) rfl,
   fun V => h.geti (o := 0) (by decide) (by decide) rfl,
   fun V x => h.puti (o := 0) (by decide) (by decide) rfl⟩
