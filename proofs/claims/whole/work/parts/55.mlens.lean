/-! the model as a lens -/
def TM (o : Nat) : Nat × Nat := ([(10, 0), (11, 1677), (11, 5590), (11, 559), (11, 559), (11, 9), (11, 9), (11, 3), (13, 2), (11, 12), (11, 12), (11, 12), (11, 12), (11, 12), (11, 12), (11, 12), (11, 28), (11, 28), (13, 28)] : List (Nat × Nat)).getD o (99, 0)
def ZM : Nat → Nat → Option Nat
  | 0, 1 => some 1
  | 0, 2 => some 2
  | 0, 3 => some 3
  | 0, 4 => some 4
  | 0, 5 => some 5
  | 0, 6 => some 6
  | 0, 7 => some 7
  | 0, 9 => some 8
  | 0, 10 => some 9
  | 0, 11 => some 10
  | 0, 12 => some 11
  | 0, 13 => some 12
  | 0, 14 => some 13
  | 0, 15 => some 14
  | 0, 16 => some 15
  | 0, 17 => some 16
  | 0, 18 => some 17
  | 0, 19 => some 18
  | _, _ => none
abbrev LM (b : Nat) (P : WV → Hp) : Prop := LB b 0 19 TM ZM P
theorem ml {b : Nat} {P : WV → Hp} (h : LM b P) :
    (∀ (U : WV) {α : Type} (x : Option α), cO (P U) b 10 x = x) ∧
    (∀ U : WV, gR (P U) b 10 1 = some (b + 1)) ∧
    (∀ U : WV, gR (P U) b 10 2 = some (b + 2)) ∧
    (∀ U : WV, gR (P U) b 10 3 = some (b + 3)) ∧
    (∀ U : WV, gR (P U) b 10 4 = some (b + 4)) ∧
    (∀ U : WV, gR (P U) b 10 5 = some (b + 5)) ∧
    (∀ U : WV, gR (P U) b 10 6 = some (b + 6)) ∧
    (∀ U : WV, gR (P U) b 10 7 = some (b + 7)) ∧
    (∀ U : WV, gR (P U) b 10 9 = some (b + 8)) ∧
    (∀ U : WV, gR (P U) b 10 10 = some (b + 9)) ∧
    (∀ U : WV, gR (P U) b 10 11 = some (b + 10)) ∧
    (∀ U : WV, gR (P U) b 10 12 = some (b + 11)) ∧
    (∀ U : WV, gR (P U) b 10 13 = some (b + 12)) ∧
    (∀ U : WV, gR (P U) b 10 14 = some (b + 13)) ∧
    (∀ U : WV, gR (P U) b 10 15 = some (b + 14)) ∧
    (∀ U : WV, gR (P U) b 10 16 = some (b + 15)) ∧
    (∀ U : WV, gR (P U) b 10 17 = some (b + 16)) ∧
    (∀ U : WV, gR (P U) b 10 18 = some (b + 17)) ∧
    (∀ U : WV, gR (P U) b 10 19 = some (b + 18)) ∧
    (∀ U : WV, gI (P U) b 10 0 = some (U.1 0 0)) ∧
    (∀ (U : WV) (x : Int32), pI (P U) b 10 0 x = some (P (sx U 0 (upd (U.1 0) 0 x)))) ∧
    (∀ U : WV, gI (P U) b 10 8 = some (U.1 0 8)) ∧
    (∀ (U : WV) (x : Int32), pI (P U) b 10 8 x = some (P (sx U 0 (upd (U.1 0) 8 x)))) ∧
    (∀ U : WV, gI (P U) b 10 20 = some (U.1 0 20)) ∧
    (∀ (U : WV) (x : Int32), pI (P U) b 10 20 x = some (P (sx U 0 (upd (U.1 0) 20 x)))) ∧
    (∀ (U : WV) (i : Nat), i < 1677 → aI (P U) (b + 1) (nI i) = some (U.1 1 i)) ∧
    (∀ (U : WV) (i : Nat) (x : Int32), i < 1677 → sI (P U) (b + 1) (nI i) x = some (P (sx U 1 (upd (U.1 1) i x)))) ∧
    (∀ (U : WV) (i : Nat), i < 5590 → aI (P U) (b + 2) (nI i) = some (U.1 2 i)) ∧
    (∀ (U : WV) (i : Nat) (x : Int32), i < 5590 → sI (P U) (b + 2) (nI i) x = some (P (sx U 2 (upd (U.1 2) i x)))) ∧
    (∀ (U : WV) (i : Nat), i < 559 → aI (P U) (b + 3) (nI i) = some (U.1 3 i)) ∧
    (∀ (U : WV) (i : Nat) (x : Int32), i < 559 → sI (P U) (b + 3) (nI i) x = some (P (sx U 3 (upd (U.1 3) i x)))) ∧
    (∀ (U : WV) (i : Nat), i < 559 → aI (P U) (b + 4) (nI i) = some (U.1 4 i)) ∧
    (∀ (U : WV) (i : Nat) (x : Int32), i < 559 → sI (P U) (b + 4) (nI i) x = some (P (sx U 4 (upd (U.1 4) i x)))) ∧
    (∀ (U : WV) (i : Nat), i < 9 → aI (P U) (b + 5) (nI i) = some (U.1 5 i)) ∧
    (∀ (U : WV) (i : Nat) (x : Int32), i < 9 → sI (P U) (b + 5) (nI i) x = some (P (sx U 5 (upd (U.1 5) i x)))) ∧
    (∀ (U : WV) (i : Nat), i < 9 → aI (P U) (b + 6) (nI i) = some (U.1 6 i)) ∧
    (∀ (U : WV) (i : Nat) (x : Int32), i < 9 → sI (P U) (b + 6) (nI i) x = some (P (sx U 6 (upd (U.1 6) i x)))) ∧
    (∀ (U : WV) (i : Nat), i < 3 → aI (P U) (b + 7) (nI i) = some (U.1 7 i)) ∧
    (∀ (U : WV) (i : Nat) (x : Int32), i < 3 → sI (P U) (b + 7) (nI i) x = some (P (sx U 7 (upd (U.1 7) i x)))) ∧
    (∀ (U : WV) (i : Nat), i < 2 → aB (P U) (b + 8) (nI i) = some (U.1 8 i)) ∧
    (∀ (U : WV) (i : Nat) (x : Int32), i < 2 → sB (P U) (b + 8) (nI i) x = some (P (sx U 8 (upd (U.1 8) i (vp_nar .boolean x))))) ∧
    (∀ (U : WV) (i : Nat), i < 12 → aI (P U) (b + 9) (nI i) = some (U.1 9 i)) ∧
    (∀ (U : WV) (i : Nat) (x : Int32), i < 12 → sI (P U) (b + 9) (nI i) x = some (P (sx U 9 (upd (U.1 9) i x)))) ∧
    (∀ (U : WV) (i : Nat), i < 12 → aI (P U) (b + 10) (nI i) = some (U.1 10 i)) ∧
    (∀ (U : WV) (i : Nat) (x : Int32), i < 12 → sI (P U) (b + 10) (nI i) x = some (P (sx U 10 (upd (U.1 10) i x)))) ∧
    (∀ (U : WV) (i : Nat), i < 12 → aI (P U) (b + 11) (nI i) = some (U.1 11 i)) ∧
    (∀ (U : WV) (i : Nat) (x : Int32), i < 12 → sI (P U) (b + 11) (nI i) x = some (P (sx U 11 (upd (U.1 11) i x)))) ∧
    (∀ (U : WV) (i : Nat), i < 12 → aI (P U) (b + 12) (nI i) = some (U.1 12 i)) ∧
    (∀ (U : WV) (i : Nat) (x : Int32), i < 12 → sI (P U) (b + 12) (nI i) x = some (P (sx U 12 (upd (U.1 12) i x)))) ∧
    (∀ (U : WV) (i : Nat), i < 12 → aI (P U) (b + 13) (nI i) = some (U.1 13 i)) ∧
    (∀ (U : WV) (i : Nat) (x : Int32), i < 12 → sI (P U) (b + 13) (nI i) x = some (P (sx U 13 (upd (U.1 13) i x)))) ∧
    (∀ (U : WV) (i : Nat), i < 12 → aI (P U) (b + 14) (nI i) = some (U.1 14 i)) ∧
    (∀ (U : WV) (i : Nat) (x : Int32), i < 12 → sI (P U) (b + 14) (nI i) x = some (P (sx U 14 (upd (U.1 14) i x)))) ∧
    (∀ (U : WV) (i : Nat), i < 12 → aI (P U) (b + 15) (nI i) = some (U.1 15 i)) ∧
    (∀ (U : WV) (i : Nat) (x : Int32), i < 12 → sI (P U) (b + 15) (nI i) x = some (P (sx U 15 (upd (U.1 15) i x)))) ∧
    (∀ (U : WV) (i : Nat), i < 28 → aI (P U) (b + 16) (nI i) = some (U.1 16 i)) ∧
    (∀ (U : WV) (i : Nat) (x : Int32), i < 28 → sI (P U) (b + 16) (nI i) x = some (P (sx U 16 (upd (U.1 16) i x)))) ∧
    (∀ (U : WV) (i : Nat), i < 28 → aI (P U) (b + 17) (nI i) = some (U.1 17 i)) ∧
    (∀ (U : WV) (i : Nat) (x : Int32), i < 28 → sI (P U) (b + 17) (nI i) x = some (P (sx U 17 (upd (U.1 17) i x)))) ∧
    (∀ (U : WV) (i : Nat), i < 28 → aB (P U) (b + 18) (nI i) = some (U.1 18 i)) ∧
    (∀ (U : WV) (i : Nat) (x : Int32), i < 28 → sB (P U) (b + 18) (nI i) x = some (P (sx U 18 (upd (U.1 18) i (vp_nar .boolean x))))) :=
  ⟨fun V α x => h.co (o := 0) (by decide) (by decide) rfl,
   fun V => h.getr (o := 0) (by decide) (by decide) rfl rfl,
   fun V => h.getr (o := 0) (by decide) (by decide) rfl rfl,
   fun V => h.getr (o := 0) (by decide) (by decide) rfl rfl,
   fun V => h.getr (o := 0) (by decide) (by decide) rfl rfl,
   fun V => h.getr (o := 0) (by decide) (by decide) rfl rfl,
   fun V => h.getr (o := 0) (by decide) (by decide) rfl rfl,
   fun V => h.getr (o := 0) (by decide) (by decide) rfl rfl,
   fun V => h.getr (o := 0) (by decide) (by decide) rfl rfl,
   fun V => h.getr (o := 0) (by decide) (by decide) rfl rfl,
   fun V => h.getr (o := 0) (by decide) (by decide) rfl rfl,
   fun V => h.getr (o := 0) (by decide) (by decide) rfl rfl,
   fun V => h.getr (o := 0) (by decide) (by decide) rfl rfl,
   fun V => h.getr (o := 0) (by decide) (by decide) rfl rfl,
   fun V => h.getr (o := 0) (by decide) (by decide) rfl rfl,
   fun V => h.getr (o := 0) (by decide) (by decide) rfl rfl,
   fun V => h.getr (o := 0) (by decide) (by decide) rfl rfl,
   fun V => h.getr (o := 0) (by decide) (by decide) rfl rfl,
   fun V => h.getr (o := 0) (by decide) (by decide) rfl rfl,
   fun V => h.geti (o := 0) (by decide) (by decide) rfl,
   fun V x => h.puti (o := 0) (by decide) (by decide) rfl,
   fun V => h.geti (o := 0) (by decide) (by decide) rfl,
   fun V x => h.puti (o := 0) (by decide) (by decide) rfl,
   fun V => h.geti (o := 0) (by decide) (by decide) rfl,
   fun V x => h.puti (o := 0) (by decide) (by decide) rfl,
   fun V i hi => h.ldi (o := 1) (by decide) (by decide) rfl (by decide) hi,
   fun V i x hi => h.sti (o := 1) (by decide) (by decide) rfl (by decide) hi,
   fun V i hi => h.ldi (o := 2) (by decide) (by decide) rfl (by decide) hi,
   fun V i x hi => h.sti (o := 2) (by decide) (by decide) rfl (by decide) hi,
   fun V i hi => h.ldi (o := 3) (by decide) (by decide) rfl (by decide) hi,
   fun V i x hi => h.sti (o := 3) (by decide) (by decide) rfl (by decide) hi,
   fun V i hi => h.ldi (o := 4) (by decide) (by decide) rfl (by decide) hi,
   fun V i x hi => h.sti (o := 4) (by decide) (by decide) rfl (by decide) hi,
   fun V i hi => h.ldi (o := 5) (by decide) (by decide) rfl (by decide) hi,
   fun V i x hi => h.sti (o := 5) (by decide) (by decide) rfl (by decide) hi,
   fun V i hi => h.ldi (o := 6) (by decide) (by decide) rfl (by decide) hi,
   fun V i x hi => h.sti (o := 6) (by decide) (by decide) rfl (by decide) hi,
   fun V i hi => h.ldi (o := 7) (by decide) (by decide) rfl (by decide) hi,
   fun V i x hi => h.sti (o := 7) (by decide) (by decide) rfl (by decide) hi,
   fun V i hi => h.ldb (o := 8) (by decide) (by decide) rfl (by decide) hi,
   fun V i x hi => h.stb (o := 8) (by decide) (by decide) rfl (by decide) hi,
   fun V i hi => h.ldi (o := 9) (by decide) (by decide) rfl (by decide) hi,
   fun V i x hi => h.sti (o := 9) (by decide) (by decide) rfl (by decide) hi,
   fun V i hi => h.ldi (o := 10) (by decide) (by decide) rfl (by decide) hi,
   fun V i x hi => h.sti (o := 10) (by decide) (by decide) rfl (by decide) hi,
   fun V i hi => h.ldi (o := 11) (by decide) (by decide) rfl (by decide) hi,
   fun V i x hi => h.sti (o := 11) (by decide) (by decide) rfl (by decide) hi,
   fun V i hi => h.ldi (o := 12) (by decide) (by decide) rfl (by decide) hi,
   fun V i x hi => h.sti (o := 12) (by decide) (by decide) rfl (by decide) hi,
   fun V i hi => h.ldi (o := 13) (by decide) (by decide) rfl (by decide) hi,
   fun V i x hi => h.sti (o := 13) (by decide) (by decide) rfl (by decide) hi,
   fun V i hi => h.ldi (o := 14) (by decide) (by decide) rfl (by decide) hi,
   fun V i x hi => h.sti (o := 14) (by decide) (by decide) rfl (by decide) hi,
   fun V i hi => h.ldi (o := 15) (by decide) (by decide) rfl (by decide) hi,
   fun V i x hi => h.sti (o := 15) (by decide) (by decide) rfl (by decide) hi,
   fun V i hi => h.ldi (o := 16) (by decide) (by decide) rfl (by decide) hi,
   fun V i x hi => h.sti (o := 16) (by decide) (by decide) rfl (by decide) hi,
   fun V i hi => h.ldi (o := 17) (by decide) (by decide) rfl (by decide) hi,
   fun V i x hi => h.sti (o := 17) (by decide) (by decide) rfl (by decide) hi,
   fun V i hi => h.ldb (o := 18) (by decide) (by decide) rfl (by decide) hi,
   fun V i x hi => h.stb (o := 18) (by decide) (by decide) rfl (by decide) hi⟩
theorem ml0 {b : Nat} {P : WV → Hp} (h : LM b P) :
    (∀ U : WV, aI (P U) (b + 1) 0 = some (U.1 1 0)) ∧
    (∀ (U : WV) (x : Int32), sI (P U) (b + 1) 0 x = some (P (sx U 1 (upd (U.1 1) 0 x)))) ∧
    (∀ U : WV, aI (P U) (b + 1) 1 = some (U.1 1 1)) ∧
    (∀ (U : WV) (x : Int32), sI (P U) (b + 1) 1 x = some (P (sx U 1 (upd (U.1 1) 1 x)))) ∧
    (∀ U : WV, aI (P U) (b + 1) 2 = some (U.1 1 2)) ∧
    (∀ (U : WV) (x : Int32), sI (P U) (b + 1) 2 x = some (P (sx U 1 (upd (U.1 1) 2 x)))) ∧
    (∀ U : WV, aI (P U) (b + 1) 3 = some (U.1 1 3)) ∧
    (∀ (U : WV) (x : Int32), sI (P U) (b + 1) 3 x = some (P (sx U 1 (upd (U.1 1) 3 x)))) ∧
    (∀ U : WV, aI (P U) (b + 1) 4 = some (U.1 1 4)) ∧
    (∀ (U : WV) (x : Int32), sI (P U) (b + 1) 4 x = some (P (sx U 1 (upd (U.1 1) 4 x)))) ∧
    (∀ U : WV, aI (P U) (b + 1) 5 = some (U.1 1 5)) ∧
    (∀ (U : WV) (x : Int32), sI (P U) (b + 1) 5 x = some (P (sx U 1 (upd (U.1 1) 5 x)))) ∧
    (∀ U : WV, aI (P U) (b + 1) 6 = some (U.1 1 6)) ∧
    (∀ (U : WV) (x : Int32), sI (P U) (b + 1) 6 x = some (P (sx U 1 (upd (U.1 1) 6 x)))) ∧
    (∀ U : WV, aI (P U) (b + 9) 0 = some (U.1 9 0)) ∧
    (∀ (U : WV) (x : Int32), sI (P U) (b + 9) 0 x = some (P (sx U 9 (upd (U.1 9) 0 x)))) ∧
    (∀ U : WV, aI (P U) (b + 12) 0 = some (U.1 12 0)) ∧
    (∀ (U : WV) (x : Int32), sI (P U) (b + 12) 0 x = some (P (sx U 12 (upd (U.1 12) 0 x)))) ∧
    (∀ U : WV, aI (P U) (b + 16) 0 = some (U.1 16 0)) ∧
    (∀ (U : WV) (x : Int32), sI (P U) (b + 16) 0 x = some (P (sx U 16 (upd (U.1 16) 0 x)))) ∧
    (∀ U : WV, aI (P U) (b + 17) 0 = some (U.1 17 0)) ∧
    (∀ (U : WV) (x : Int32), sI (P U) (b + 17) 0 x = some (P (sx U 17 (upd (U.1 17) 0 x)))) :=
  ⟨fun V => h.ldi (o := 1) (i := 0) (len := 1677) (by decide) (by decide) rfl (by decide) (by decide),
   fun V x => h.sti (o := 1) (i := 0) (len := 1677) (by decide) (by decide) rfl (by decide) (by decide),
   fun V => h.ldi (o := 1) (i := 1) (len := 1677) (by decide) (by decide) rfl (by decide) (by decide),
   fun V x => h.sti (o := 1) (i := 1) (len := 1677) (by decide) (by decide) rfl (by decide) (by decide),
   fun V => h.ldi (o := 1) (i := 2) (len := 1677) (by decide) (by decide) rfl (by decide) (by decide),
   fun V x => h.sti (o := 1) (i := 2) (len := 1677) (by decide) (by decide) rfl (by decide) (by decide),
   fun V => h.ldi (o := 1) (i := 3) (len := 1677) (by decide) (by decide) rfl (by decide) (by decide),
   fun V x => h.sti (o := 1) (i := 3) (len := 1677) (by decide) (by decide) rfl (by decide) (by decide),
   fun V => h.ldi (o := 1) (i := 4) (len := 1677) (by decide) (by decide) rfl (by decide) (by decide),
   fun V x => h.sti (o := 1) (i := 4) (len := 1677) (by decide) (by decide) rfl (by decide) (by decide),
   fun V => h.ldi (o := 1) (i := 5) (len := 1677) (by decide) (by decide) rfl (by decide) (by decide),
   fun V x => h.sti (o := 1) (i := 5) (len := 1677) (by decide) (by decide) rfl (by decide) (by decide),
   fun V => h.ldi (o := 1) (i := 6) (len := 1677) (by decide) (by decide) rfl (by decide) (by decide),
   fun V x => h.sti (o := 1) (i := 6) (len := 1677) (by decide) (by decide) rfl (by decide) (by decide),
   fun V => h.ldi (o := 9) (i := 0) (len := 12) (by decide) (by decide) rfl (by decide) (by decide),
   fun V x => h.sti (o := 9) (i := 0) (len := 12) (by decide) (by decide) rfl (by decide) (by decide),
   fun V => h.ldi (o := 12) (i := 0) (len := 12) (by decide) (by decide) rfl (by decide) (by decide),
   fun V x => h.sti (o := 12) (i := 0) (len := 12) (by decide) (by decide) rfl (by decide) (by decide),
   fun V => h.ldi (o := 16) (i := 0) (len := 28) (by decide) (by decide) rfl (by decide) (by decide),
   fun V x => h.sti (o := 16) (i := 0) (len := 28) (by decide) (by decide) rfl (by decide) (by decide),
   fun V => h.ldi (o := 17) (i := 0) (len := 28) (by decide) (by decide) rfl (by decide) (by decide),
   fun V x => h.sti (o := 17) (i := 0) (len := 28) (by decide) (by decide) rfl (by decide) (by decide)⟩
