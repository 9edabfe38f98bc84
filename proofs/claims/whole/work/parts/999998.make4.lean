section MAKE4
def c9 (z : Nat → Option Nat) : Cel := ((9, 0), fun _ => 0, fun _ => 0, z)
theorem p9 (z : Nat → Option Nat) (L : List Cel) (k x : Nat) : pR (hl (c9 z :: L)) 0 9 k x = some (hl (c9 (va_up z k (some x)) :: L)) := mk_pR (A := []) (c := c9 z) (L := L) rfl
theorem n9 {z : Nat → Option Nat} {L : List Cel} {n : Nat} (h : L.length + 1 = n) : mN (hl (c9 z :: L)) = n := by rw [hl_N]; exact h
theorem nW (z : Nat → Option Nat) {L : List Cel} {n : Nat} (h : L.length + 1 = n) : F_X8_init (nwO (hl (c9 z :: L)) 8) n = some (hl (c9 z :: (L ++ blk n 0 57 TW ZW W0))) := by
  subst h
  rw [mk_nO]
  exact mk_world (c9 z :: L)
theorem nP (z : Nat → Option Nat) {L : List Cel} {n : Nat} (h : L.length + 1 = n) : F_X4_init (nwO (hl (c9 z :: L)) 4) n = some (hl (c9 z :: (L ++ pL n 11))) := by
  subst h
  rw [mk_nO]
  exact mk_past (c9 z :: L)
theorem nA2 (z : Nat → Option Nat) (L : List Cel) : nwA (hl (c9 z :: L)) 14 2 = some (hl (c9 z :: (L ++ [nC 14 2]))) := by
  rw [mk_nA _ 14 (n := 2) (k := 2) (by decide) (by decide)]; rfl
def rL (b : Nat) : List Cel := [((5, 0), fun _ => 0, fun _ => 0, z6 b), nC 11 12, nC 11 12, nC 11 12, nC 11 12, nC 11 12, nC 11 12]
theorem nR (z : Nat → Option Nat) {L : List Cel} {n : Nat} (h : L.length + 1 = n) : F_X5_init (nwO (hl (c9 z :: L)) 5) n = some (hl (c9 z :: (L ++ rL n))) := by
  subst h
  rw [mk_nO]
  exact mk_recl (c9 z :: L)
theorem nM0 (z : Nat → Option Nat) (L : List Cel) {x : Nat} (h : z 4 = some x) : gR (nwO (hl (c9 z :: L)) 3) 0 9 4 = some x := by
  rw [mk_nO]
  exact mk_gR (A := []) (c := c9 z) rfl h
def mL (x : Nat) : List Cel := [((3, 0), fun _ => 0, fun _ => 0, va_up (fun _ => none) 0 (some x))]
theorem nM (z : Nat → Option Nat) {L : List Cel} {n : Nat} (h : L.length + 1 = n) (x : Nat) : F_X3_init (nwO (hl (c9 z :: L)) 3) n x = some (hl (c9 z :: (L ++ mL x))) := by
  subst h
  rw [mk_nO]
  unfold F_X3_init
  have := mk_pR (A := c9 z :: L) (L := []) (c := nC 3 0) (t := 3) (k := 0) (x := x) rfl
  have e : pR (hl (c9 z :: L ++ [((3, 0), fun _ => 0, fun _ => 0, fun _ => none)])) (L.length + 1) 3 0 x = some (hl (c9 z :: (L ++ mL x))) := this
  rw [e]; rfl
def lL (b : Nat) : List Cel := [((2, 0), fun _ => 0, fun _ => 0, va_up (va_up (fun _ => none) 0 (some (b + 1))) 1 (some (b + 2))), nC 11 28, nC 11 28]
theorem nB (z : Nat → Option Nat) {L : List Cel} {n : Nat} (h : L.length + 1 = n) : F_X2_init (nwO (hl (c9 z :: L)) 2) n = some (hl (c9 z :: (L ++ lL n))) := by
  subst h
  rw [mk_nO]
  exact mk_lab (c9 z :: L)
def z9 : Nat → Option Nat := va_up (va_up (va_up (va_up (va_up (va_up (va_up (fun _ => none) 0 (some 1)) 1 (some 58)) 2 (some 115)) 3 (some 744)) 4 (some 745)) 5 (some 752)) 6 (some 753)
def L1 : List Cel := blk 1 0 57 TW ZW W0
def L2' : List Cel := L1 ++ blk 58 0 57 TW ZW W0
def L3 : List Cel := L2' ++ pL 115 11
def L4 : List Cel := L3 ++ [nC 14 2]
def L5 : List Cel := L4 ++ rL 745
def L6 : List Cel := L5 ++ mL 745
def L7 : List Cel := L6 ++ lL 753
theorem l1 : L1.length + 1 = 58 := by unfold L1; rw [blk_len]
theorem l2 : L2'.length + 1 = 115 := by
  have := l1
  unfold L2'; rw [List.length_append, blk_len]; omega
theorem l3 : L3.length + 1 = 744 := by
  have e : ∀ x : Nat, x + 1 = 115 → x + 629 + 1 = 744 := by omega
  have e2 : (pL 115 11).length = 629 := by
    unfold pL
    rw [List.length_cons, List.length_cons, Wl_len]
  unfold L3
  rw [List.length_append, e2]; exact e _ l2
theorem l4 : L4.length + 1 = 745 := by
  have := l3
  unfold L4
  rw [List.length_append, List.length_singleton]; omega
theorem l5 : L5.length + 1 = 752 := by
  have := l4
  have e : (rL 745).length = 7 := rfl
  unfold L5
  rw [List.length_append, e]; omega
theorem l6 : L6.length + 1 = 753 := by
  have := l5
  have e : (mL 745).length = 1 := rfl
  unfold L6
  rw [List.length_append, e]; omega
theorem l7 : L7.length + 1 = 756 := by
  have := l6
  have e : (lL 753).length = 3 := rfl
  unfold L7
  rw [List.length_append, e]; omega
theorem mk_class : F_X9_init (hl [c9 (fun _ => none)]) 0 = some (hl (c9 z9 :: L7)) := by
  unfold F_X9_init
  have e1 : ([] : List Cel) ++ blk 1 0 57 TW ZW W0 = L1 := rfl
  have e2 : L1 ++ blk 58 0 57 TW ZW W0 = L2' := rfl
  have e3 : L2' ++ pL 115 11 = L3 := rfl
  have e4 : L3 ++ [nC 14 2] = L4 := rfl
  have e5 : L4 ++ rL 745 = L5 := rfl
  have e6 : L5 ++ mL 745 = L6 := rfl
  have e7 : L6 ++ lL 753 = L7 := rfl
  have e0 : ([] : List Cel).length + 1 = 1 := rfl
  simp only [bl]
  rw [n9 e0, nW _ e0, Option.bind_some, e1, p9, Option.bind_some]
  rw [n9 l1, nW _ l1, Option.bind_some, e2, p9, Option.bind_some]
  rw [n9 l2, nP _ l2, Option.bind_some, e3, p9, Option.bind_some]
  rw [n9 l3, nA2, Option.bind_some, e4, p9, Option.bind_some]
  rw [n9 l4, nR _ l4, Option.bind_some, e5, p9, Option.bind_some]
  rw [n9 l5, nM0 (x := 745) _ _ rfl, Option.bind_some, nM _ l5, Option.bind_some, e6, p9, Option.bind_some]
  rw [n9 l6, nB _ l6, Option.bind_some, e7, p9, Option.bind_some]
  rfl
end MAKE4
