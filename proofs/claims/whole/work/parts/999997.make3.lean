/-! the constructors: Past, Reclaim, Memory, Labour, GroupLimits -/
section MAKE3
def nC (t n : Nat) : Cel := ((t, n), fun _ => 0, fun _ => 0, fun _ => none)
/-- Past's Worlds, i of them, from address b on -/
def Wl (b : Nat) : Nat → List Cel
  | 0 => []
  | i + 1 => Wl b i ++ blk (b + 57 * i) 0 57 TW ZW W0
theorem Wl_len (b : Nat) : ∀ i, (Wl b i).length = 57 * i
  | 0 => rfl
  | i + 1 => by
    show (Wl b i ++ _).length = _
    rw [List.length_append, Wl_len b i, blk_len]; omega
def zr (b i : Nat) : Nat → Option Nat := fun j => if j < i then some (b + 57 * j) else none
/-- Past with i Worlds -/
def pL (b i : Nat) : List Cel := ((4, 0), fun _ => 0, fun _ => 0, va_up (fun _ => none) 2 (some (b + 1))) :: ((14, 11), fun _ => 0, fun _ => 0, zr (b + 2) i) :: Wl (b + 2) i
theorem zr_s (b i : Nat) : va_up (zr b i) i (some (b + 57 * i)) = zr b (i + 1) := by
  funext j
  unfold zr
  by_cases e : j = i
  · subst e; rw [up_s, if_pos (by omega)]
  · rw [up_n _ _ e]
    by_cases h : j < i
    · rw [if_pos h, if_pos (by omega)]
    · rw [if_neg h, if_neg (by omega)]
theorem mk_sR {A L : List Cel} {c : Cel} {i x : Nat} (hc : c.1 = (14, 11)) (hi : i < 11) (hx : okT (hl (A ++ c :: L)) x 8 = true) : sR (hl (A ++ c :: L)) A.length (nI i) x = some (hl (A ++ (c.1, c.2.1, c.2.2.1, va_up c.2.2.2 i (some x)) :: L)) := by
  unfold sR
  rw [mk_ok, hc, hl_T mk_at, hc, inb_nI hi (by decide), hx, nI_clamp (by omega), hl_sZ mk_at, mk_set, hl_Z mk_at, hc]; rfl
theorem past_step {α : Type} (A : List Cel) {i : Nat} (hi : i < 11) {v : Int32} (hv : v = nI i) (K : Hp → Option α) : ((gR (hl (A ++ pL A.length i)) A.length 4 2).bind fun a3 => bl (nwO (hl (A ++ pL A.length i)) 8) fun h4 => (F_X8_init h4 (mN (hl (A ++ pL A.length i)))).bind fun h5 => (sR h5 a3 v (mN (hl (A ++ pL A.length i)))).bind K) = K (hl (A ++ pL A.length (i + 1))) := by
  subst hv
  have e1 : gR (hl (A ++ pL A.length i)) A.length 4 2 = some (A.length + 1) := mk_gR rfl rfl
  have eN : mN (hl (A ++ pL A.length i)) = (A ++ pL A.length i).length := hl_N _
  have el : (A ++ pL A.length i).length = A.length + 2 + 57 * i := by
    unfold pL
    rw [List.length_append, List.length_cons, List.length_cons, Wl_len]; omega
  rw [e1, Option.bind_some, bl, mk_nO, eN, mk_world (A ++ pL A.length i), Option.bind_some, el]
  have e2 : A ++ pL A.length i ++ blk (A.length + 2 + 57 * i) 0 57 TW ZW W0 = (A ++ [((4, 0), fun _ => 0, fun _ => 0, va_up (fun _ => none) 2 (some (A.length + 1)))]) ++ ((14, 11), fun _ => 0, fun _ => 0, zr (A.length + 2) i) :: Wl (A.length + 2) (i + 1) := by
    show A ++ (_ :: _ :: Wl (A.length + 2) i) ++ _ = _
    rw [List.append_assoc, List.append_assoc]
    rfl
  have e3 : A.length + 1 = (A ++ [(((4, 0), fun _ => 0, fun _ => 0, va_up (fun _ => none) 2 (some (A.length + 1))) : Cel)]).length := by
    rw [List.length_append]; rfl
  have ok : okT (hl (A ++ pL A.length i ++ blk (A.length + 2 + 57 * i) 0 57 TW ZW W0)) (A.length + 2 + 57 * i) 8 = true := by
    have hP := lens_of (A ++ pL A.length i) [] (A.length + 2 + 57 * i) 0 57 el TW ZW
    simp only [List.append_nil] at hP
    have := hP.ok (V := W0) (o := 0) (t := 8) (by decide) (by decide) rfl
    rw [Nat.add_zero] at this
    exact this
  rw [e2] at ok ⊢
  have e5 := mk_sR (c := ((14, 11), fun _ => 0, fun _ => 0, zr (A.length + 2) i)) rfl hi ok
  rw [← e3] at e5
  rw [e5, Option.bind_some]
  have e4 : va_up (zr (A.length + 2) i) i (some (A.length + 2 + 57 * i)) = zr (A.length + 2) (i + 1) := zr_s _ _
  dsimp only
  rw [e4, List.append_assoc]
  rfl
theorem mk_past (A : List Cel) : F_X4_init (hl (A ++ [nC 4 0])) A.length = some (hl (A ++ pL A.length 11)) := by
  have e0 : (nwA (hl (A ++ [nC 4 0])) 14 11) = some (hl (A ++ nC 4 0 :: [nC 14 11])) := by
    rw [mk_nA _ 14 (n := 11) (k := 11) (by decide) (by decide), List.append_assoc]; rfl
  have e1 : pR (hl (A ++ nC 4 0 :: [nC 14 11])) A.length 4 2 (mN (hl (A ++ [nC 4 0]))) = some (hl (A ++ pL A.length 0)) := by
    rw [mk_pR (c := nC 4 0) (t := 4) rfl, mk_N]
    have : zr (A.length + 2) 0 = fun _ => none := by funext j; unfold zr; rw [if_neg (by omega)]
    unfold pL
    rw [this]; rfl
  unfold F_X4_init
  rw [e0, Option.bind_some, e1, Option.bind_some]
  rw [past_step A (i := 0) (v := 0) (by decide) rfl, past_step A (i := 1) (v := 1) (by decide) rfl, past_step A (i := 2) (v := 2) (by decide) rfl, past_step A (i := 3) (v := 3) (by decide) rfl, past_step A (i := 4) (v := 4) (by decide) rfl, past_step A (i := 5) (v := 5) (by decide) rfl, past_step A (i := 6) (v := 6) (by decide) rfl, past_step A (i := 7) (v := 7) (by decide) rfl, past_step A (i := 8) (v := 8) (by decide) rfl, past_step A (i := 9) (v := 9) (by decide) rfl, past_step A (i := 10) (v := 10) (by decide) rfl]
def z6 (b : Nat) : Nat → Option Nat := va_up (va_up (va_up (va_up (va_up (va_up (fun _ => none) 0 (some (b + 1))) 1 (some (b + 2))) 2 (some (b + 3))) 3 (some (b + 4))) 4 (some (b + 5))) 5 (some (b + 6))
theorem mk_recl (A : List Cel) : F_X5_init (hl (A ++ [nC 5 0])) A.length = some (hl (A ++ [((5, 0), fun _ => 0, fun _ => 0, z6 A.length), nC 11 12, nC 11 12, nC 11 12, nC 11 12, nC 11 12, nC 11 12])) := by
  unfold F_X5_init
  simp only [mk_nA _ 11 (n := 12) (k := 12) (by decide) (by decide), Option.bind_some, List.append_assoc, List.cons_append, List.nil_append, nC, mk_pR, mk_N, List.length_cons, List.length_nil]
  rfl
theorem mk_lab (A : List Cel) : F_X2_init (hl (A ++ [nC 2 0])) A.length = some (hl (A ++ [((2, 0), fun _ => 0, fun _ => 0, va_up (va_up (fun _ => none) 0 (some (A.length + 1))) 1 (some (A.length + 2))), nC 11 28, nC 11 28])) := by
  unfold F_X2_init
  simp only [mk_nA _ 11 (n := 28) (k := 28) (by decide) (by decide), Option.bind_some, List.append_assoc, List.cons_append, List.nil_append, nC, mk_pR, mk_N, List.length_cons, List.length_nil]
end MAKE3
