def rowU (V : WV) (st m g : Nat) (val : Nat → Int32) : WV := (fun o => if st ≤ o ∧ o < st + m then upd (V.1 o) g (val (o - st)) else V.1 o, V.2)
theorem rowU_0 (V : WV) (st g : Nat) (val : Nat → Int32) : rowU V st 0 g val = V := by
  unfold rowU
  refine Prod.ext (funext fun o => ?_) rfl
  show (if st ≤ o ∧ o < st + 0 then _ else V.1 o) = V.1 o
  rw [if_neg (by omega)]
theorem rowU_s (V : WV) (st i g : Nat) (val : Nat → Int32) : sx (rowU V st i g val) (st + i) (upd (V.1 (st + i)) g (val i)) = rowU V st (i + 1) g val := by
  unfold rowU sx
  refine Prod.ext (funext fun o => ?_) rfl
  simp only [va_up]
  by_cases e : o = st + i
  · subst e
    rw [if_pos rfl, if_pos (by omega), Nat.add_sub_cancel_left]
  · rw [if_neg e]
    by_cases h : st ≤ o ∧ o < st + i
    · rw [if_pos h, if_pos (by omega)]
    · rw [if_neg h, if_neg (by omega)]
theorem rowU_at (V : WV) (st i g : Nat) (val : Nat → Int32) : (rowU V st i g val).1 (st + i) = V.1 (st + i) := by
  simp only [rowU]
  rw [if_neg (by omega)]
theorem s_fill {b lo n o len : Nat} {T : Nat → Nat × Nat} {Z : Nat → Nat → Option Nat} {P : WV → Hp} (h : LB b lo n T Z P) (hq : lo ≤ o) (ho : o < n) (ht : T o = (11, len)) (hlen : len < 6000) (V : WV) (v : Int32) : F_J7_fill_53178 (P V) (b + o) v = some (P (sx V o (fun i => if i < len then v else V.1 o i))) := by
  obtain ⟨a, ha, hI⟩ := loop_inv (st := fun x => F_J7_fill_53178_L5 (b + o) v (nI len) x.1 x.2) (fun i (f : Nat → Int32) => (nI i, P (sx V o f))) (fun f => P (sx V o f)) (fun i f => f = fun k => if k < i then v else V.1 o k) len
    (fun i f hi hf => by
      refine ⟨upd f i v, ?_, ?_⟩
      · show F_J7_fill_53178_L5 (b + o) v (nI len) (nI i) (P (sx V o f)) = _
        unfold F_J7_fill_53178_L5
        rw [if_neg (nI_ge hi (by omega)), h.sti hq ho ht (by omega) hi, Option.bind_some, sx_sx, sx_1, up_s]
        simp only [bl, nI_1]
      · rw [hf]
        funext k
        by_cases e : k = i
        · subst e; simp [upd]
        · have : k < i + 1 ↔ k < i := by omega
          simp [upd, e, this])
    (fun f hf => by
      show F_J7_fill_53178_L5 (b + o) v (nI len) (nI len) _ = _
      unfold F_J7_fill_53178_L5
      rw [if_pos (nI_le (Nat.le_refl _) (by omega))])
    len 0 6000 (V.1 o) (by omega) (by omega) (by funext k; simp)
  unfold F_J7_fill_53178
  rw [h.alen hq ho ht, Option.bind_some]
  have e1 : loopF (fun x => F_J7_fill_53178_L5 (b + o) v (Int32.ofNat len) x.1 x.2) 6000 (0, P V) = some (P (sx V o a)) := by
    rw [← ha]
    show _ = loopF _ 6000 (nI 0, P (sx V o (V.1 o)))
    rw [sx_id]; rfl
  rw [e1, hI]
  rfl
section PUT
variable {V : WV} {n : Nat} {o : Nat → Nat} {w : Nat} {P : WV → Hp}
def putG0 (V : WV) (n g : Nat) (p : Int32) : WV := sx (sx (sx V 2 (upd (V.1 2) g p)) 3 (upd (V.1 3) n (nI g))) 1 (upd (V.1 1) 2 (nI (n + 1)))
def zero4 (V : WV) (g : Nat) : WV := sx (sx (sx (sx V 14 (upd (V.1 14) g 0)) 15 (upd (V.1 15) g 0)) 16 (upd (V.1 16) g 0)) 17 (upd (V.1 17) g 0)
/-- a group is put: its parent, the order, limits as at first, nothing charged -/
def putG (V : WV) (n g : Nat) (p : Int32) : WV := rowU (zero4 (rowU (putG0 V n g p) 5 9 g (fun j => (stt 0).getD j 0)) g) 19 4 g (fun _ => 0)
theorem s_putGroup (hP : LT w P) (hn : n < 12) (hs : V.1 1 2 = nI n) {g : Nat} (hg : g < 12) (p : Int32) : F_X6_putGroup (P V) (w + 1) (nI g) p = some (P (putG V n g p)) := by
  have L1 : ∀ U : WV, loopF (fun x => F_X6_putGroup_L29 (w + 1) (nI g) x.1 x.2) 6000 (0, P U) = some (P (rowU U 5 9 g (fun j => (stt 0).getD j 0))) := by
    intro U
    have h := loop_rng (st := fun x => F_X6_putGroup_L29 (w + 1) (nI g) x.1 x.2) (fun i (_ : Unit) => (nI i, P (rowU U 5 i g (fun j => (stt 0).getD j 0)))) (fun a _ => a) (fun _ => P (rowU U 5 9 g (fun j => (stt 0).getD j 0))) 9
      (fun i a hi => by
        show F_X6_putGroup_L29 (w + 1) (nI g) (nI i) _ = _
        unfold F_X6_putGroup_L29
        have hsx : sX 0 (nI i) = some ((stt 0).getD i 0) := by
          unfold sX
          rw [inb_nI (show i < (stt 0).length from hi) (by decide), if_pos rfl, nI_clamp (by omega)]
        rw [h9I, if_neg (nI_ge hi (by decide))]
        simp only [tl hP, Option.bind_some, hi, hg, hsx, bl, nI_1, rowU_at]
        rw [rowU_s])
      (fun a => by
        show F_X6_putGroup_L29 (w + 1) (nI g) (nI 9) _ = _
        unfold F_X6_putGroup_L29
        rw [h9I, if_pos (nI_le (Nat.le_refl _) (by decide))])
      (n := 6000) (by decide) ()
    rw [rowU_0] at h
    exact h
  have L2 : ∀ U : WV, loopF (fun x => F_X6_putGroup_L84 (w + 1) (nI g) x.1 x.2) 6000 (0, P U) = some (P (rowU U 19 4 g (fun _ => 0))) := by
    intro U
    have h := loop_rng (st := fun x => F_X6_putGroup_L84 (w + 1) (nI g) x.1 x.2) (fun i (_ : Unit) => (nI i, P (rowU U 19 i g (fun _ => 0)))) (fun a _ => a) (fun _ => P (rowU U 19 4 g (fun _ => 0))) 4
      (fun i a hi => by
        show F_X6_putGroup_L84 (w + 1) (nI g) (nI i) _ = _
        unfold F_X6_putGroup_L84
        rw [h4I, if_neg (nI_ge hi (by decide))]
        simp only [tl hP, Option.bind_some, hi, hg, bl, nI_1, rowU_at]
        rw [rowU_s U 19 i g (fun _ => 0)])
      (fun a => by
        show F_X6_putGroup_L84 (w + 1) (nI g) (nI 4) _ = _
        unfold F_X6_putGroup_L84
        rw [h4I, if_pos (nI_le (Nat.le_refl _) (by decide))])
      (n := 6000) (by decide) ()
    rw [rowU_0] at h
    exact h
  unfold F_X6_putGroup
  have e1 : ∀ f : Nat → Int32, (sx V 2 f).1 1 2 = nI n := fun f => hs
  have e2 : ∀ f f' : Nat → Int32, (sx (sx V 2 f) 3 f').1 1 2 = nI n := fun f f' => hs
  simp only [tl hP, Option.bind_some, hg, e1, e2, hn, nI_1, L1, L2]
  rfl
end PUT
