section MAKE2
def V00 : WV := (fun _ _ => 0, fun _ _ => 0)
theorem cons2 {α : Type} {a a2 : α} {l l2 : List α} (h : a = a2) (h2 : l = l2) : a :: l = a2 :: l2 := by subst h; subst h2; rfl
set_option maxRecDepth 10000 in
theorem mk_trig (A : List Cel) (b : Nat) (hA : A.length = b + 52) : F_X7_init (hl (A ++ [((7, 0), fun _ => 0, fun _ => 0, fun _ => none)])) A.length = some (hl (A ++ blk b 52 5 TW ZW V00)) := by
  unfold F_X7_init
  simp only [mk_nA _ 11 (n := 4) (k := 4) (by decide) (by decide), Option.bind_some, bl, List.append_assoc, List.cons_append, List.nil_append, mk_nM, mk_pR, mk_N, List.replicate, List.length_cons, List.length_nil]
  refine congrArg some (congrArg hl (congrArg (A ++ ·) ?_))
  exact (cons2 (Prod.ext rfl (Prod.ext rfl (Prod.ext rfl (funext fun i => by
      match i with
      | 0 => exact congrArg some (by simp only [List.length_append, List.length_cons, List.length_nil, List.length_replicate, hA] <;> omega)
      | 1 => exact congrArg some (by simp only [List.length_append, List.length_cons, List.length_nil, List.length_replicate, hA] <;> omega)
      | 2 => exact congrArg some (by simp only [List.length_append, List.length_cons, List.length_nil, List.length_replicate, hA] <;> omega)
      | 3 => exact congrArg some (by simp only [List.length_append, List.length_cons, List.length_nil, List.length_replicate, hA] <;> omega)
      | 4 => rfl
      | i + 5 => rfl)))) (cons2 rfl (cons2 rfl (cons2 rfl (cons2 rfl rfl)))))
set_option maxRecDepth 10000 in
theorem mk_gaug (A : List Cel) (b : Nat) (hA : A.length = b + 33) : F_X1_init (hl (A ++ [((1, 0), fun _ => 0, fun _ => 0, fun _ => none)])) A.length = some (hl (A ++ blk b 33 19 TW ZW V00)) := by
  unfold F_X1_init
  simp only [Option.bind_some, bl, List.append_assoc, List.cons_append, List.nil_append, mk_nM, mk_pR, mk_N, List.replicate, List.length_cons, List.length_nil]
  refine congrArg some (congrArg hl (congrArg (A ++ ·) ?_))
  exact (cons2 (Prod.ext rfl (Prod.ext rfl (Prod.ext rfl (funext fun i => by
      match i with
      | 0 => exact congrArg some (by simp only [List.length_append, List.length_cons, List.length_nil, List.length_replicate, hA] <;> omega)
      | 1 => exact congrArg some (by simp only [List.length_append, List.length_cons, List.length_nil, List.length_replicate, hA] <;> omega)
      | 2 => exact congrArg some (by simp only [List.length_append, List.length_cons, List.length_nil, List.length_replicate, hA] <;> omega)
      | i + 3 => rfl)))) (cons2 (Prod.ext rfl (Prod.ext rfl (Prod.ext rfl (funext fun i => by
      show (if i < 3 then some (_ + i) else none) = (if i < 3 then some (35 + i) else none : Option Nat).map (fun y => b + y)
      by_cases h : i < 3
      · rw [if_pos h, if_pos h]; exact congrArg some (by simp only [List.length_append, List.length_cons, List.length_nil, List.length_replicate, hA] <;> omega)
      · rw [if_neg h, if_neg h]; rfl)))) (cons2 rfl (cons2 rfl (cons2 rfl (cons2 (Prod.ext rfl (Prod.ext rfl (Prod.ext rfl (funext fun i => by
      show (if i < 3 then some (_ + i) else none) = (if i < 3 then some (39 + i) else none : Option Nat).map (fun y => b + y)
      by_cases h : i < 3
      · rw [if_pos h, if_pos h]; exact congrArg some (by simp only [List.length_append, List.length_cons, List.length_nil, List.length_replicate, hA] <;> omega)
      · rw [if_neg h, if_neg h]; rfl)))) (cons2 rfl (cons2 rfl (cons2 rfl (cons2 (Prod.ext rfl (Prod.ext rfl (Prod.ext rfl (funext fun i => by
      show (if i < 9 then some (_ + i) else none) = (if i < 9 then some (43 + i) else none : Option Nat).map (fun y => b + y)
      by_cases h : i < 9
      · rw [if_pos h, if_pos h]; exact congrArg some (by simp only [List.length_append, List.length_cons, List.length_nil, List.length_replicate, hA] <;> omega)
      · rw [if_neg h, if_neg h]; rfl)))) (cons2 rfl (cons2 rfl (cons2 rfl (cons2 rfl (cons2 rfl (cons2 rfl (cons2 rfl (cons2 rfl (cons2 rfl rfl)))))))))))))))))))
set_option maxRecDepth 10000 in
theorem mk0_crow (A : List Cel) (b : Nat) (hA : A.length = b + 23) : bl (hl (A ++ [((0, 0), fun _ => 0, fun _ => 0, fun _ => none)])) (fun h => bl A.length fun a0 =>
(nwA h 11 16).bind fun h1 =>
(pR h1 a0 0 0 (mN h)).bind fun h2 =>
(nwA h2 11 16).bind fun h3 =>
(pR h3 a0 0 1 (mN h2)).bind fun h4 =>
bl (nwM h4 15 11 2 16) fun h5 =>
(pR h5 a0 0 2 (mN h4)).bind fun h6 =>
(nwA h6 11 16).bind fun h7 =>
(pR h7 a0 0 3 (mN h6)).bind fun h8 =>
(nwA h8 11 16).bind fun h9 =>
(pR h9 a0 0 4 (mN h8)).bind fun h10 =>
(nwA h10 11 16).bind fun h11 =>
(pR h11 a0 0 5 (mN h10)).bind fun h12 =>
(nwA h12 11 16).bind fun h13 =>
(pR h13 a0 0 6 (mN h12))) = some (hl (A ++ blk b 23 10 TW ZW V00)) := by
  simp only [mk_nA _ 11 (n := 16) (k := 16) (by decide) (by decide), Option.bind_some, bl, List.append_assoc, List.cons_append, List.nil_append, mk_nM, mk_pR, mk_N, List.replicate, List.length_cons, List.length_nil]
  refine congrArg some (congrArg hl (congrArg (A ++ ·) ?_))
  exact (cons2 (Prod.ext rfl (Prod.ext rfl (Prod.ext rfl (funext fun i => by
      match i with
      | 0 => exact congrArg some (by simp only [List.length_append, List.length_cons, List.length_nil, List.length_replicate, hA] <;> omega)
      | 1 => exact congrArg some (by simp only [List.length_append, List.length_cons, List.length_nil, List.length_replicate, hA] <;> omega)
      | 2 => exact congrArg some (by simp only [List.length_append, List.length_cons, List.length_nil, List.length_replicate, hA] <;> omega)
      | 3 => exact congrArg some (by simp only [List.length_append, List.length_cons, List.length_nil, List.length_replicate, hA] <;> omega)
      | 4 => exact congrArg some (by simp only [List.length_append, List.length_cons, List.length_nil, List.length_replicate, hA] <;> omega)
      | 5 => exact congrArg some (by simp only [List.length_append, List.length_cons, List.length_nil, List.length_replicate, hA] <;> omega)
      | 6 => exact congrArg some (by simp only [List.length_append, List.length_cons, List.length_nil, List.length_replicate, hA] <;> omega)
      | i + 7 => rfl)))) (cons2 rfl (cons2 rfl (cons2 (Prod.ext rfl (Prod.ext rfl (Prod.ext rfl (funext fun i => by
      show (if i < 2 then some (_ + i) else none) = (if i < 2 then some (27 + i) else none : Option Nat).map (fun y => b + y)
      by_cases h : i < 2
      · rw [if_pos h, if_pos h]; exact congrArg some (by simp only [List.length_append, List.length_cons, List.length_nil, List.length_replicate, hA] <;> omega)
      · rw [if_neg h, if_neg h]; rfl)))) (cons2 rfl (cons2 rfl (cons2 rfl (cons2 rfl (cons2 rfl (cons2 rfl rfl))))))))))
theorem mk_crow (A : List Cel) (b : Nat) (hA : A.length = b + 23) : F_X0_init (hl (A ++ [((0, 0), fun _ => 0, fun _ => 0, fun _ => none)])) A.length = some (hl (A ++ blk b 23 10 TW ZW (sx V00 24 (fun i => if i < 16 then -1 else 0)))) := by
  have e : F_X0_init (hl (A ++ [((0, 0), fun _ => 0, fun _ => 0, fun _ => none)])) A.length = (bl (hl (A ++ [((0, 0), fun _ => 0, fun _ => 0, fun _ => none)])) (fun h => bl A.length fun a0 =>
(nwA h 11 16).bind fun h1 =>
(pR h1 a0 0 0 (mN h)).bind fun h2 =>
(nwA h2 11 16).bind fun h3 =>
(pR h3 a0 0 1 (mN h2)).bind fun h4 =>
bl (nwM h4 15 11 2 16) fun h5 =>
(pR h5 a0 0 2 (mN h4)).bind fun h6 =>
(nwA h6 11 16).bind fun h7 =>
(pR h7 a0 0 3 (mN h6)).bind fun h8 =>
(nwA h8 11 16).bind fun h9 =>
(pR h9 a0 0 4 (mN h8)).bind fun h10 =>
(nwA h10 11 16).bind fun h11 =>
(pR h11 a0 0 5 (mN h10)).bind fun h12 =>
(nwA h12 11 16).bind fun h13 =>
(pR h13 a0 0 6 (mN h12)))).bind fun h14 => bl A.length fun a0 =>
(gR h14 a0 0 0).bind fun a15 =>
(F_J7_fill_53178 h14 a15 (-1)).bind fun h16 =>
some h16 := by
    unfold F_X0_init
    simp only [Option.bind_assoc, bl]
  rw [e, mk0_crow A b hA, Option.bind_some]
  have hP := lens_of A [] b 23 10 hA TW ZW
  simp only [List.append_nil] at hP
  rw [hA]
  simp only [bl]
  rw [hP.getr (V := V00) (o := 23) (z := 24) (t := 0) (k := 0) (by decide) (by decide) rfl rfl, Option.bind_some, s_fill hP (o := 24) (len := 16) (by decide) (by decide) rfl (by decide), Option.bind_some]
  rfl
set_option maxRecDepth 10000 in
theorem mk0_tree (A : List Cel) (b : Nat) (hA : A.length = b + 1) : bl (hl (A ++ [((6, 0), fun _ => 0, fun _ => 0, fun _ => none)])) (fun h => bl A.length fun a0 =>
(nwA h 11 12).bind fun h1 =>
(pR h1 a0 6 0 (mN h)).bind fun h2 =>
(nwA h2 11 12).bind fun h3 =>
(pR h3 a0 6 1 (mN h2)).bind fun h4 =>
bl (nwM h4 15 11 9 12) fun h5 =>
(pR h5 a0 6 3 (mN h4)).bind fun h6 =>
(nwA h6 11 12).bind fun h7 =>
(pR h7 a0 6 4 (mN h6)).bind fun h8 =>
(nwA h8 11 12).bind fun h9 =>
(pR h9 a0 6 5 (mN h8)).bind fun h10 =>
(nwA h10 11 12).bind fun h11 =>
(pR h11 a0 6 6 (mN h10)).bind fun h12 =>
(nwA h12 11 12).bind fun h13 =>
(pR h13 a0 6 7 (mN h12)).bind fun h14 =>
bl (nwM h14 15 11 4 12) fun h15 =>
(pR h15 a0 6 8 (mN h14))) = some (hl (A ++ blk b 1 22 TW ZW V00)) := by
  simp only [mk_nA _ 11 (n := 12) (k := 12) (by decide) (by decide), Option.bind_some, bl, List.append_assoc, List.cons_append, List.nil_append, mk_nM, mk_pR, mk_N, List.replicate, List.length_cons, List.length_nil]
  refine congrArg some (congrArg hl (congrArg (A ++ ·) ?_))
  exact (cons2 (Prod.ext rfl (Prod.ext rfl (Prod.ext rfl (funext fun i => by
      match i with
      | 0 => exact congrArg some (by simp only [List.length_append, List.length_cons, List.length_nil, List.length_replicate, hA] <;> omega)
      | 1 => exact congrArg some (by simp only [List.length_append, List.length_cons, List.length_nil, List.length_replicate, hA] <;> omega)
      | 2 => rfl
      | 3 => exact congrArg some (by simp only [List.length_append, List.length_cons, List.length_nil, List.length_replicate, hA] <;> omega)
      | 4 => exact congrArg some (by simp only [List.length_append, List.length_cons, List.length_nil, List.length_replicate, hA] <;> omega)
      | 5 => exact congrArg some (by simp only [List.length_append, List.length_cons, List.length_nil, List.length_replicate, hA] <;> omega)
      | 6 => exact congrArg some (by simp only [List.length_append, List.length_cons, List.length_nil, List.length_replicate, hA] <;> omega)
      | 7 => exact congrArg some (by simp only [List.length_append, List.length_cons, List.length_nil, List.length_replicate, hA] <;> omega)
      | 8 => exact congrArg some (by simp only [List.length_append, List.length_cons, List.length_nil, List.length_replicate, hA] <;> omega)
      | i + 9 => rfl)))) (cons2 rfl (cons2 rfl (cons2 (Prod.ext rfl (Prod.ext rfl (Prod.ext rfl (funext fun i => by
      show (if i < 9 then some (_ + i) else none) = (if i < 9 then some (5 + i) else none : Option Nat).map (fun y => b + y)
      by_cases h : i < 9
      · rw [if_pos h, if_pos h]; exact congrArg some (by simp only [List.length_append, List.length_cons, List.length_nil, List.length_replicate, hA] <;> omega)
      · rw [if_neg h, if_neg h]; rfl)))) (cons2 rfl (cons2 rfl (cons2 rfl (cons2 rfl (cons2 rfl (cons2 rfl (cons2 rfl (cons2 rfl (cons2 rfl (cons2 rfl (cons2 rfl (cons2 rfl (cons2 rfl (cons2 (Prod.ext rfl (Prod.ext rfl (Prod.ext rfl (funext fun i => by
      show (if i < 4 then some (_ + i) else none) = (if i < 4 then some (19 + i) else none : Option Nat).map (fun y => b + y)
      by_cases h : i < 4
      · rw [if_pos h, if_pos h]; exact congrArg some (by simp only [List.length_append, List.length_cons, List.length_nil, List.length_replicate, hA] <;> omega)
      · rw [if_neg h, if_neg h]; rfl)))) (cons2 rfl (cons2 rfl (cons2 rfl (cons2 rfl rfl))))))))))))))))))))))
theorem mk_tree (A : List Cel) (b : Nat) (hA : A.length = b + 1) : F_X6_init (hl (A ++ [((6, 0), fun _ => 0, fun _ => 0, fun _ => none)])) A.length = some (hl (A ++ blk b 1 22 TW ZW (putG (sx V00 2 (fun i => if i < 12 then -2 else 0)) 0 0 (-1)))) := by
  have e : F_X6_init (hl (A ++ [((6, 0), fun _ => 0, fun _ => 0, fun _ => none)])) A.length = (bl (hl (A ++ [((6, 0), fun _ => 0, fun _ => 0, fun _ => none)])) (fun h => bl A.length fun a0 =>
(nwA h 11 12).bind fun h1 =>
(pR h1 a0 6 0 (mN h)).bind fun h2 =>
(nwA h2 11 12).bind fun h3 =>
(pR h3 a0 6 1 (mN h2)).bind fun h4 =>
bl (nwM h4 15 11 9 12) fun h5 =>
(pR h5 a0 6 3 (mN h4)).bind fun h6 =>
(nwA h6 11 12).bind fun h7 =>
(pR h7 a0 6 4 (mN h6)).bind fun h8 =>
(nwA h8 11 12).bind fun h9 =>
(pR h9 a0 6 5 (mN h8)).bind fun h10 =>
(nwA h10 11 12).bind fun h11 =>
(pR h11 a0 6 6 (mN h10)).bind fun h12 =>
(nwA h12 11 12).bind fun h13 =>
(pR h13 a0 6 7 (mN h12)).bind fun h14 =>
bl (nwM h14 15 11 4 12) fun h15 =>
(pR h15 a0 6 8 (mN h14)))).bind fun h16 => bl A.length fun a0 =>
(gR h16 a0 6 0).bind fun a17 =>
(F_J7_fill_53178 h16 a17 (-2)).bind fun h18 =>
(cO h18 a0 6 (F_X6_putGroup h18 a0 0 (-1))).bind fun h19 =>
some h19 := by
    unfold F_X6_init
    simp only [Option.bind_assoc, bl]
  rw [e, mk0_tree A b hA, Option.bind_some]
  have hP := lens_of A [] b 1 22 hA TW ZW
  simp only [List.append_nil] at hP
  rw [hA]
  simp only [bl]
  rw [hP.getr (V := V00) (o := 1) (z := 2) (t := 6) (k := 0) (by decide) (by decide) rfl rfl, Option.bind_some, s_fill hP (o := 2) (len := 12) (by decide) (by decide) rfl (by decide), Option.bind_some, hP.co (o := 1) (t := 6) (by decide) (by decide) rfl]
  have h2 := s_putGroup (w := b) (V := sx V00 2 (fun i => if i < 12 then -2 else 0)) (n := 0) hP (by decide) rfl (g := 0) (by decide) (-1)
  have h3 : F_X6_putGroup (hl (A ++ blk b 1 22 TW ZW (sx V00 2 (fun i => if i < 12 then -2 else V00.1 2 i)))) (b + 1) 0 (-1) = some (hl (A ++ blk b 1 22 TW ZW (putG (sx V00 2 (fun i => if i < 12 then -2 else 0)) 0 0 (-1)))) := h2
  rw [h3]
  rfl
theorem blk_app (b lo n m : Nat) (T : Nat → Nat × Nat) (Z : Nat → Nat → Option Nat) (V : WV) : blk b lo n T Z V ++ blk b (lo + n) m T Z V = blk b lo (n + m) T Z V := by
  unfold blk
  rw [List.range_add, List.map_append, List.map_map]
  congr 1
  apply List.map_congr_left
  intro x _
  simp only [Function.comp, Nat.add_assoc]
theorem blk_eq {b lo n : Nat} {T : Nat → Nat × Nat} {Z : Nat → Nat → Option Nat} {V V' : WV} (h : ∀ o, lo ≤ o → o < lo + n → V.1 o = V'.1 o ∧ V.2 o = V'.2 o) : blk b lo n T Z V = blk b lo n T Z V' := by
  unfold blk
  apply List.map_congr_left
  intro x hx
  have hx := List.mem_range.mp hx
  rw [(h (lo + x) (by omega) (by omega)).1, (h (lo + x) (by omega) (by omega)).2]
/-- a World as it is made -/
def W0 : WV := sx (sx (putG (sx V00 2 (fun i => if i < 12 then -2 else 0)) 0 0 (-1)) 24 (fun i => if i < 16 then -1 else 0)) 0 (upd (upd (upd (upd (fun _ => 0) 4 4) 5 0) 6 10) 7 0)
theorem W0_t (o : Nat) (h1 : 1 ≤ o) (h2 : o < 23) : (putG (sx V00 2 (fun i => if i < 12 then -2 else 0)) 0 0 (-1)).1 o = W0.1 o ∧ (putG (sx V00 2 (fun i => if i < 12 then -2 else 0)) 0 0 (-1)).2 o = W0.2 o := by
  unfold W0
  simp only [sx_1, sx_2]
  rw [up_n _ _ (show o ≠ 0 by omega), up_n _ _ (show o ≠ 24 by omega)]
  exact ⟨rfl, trivial⟩
theorem W0_z (o : Nat) (h1 : 23 ≤ o) (h2 : o ≠ 24) : V00.1 o = W0.1 o ∧ V00.2 o = W0.2 o := by
  unfold W0 putG rowU zero4 putG0
  simp only [sx_1, sx_2]
  rw [up_n _ _ (show o ≠ 0 by omega), up_n _ _ (show o ≠ 24 by omega), if_neg (by omega), up_n _ _ (show o ≠ 17 by omega), up_n _ _ (show o ≠ 16 by omega), up_n _ _ (show o ≠ 15 by omega), up_n _ _ (show o ≠ 14 by omega), if_neg (by omega), up_n _ _ (show o ≠ 1 by omega), up_n _ _ (show o ≠ 3 by omega), up_n _ _ (show o ≠ 2 by omega), up_n _ _ (show o ≠ 2 by omega)]
  exact ⟨rfl, trivial⟩
theorem W0_c (o : Nat) (h1 : 23 ≤ o) (h2 : o < 33) : (sx V00 24 (fun i => if i < 16 then -1 else 0)).1 o = W0.1 o ∧ (sx V00 24 (fun i => if i < 16 then -1 else 0)).2 o = W0.2 o := by
  by_cases e : o = 24
  · subst e; exact ⟨rfl, rfl⟩
  · have h := W0_z o h1 e
    rw [← h.1, ← h.2]
    simp only [sx_1, sx_2, up_n _ _ e]
    exact ⟨trivial, trivial⟩
theorem blk_one (b lo : Nat) (T : Nat → Nat × Nat) (Z : Nat → Nat → Option Nat) (V : WV) : blk b lo 1 T Z V = [(T lo, V.1 lo, V.2 lo, fun i => (Z lo i).map (fun x => b + x))] := rfl
theorem W0_blk (b : Nat) : blk b 0 57 TW ZW W0 = ((8, 0), W0.1 0, fun _ => 0, fun i => (ZW 0 i).map (fun x => b + x)) :: (blk b 1 22 TW ZW (putG (sx V00 2 (fun i => if i < 12 then -2 else 0)) 0 0 (-1)) ++ (blk b 23 10 TW ZW (sx V00 24 (fun i => if i < 16 then -1 else 0)) ++ (blk b 33 19 TW ZW V00 ++ blk b 52 5 TW ZW V00))) := by
  rw [blk_eq (fun o h1 h2 => W0_t o h1 h2), blk_eq (V := (sx V00 24 (fun i => if i < 16 then -1 else 0))) (fun o h1 h2 => W0_c o h1 h2), blk_eq (lo := 33) (V := V00) (fun o h1 h2 => W0_z o (by omega) (by omega)), blk_eq (lo := 52) (V := V00) (fun o h1 h2 => W0_z o (by omega) (by omega))]
  rw [blk_app b 33 19 5, blk_app b 23 10 24, blk_app b 1 22 34]
  exact (blk_app b 0 1 56 TW ZW W0).symm
theorem mk_world (A : List Cel) : F_X8_init (hl (A ++ [((8, 0), fun _ => 0, fun _ => 0, fun _ => none)])) A.length = some (hl (A ++ blk A.length 0 57 TW ZW W0)) := by
  unfold F_X8_init
  have E : ∀ (c : Cel) (L : List Cel), A ++ [c] ++ L = A ++ c :: L := fun c L => by simp
  have E2 : ∀ (c : Cel) (L M : List Cel), A ++ c :: L ++ M = A ++ c :: (L ++ M) := fun c L M => by simp
  have t1 := mk_tree (A ++ [((8, 0), fun _ => 0, fun _ => 0, fun _ => none)]) A.length (by simp)
  have t2 : ∀ c : Cel, _ := fun c => mk_crow (A ++ c :: blk A.length 1 22 TW ZW (putG (sx V00 2 (fun i => if i < 12 then -2 else 0)) 0 0 (-1))) A.length (by simp [blk_len])
  have t3 : ∀ c : Cel, _ := fun c => mk_gaug (A ++ c :: (blk A.length 1 22 TW ZW (putG (sx V00 2 (fun i => if i < 12 then -2 else 0)) 0 0 (-1)) ++ blk A.length 23 10 TW ZW (sx V00 24 (fun i => if i < 16 then -1 else 0)))) A.length (by simp [blk_len])
  have t4 : ∀ c : Cel, _ := fun c => mk_trig (A ++ c :: (blk A.length 1 22 TW ZW (putG (sx V00 2 (fun i => if i < 12 then -2 else 0)) 0 0 (-1)) ++ (blk A.length 23 10 TW ZW (sx V00 24 (fun i => if i < 16 then -1 else 0)) ++ blk A.length 33 19 TW ZW V00))) A.length (by simp [blk_len])
  rw [mk_nO, hl_N, bl, t1, Option.bind_some, E, mk_pR (by rfl), Option.bind_some]
  rw [mk_nO, hl_N, bl, t2, Option.bind_some, E2, mk_pR (by rfl), Option.bind_some]
  rw [mk_nO, hl_N, bl, t3, Option.bind_some, E2, List.append_assoc, mk_pR (by rfl), Option.bind_some]
  rw [mk_nO, hl_N, bl, t4, Option.bind_some, E2, List.append_assoc, List.append_assoc, mk_pR (by rfl), Option.bind_some, mk_pI (by rfl), Option.bind_some, mk_pI (by rfl), Option.bind_some, mk_pI (by rfl), Option.bind_some, mk_pI (by rfl), Option.bind_some, W0_blk]
  refine congrArg some (congrArg hl (congrArg (A ++ ·) (cons2 (Prod.ext rfl (Prod.ext rfl (Prod.ext rfl (funext fun i => ?_)))) rfl)))
  match i with
  | 0 => exact congrArg some (by simp)
  | 1 => exact congrArg some (by simp [blk_len])
  | 2 => exact congrArg some (by simp [blk_len])
  | 3 => exact congrArg some (by simp [blk_len])
  | i + 4 => rfl
end MAKE2
