section MAKE2
theorem cons2 {α : Type} {a a2 : α} {l l2 : List α} (h : a = a2) (h2 : l = l2) : a :: l = a2 :: l2 := by subst h; subst h2; rfl
set_option maxRecDepth 10000 in
theorem mk_trig (A : List Cel) (b : Nat) (hA : A.length = b + 52) : F_X7_init (hl (A ++ [((7, 0), fun _ => 0, fun _ => 0, fun _ => none)])) A.length = some (hl (A ++ blk b 52 5 TW ZW (fun _ _ => 0, fun _ _ => 0))) := by
  unfold F_X7_init
  simp only [mk_nA _ 11 (n := 4) (k := 4) (by decide) (by decide), Option.bind_some, bl, List.append_assoc, List.cons_append, List.nil_append, mk_nM, mk_pR, mk_N, List.replicate, List.length_cons, List.length_nil]
  refine congrArg some (congrArg hl (congrArg (A ++ ·) ?_))
  exact (cons2 (Prod.ext rfl (Prod.ext rfl (Prod.ext rfl (funext fun i => by
      match i with
      | 0 => exact congrArg some (by simp only [List.length_append, List.length_cons, List.length_nil, List.length_replicate, hA] <;> omega)
      | 1 => exact congrArg some (by simp only [List.length_append, List.length_cons, List.length_nil, List.length_replicate, hA] <;> omega)
      | 2 => exact congrArg some (by simp only [List.length_append, List.length_cons, List.length_nil, List.length_replicate, hA] <;> omega)
      | 3 => exact congrArg some (by simp only [List.length_append, List.length_cons, List.length_nil, List.length_replicate, hA] <;> omega)
      | 4 => rfl
      | i + 5 => rfl)))) (cons2 rfl (cons2 rfl (cons2 rfl (cons2 rfl rfl)))))
set_option maxRecDepth 10000 in
theorem mk_gaug (A : List Cel) (b : Nat) (hA : A.length = b + 33) : F_X1_init (hl (A ++ [((1, 0), fun _ => 0, fun _ => 0, fun _ => none)])) A.length = some (hl (A ++ blk b 33 19 TW ZW (fun _ _ => 0, fun _ _ => 0))) := by
  unfold F_X1_init
  simp only [Option.bind_some, bl, List.append_assoc, List.cons_append, List.nil_append, mk_nM, mk_pR, mk_N, List.replicate, List.length_cons, List.length_nil]
  refine congrArg some (congrArg hl (congrArg (A ++ ·) ?_))
  exact (cons2 (Prod.ext rfl (Prod.ext rfl (Prod.ext rfl (funext fun i => by
      match i with
      | 0 => exact congrArg some (by simp only [List.length_append, List.length_cons, List.length_nil, List.length_replicate, hA] <;> omega)
      | 1 => exact congrArg some (by simp only [List.length_append, List.length_cons, List.length_nil, List.length_replicate, hA] <;> omega)
      | 2 => exact congrArg some (by simp only [List.length_append, List.length_cons, List.length_nil, List.length_replicate, hA] <;> omega)
      | i + 3 => rfl)))) (cons2 (Prod.ext rfl (Prod.ext rfl (Prod.ext rfl (funext fun i => by
      show (if i < 3 then some (_ + i) else none) = (if i < 3 then some (35 + i) else none : Option Nat).map (fun y => b + y)
      by_cases h : i < 3
      · rw [if_pos h, if_pos h]; exact congrArg some (by simp only [List.length_append, List.length_cons, List.length_nil, List.length_replicate, hA] <;> omega)
      · rw [if_neg h, if_neg h]; rfl)))) (cons2 rfl (cons2 rfl (cons2 rfl (cons2 (Prod.ext rfl (Prod.ext rfl (Prod.ext rfl (funext fun i => by
      show (if i < 3 then some (_ + i) else none) = (if i < 3 then some (39 + i) else none : Option Nat).map (fun y => b + y)
      by_cases h : i < 3
      · rw [if_pos h, if_pos h]; exact congrArg some (by simp only [List.length_append, List.length_cons, List.length_nil, List.length_replicate, hA] <;> omega)
      · rw [if_neg h, if_neg h]; rfl)))) (cons2 rfl (cons2 rfl (cons2 rfl (cons2 (Prod.ext rfl (Prod.ext rfl (Prod.ext rfl (funext fun i => by
      show (if i < 9 then some (_ + i) else none) = (if i < 9 then some (43 + i) else none : Option Nat).map (fun y => b + y)
      by_cases h : i < 9
      · rw [if_pos h, if_pos h]; exact congrArg some (by simp only [List.length_append, List.length_cons, List.length_nil, List.length_replicate, hA] <;> omega)
      · rw [if_neg h, if_neg h]; rfl)))) (cons2 rfl (cons2 rfl (cons2 rfl (cons2 rfl (cons2 rfl (cons2 rfl (cons2 rfl (cons2 rfl (cons2 rfl rfl)))))))))))))))))))
end MAKE2
