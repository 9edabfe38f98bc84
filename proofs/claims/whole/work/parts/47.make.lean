/-! making: cells come at the end of the list -/
section MAKE
variable {A L M : List Cel} {c : Cel}
theorem mk_N (A L : List Cel) : mN (hl (A ++ L)) = A.length + L.length := by simp [hl_N]
theorem mk_at : (A ++ c :: L)[A.length]? = some c := by simp
theorem mk_set (c' : Cel) : (A ++ c :: L).set A.length c' = A ++ c' :: L := by simp
theorem mk_ok {t : Nat} : okT (hl (A ++ c :: L)) A.length t = decide (c.1.1 = t) := by
  unfold okT
  rw [hl_T mk_at, hl_N]
  simp
theorem mk_pR {t k x : Nat} (h : c.1.1 = t) : pR (hl (A ++ c :: L)) A.length t k x = some (hl (A ++ (c.1, c.2.1, c.2.2.1, va_up c.2.2.2 k (some x)) :: L)) := by
  unfold pR
  rw [mk_ok, decide_eq_true h, if_pos rfl, hl_sZ mk_at, mk_set, hl_Z mk_at]
theorem mk_gR {t k x : Nat} (h : c.1.1 = t) (hx : c.2.2.2 k = some x) : gR (hl (A ++ c :: L)) A.length t k = some x := by
  unfold gR
  rw [mk_ok, decide_eq_true h, if_pos rfl, hl_Z mk_at, hx]
theorem mk_pI {t k : Nat} {x : Int32} (h : c.1.1 = t) : pI (hl (A ++ c :: L)) A.length t k x = some (hl (A ++ (c.1, upd c.2.1 k x, c.2.2.1, c.2.2.2) :: L)) := by
  unfold pI
  rw [mk_ok, decide_eq_true h, if_pos rfl, hl_sX mk_at, mk_set, hl_X mk_at]
theorem mk_nO (L : List Cel) (t : Nat) : nwO (hl L) t = hl (L ++ [((t, 0), fun _ => 0, fun _ => 0, fun _ => none)]) := hl_al _ _ _
theorem mk_nA (L : List Cel) (t : Nat) {n : Int32} {k : Nat} (h0 : ¬ (n < 0 ∨ 100000 < n)) (hk : n.toNatClampNeg = k) : nwA (hl L) t n = some (hl (L ++ [((t, k), fun _ => 0, fun _ => 0, fun _ => none)])) := by
  unfold nwA
  rw [if_neg h0, hl_al, hk]
theorem mk_rows (t k : Nat) : ∀ (n : Nat) (L : List Cel), nwRows (hl L) t k n = hl (L ++ List.replicate n ((t, k), fun _ => 0, fun _ => 0, fun _ => none))
  | 0, L => by simp [nwRows]
  | n + 1, L => by
    show mal (nwRows (hl L) t k n) (t, k) (fun _ => none) = _
    rw [mk_rows t k n L, hl_al, List.append_assoc]
    congr 2
    rw [← List.replicate_succ']
theorem mk_nM (L : List Cel) (t t1 n k : Nat) : nwM (hl L) t t1 n k = hl (L ++ (((t, n), fun _ => 0, fun _ => 0, fun i => if i < n then some (L.length + 1 + i) else none) :: List.replicate n ((t1, k), fun _ => 0, fun _ => 0, fun _ => none))) := by
  unfold nwM
  rw [hl_al, mk_rows, List.append_assoc]
  rfl
def cA (t n : Nat) : Cel := ((t, n), fun _ => 0, fun _ => 0, fun _ => none)
def cM (t n x : Nat) : Cel := ((t, n), fun _ => 0, fun _ => 0, fun i => if i < n then some (x + i) else none)
theorem mk_Trig (A : List Cel) : ∃ z, F_X7_init (hl (A ++ [cA 7 0])) A.length = some (hl (A ++ [((7, 0), fun _ => 0, fun _ => 0, z), cA 11 4, cA 11 4, cA 11 4, cA 11 4])) ∧ z 0 = some (A.length + 1) ∧ z 1 = some (A.length + 2) ∧ z 2 = some (A.length + 3) ∧ z 3 = some (A.length + 4) ∧ ∀ k, 4 ≤ k → z k = none := by
  unfold F_X7_init
  simp only [mk_nA _ 11 (n := 4) (k := 4) (by decide) (by decide), Option.bind_some, List.append_assoc, List.cons_append, List.nil_append, cA, mk_pR, mk_N, List.length_cons, List.length_nil]
  refine ⟨_, rfl, rfl, rfl, rfl, rfl, fun k hk => ?_⟩
  rcases k with _ | _ | _ | _ | k
  all_goals first | omega | rfl
end MAKE
