section MAKE5
def noI : Nat → Option Nat := fun _ => none
/-- the class's cells as they are made -/
def Gc : WV := (fun c => if 1 ≤ c ∧ c < 115 then W0.1 ((c - 1) % 57) else if 117 ≤ c ∧ c < 744 then W0.1 ((c - 117) % 57) else fun _ => 0, fun _ _ => 0)
theorem gc_w {w o : Nat} (h : w = 1 ∨ w = 58 ∨ ∃ j, j < 11 ∧ w = 117 + 57 * j) (ho : o < 57) : Gc.1 (w + o) = W0.1 o ∧ Gc.2 (w + o) = W0.2 o := by
  refine ⟨?_, rfl⟩
  unfold Gc
  dsimp only
  rcases h with rfl | rfl | ⟨j, hj, rfl⟩
  · rw [if_pos (by omega), show (1 + o - 1) % 57 = o by omega]
  · rw [if_pos (by omega), show (58 + o - 1) % 57 = o by omega]
  · rw [if_neg (by omega), if_pos (by omega), show (117 + 57 * j + o - 117) % 57 = o by omega]
theorem gc_0 {c : Nat} (h : c = 0 ∨ c = 115 ∨ c = 116 ∨ 744 ≤ c) : Gc.1 c = fun _ => 0 := by
  unfold Gc
  dsimp only
  rw [if_neg (by omega), if_neg (by omega)]
theorem blk_sh {w n : Nat} {T T' : Nat → Nat × Nat} {Z Z' : Nat → Nat → Option Nat} {G V : WV} (hT : ∀ o, o < n → T (w + o) = T' o) (hZ : ∀ o, o < n → ∀ i, Z (w + o) i = (Z' o i).map (fun x => w + x)) (hV : ∀ o, o < n → G.1 (w + o) = V.1 o ∧ G.2 (w + o) = V.2 o) : blk 0 w n T Z G = blk w 0 n T' Z' V := by
  unfold blk
  apply List.map_congr_left
  intro x hx
  have hx := List.mem_range.mp hx
  rw [Nat.zero_add, hT x hx, (hV x hx).1, (hV x hx).2]
  have : (fun i => (Z (w + x) i).map (fun y => 0 + y)) = (fun i => (Z' x i).map (fun y => w + y)) := by
    funext i
    rw [hZ x hx i]
    cases Z' x i with
    | none => rfl
    | some y => show some (0 + (w + y)) = some (w + y); rw [Nat.zero_add]
  rw [this]
theorem gc_W {w : Nat} (h : w = 1 ∨ w = 58 ∨ ∃ j, j < 11 ∧ w = 117 + 57 * j) : blk 0 w 57 TG (ZG noI) Gc = blk w 0 57 TW ZW W0 := by
  have hw : isW 775 w := by
    rcases h with h | h | h
    · exact Or.inl h
    · exact Or.inr (Or.inl h)
    · exact Or.inr (Or.inr (Or.inl h))
  exact blk_sh (fun o ho => TG_w hw ho) (fun o ho i => ZG_w hw ho i) (fun o ho => gc_w h ho)
theorem gc_Wl : ∀ i, i ≤ 11 → blk 0 117 (57 * i) TG (ZG noI) Gc = Wl 117 i
  | 0, _ => rfl
  | i + 1, hi => by
    show _ = Wl 117 i ++ blk (117 + 57 * i) 0 57 TW ZW W0
    rw [← gc_Wl i (by omega), ← gc_W (w := 117 + 57 * i) (Or.inr (Or.inr ⟨i, by omega, rfl⟩)), blk_app, Nat.mul_succ]
theorem blk_cons {b lo n : Nat} {T : Nat → Nat × Nat} {Z : Nat → Nat → Option Nat} {V : WV} : blk b lo (n + 1) T Z V = (T lo, V.1 lo, V.2 lo, fun i => (Z lo i).map (fun x => b + x)) :: blk b (lo + 1) n T Z V := by
  rw [Nat.add_comm n 1, ← blk_app b lo 1 n, blk_one]; rfl
theorem gc_115 : blk 0 115 2 TG (ZG noI) Gc ++ Wl 117 11 = pL 115 11 := by
  rw [blk_cons, blk_cons]
  unfold pL
  refine cons2 (Prod.ext rfl (Prod.ext (gc_0 (c := 115) (by omega)) (Prod.ext rfl (funext fun i => ?_)))) (cons2 (Prod.ext rfl (Prod.ext (gc_0 (c := 116) (by omega)) (Prod.ext rfl (funext fun i => ?_)))) rfl)
  · match i with
    | 0 => rfl
    | 1 => rfl
    | 2 => rfl
    | i + 3 => rfl
  · show (if i < 11 then some (117 + 57 * i) else none : Option Nat).map (fun x => 0 + x) = zr (115 + 2) 11 i
    unfold zr
    by_cases h : i < 11
    · rw [if_pos h]
      show some (0 + (117 + 57 * i)) = _
      rw [Nat.zero_add]
    · rw [if_neg h]; rfl
theorem gc_744 : blk 0 744 1 TG (ZG noI) Gc = [nC 14 2] := by
  rw [blk_one]
  exact cons2 (Prod.ext rfl (Prod.ext (gc_0 (c := 744) (by omega)) (Prod.ext rfl (funext fun i => rfl)))) rfl
theorem gc_745 : blk 0 745 11 TG (ZG noI) Gc = blk 745 0 11 TQ ZQ V00 := by
  refine blk_sh (fun o ho => ?_) (fun o ho i => ?_) (fun o ho => ⟨gc_0 (by omega), rfl⟩)
  · unfold TG
    rw [if_neg (by omega), if_neg (by omega), if_neg (by omega), if_neg (by omega), if_neg (by omega), if_neg (by omega), if_neg (by omega), if_pos (by omega), Nat.add_sub_cancel_left]
  · unfold ZG
    rw [if_neg (by omega), if_neg (by omega), if_neg (by omega), if_neg (by omega), if_neg (by omega), if_neg (by omega), if_neg (by omega), if_pos (by omega), Nat.add_sub_cancel_left]
theorem gc_Q : blk 745 0 11 TQ ZQ V00 = rL 745 ++ (mL 745 ++ lL 753) := by
  show blk 745 0 (10 + 1) TQ ZQ V00 = _
  rw [blk_cons, blk_cons, blk_cons, blk_cons, blk_cons, blk_cons, blk_cons, blk_cons, blk_cons, blk_cons, blk_cons]
  unfold rL mL lL
  refine cons2 (Prod.ext rfl (Prod.ext rfl (Prod.ext rfl (funext fun i => ?_)))) (cons2 rfl (cons2 rfl (cons2 rfl (cons2 rfl (cons2 rfl (cons2 rfl (cons2 (Prod.ext rfl (Prod.ext rfl (Prod.ext rfl (funext fun i => ?_)))) (cons2 (Prod.ext rfl (Prod.ext rfl (Prod.ext rfl (funext fun i => ?_)))) rfl))))))))
  · match i with
    | 0 => rfl
    | 1 => rfl
    | 2 => rfl
    | 3 => rfl
    | 4 => rfl
    | 5 => rfl
    | i + 6 => rfl
  · match i with
    | 0 => rfl
    | i + 1 => rfl
  · match i with
    | 0 => rfl
    | 1 => rfl
    | i + 2 => rfl
theorem gc_9 : blk 0 0 1 TG (ZG noI) Gc = [c9 z9] := by
  rw [blk_one]
  refine cons2 (Prod.ext rfl (Prod.ext (gc_0 (c := 0) (by omega)) (Prod.ext rfl (funext fun i => ?_)))) rfl
  match i with
  | 0 => rfl
  | 1 => rfl
  | 2 => rfl
  | 3 => rfl
  | 4 => rfl
  | 5 => rfl
  | 6 => rfl
  | i + 7 => rfl
theorem mk_list : c9 z9 :: L7 = blk 0 0 756 TG (ZG noI) Gc := by
  have a1 : blk 0 0 1 TG (ZG noI) Gc ++ blk 0 1 755 TG (ZG noI) Gc = blk 0 0 756 TG (ZG noI) Gc := blk_app 0 0 1 755 _ _ _
  have a2 : blk 0 1 57 TG (ZG noI) Gc ++ blk 0 58 698 TG (ZG noI) Gc = blk 0 1 755 TG (ZG noI) Gc := blk_app 0 1 57 698 _ _ _
  have a3 : blk 0 58 57 TG (ZG noI) Gc ++ blk 0 115 641 TG (ZG noI) Gc = blk 0 58 698 TG (ZG noI) Gc := blk_app 0 58 57 641 _ _ _
  have a4 : blk 0 115 2 TG (ZG noI) Gc ++ blk 0 117 639 TG (ZG noI) Gc = blk 0 115 641 TG (ZG noI) Gc := blk_app 0 115 2 639 _ _ _
  have a5 : blk 0 117 (57 * 11) TG (ZG noI) Gc ++ blk 0 744 12 TG (ZG noI) Gc = blk 0 117 639 TG (ZG noI) Gc := blk_app 0 117 627 12 _ _ _
  have a6 : blk 0 744 1 TG (ZG noI) Gc ++ blk 0 745 11 TG (ZG noI) Gc = blk 0 744 12 TG (ZG noI) Gc := blk_app 0 744 1 11 _ _ _
  rw [← a1, ← a2, ← a3, ← a4, ← a5, ← a6, gc_9, gc_W (w := 1) (Or.inl rfl), gc_W (w := 58) (Or.inr (Or.inl rfl)), gc_Wl 11 (Nat.le_refl _), gc_744, gc_745, gc_Q, ← List.append_assoc (blk 0 115 2 TG (ZG noI) Gc), gc_115]
  unfold L7 L6 L5 L4 L3 L2' L1
  simp only [List.append_assoc]
  rfl
theorem mk_class' : ∃ h2, F_X9_init (nwO hE 9) (mN hE) = some h2 ∧ h2 = hl (blk 0 0 756 TG (ZG noI) Gc) := by
  refine ⟨_, ?_, rfl⟩
  rw [← mk_list, ← hl_nil, mk_nO]
  exact mk_class
end MAKE5
