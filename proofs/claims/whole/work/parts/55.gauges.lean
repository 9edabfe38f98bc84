section GAUGES
variable {V : WV} {w : Nat} {P : WV → Hp}
/-- a trigger more -/
def addTr (V : WV) (n : Nat) (g t d : Int32) : WV := sx (sx (sx (sx (sx V 53 (upd (V.1 53) n g)) 54 (upd (V.1 54) n t)) 55 (upd (V.1 55) n d)) 56 (upd (V.1 56) n 0)) 52 (upd (V.1 52) 4 (nI n + 1))
theorem s_addTr (hP : LR w P) {n : Nat} (hn : n < 4) (hs : V.1 52 4 = nI n) (g t d : Int32) : F_X7_add (P V) (w + 52) g t d = some (nI n, P (addTr V n g t d)) := by
  unfold F_X7_add
  have e : ∀ f1 f2 f3 f4 : Nat → Int32, (sx (sx (sx (sx V 53 f1) 54 f2) 55 f3) 56 f4).1 52 4 = nI n := fun _ _ _ _ => hs
  simp only [tr hP, Option.bind_some, hs, hn, e]
  rfl
end GAUGES
