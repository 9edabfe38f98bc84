/-! Labour.doWork: what was got is noted for the groups -/
def gotF (V : WV) (G : Nat → Int32) : WV := sx V 17 (fun g => if g < 12 then V.1 17 g + G g else V.1 17 g)
section WORK
variable {V Q : WV} {w q : Nat} {P : WV → WV → Hp}
theorem c_got (hP : L2 w q P) : loopF (fun x => F_X2_doWork_L27 (q + 8) w x.1 x.2) 6000 (0, P V Q) = some (P (gotF V (Q.1 9)) Q) := by
  obtain ⟨a, ha, hI⟩ := loop_inv (st := fun x => F_X2_doWork_L27 (q + 8) w x.1 x.2) (fun i (a : Nat → Int32) => (nI i, P (sx V 17 a) Q)) (fun a => P (sx V 17 a) Q) (fun i a => a = fun g => if g < i then V.1 17 g + Q.1 9 g else V.1 17 g) 12
    (fun i a hi hI => by
      have ei : a i = V.1 17 i := by rw [hI]; exact if_neg (Nat.lt_irrefl _)
      have e17 : (sx V 17 a).1 17 = a := rfl
      have h28 : i < 28 := by omega
      refine ⟨upd a i (a i + Q.1 9 i), ?_, ?_⟩
      · show F_X2_doWork_L27 (q + 8) w (nI i) (P (sx V 17 a) Q) = _
        unfold F_X2_doWork_L27
        rw [h12I, if_neg (nI_ge hi (by decide))]
        simp only [ol (hP.1 Q).lo, tl (hP.1 Q).lt, ql (hP.2 (sx V 17 a)), hi, h28, Option.bind_some, e17, sx_sx, bl, nI_1]
      · funext g
        by_cases e : g = i
        · rw [e, upd_s, ei, if_pos (Nat.lt_succ_self _)]
        · rw [upd_ne _ _ e, hI]
          show (if g < i then _ else _) = _
          by_cases h : g < i
          · rw [if_pos h, if_pos (by omega)]
          · rw [if_neg h, if_neg (by omega)])
    (fun a hI => by
      show F_X2_doWork_L27 (q + 8) w (nI 12) (P (sx V 17 a) Q) = _
      unfold F_X2_doWork_L27
      rw [h12I, if_pos (nI_le (Nat.le_refl _) (by decide))])
    12 0 6000 (V.1 17) (by omega) (by omega) (by funext g; rw [if_neg (Nat.not_lt_zero _)])
  unfold gotF
  rw [← hI, ← ha]
  show _ = loopF _ 6000 (nI 0, P (sx V 17 (V.1 17)) Q)
  rw [sx_id]; rfl
end WORK
