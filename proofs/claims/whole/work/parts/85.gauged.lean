/-! a tick is noted for all groups -/
def nt3 (W : WV) (S : Nat → Bool) (g : Nat) : WV := notV (notV (notV W g 0 (S 0)) g 1 (S 1)) g 2 (S 2)
def FinG (V : WV) (dn : Nat → Bool) : WV :=
  (fun c => if 39 ≤ c ∧ c < 42 then (fun g => if dn g then V.1 c g + (if STK V (c - 39) g then 1 else 0) else V.1 c g) else if 43 ≤ c ∧ c < 52 then (fun g => if dn g then avN ((c - 43) % 3) (V.1 c g) (STK V ((c - 43) / 3) g) else V.1 c g) else V.1 c,
   fun c => if 35 ≤ c ∧ c < 38 then (fun g => if dn g then shN (V.2 c g) (STK V (c - 35) g) else V.2 c g) else V.2 c)
section GAUGED
variable {V U : WV} {n : Nat} {o : Nat → Nat} {w b : Nat} {P : WV → Hp}
theorem notV_1 (W : WV) (g k : Nat) (s : Bool) (c : Nat) : (notV W g k s).1 c = if c = 39 + k then upd (W.1 c) g (W.1 c g + (if s then 1 else 0)) else if 43 + k * 3 ≤ c ∧ c < 46 + k * 3 then upd (W.1 c) g (avN (c - (43 + k * 3)) (W.1 c g) s) else W.1 c := by
  show (sx (sx (sx (not0 W g k s) (43 + (k * 3 + 0)) _) (43 + (k * 3 + 1)) _) (43 + (k * 3 + 2)) _).1 c = _
  by_cases h0 : c = 39 + k
  · rw [if_pos h0]
    rw [sx_1, up_n _ _ (by omega), sx_1, up_n _ _ (by omega), sx_1, up_n _ _ (by omega)]
    subst h0
    exact up_s _ _ _
  · rw [if_neg h0]
    by_cases h1 : 43 + k * 3 ≤ c ∧ c < 46 + k * 3
    · rw [if_pos h1]
      have h3 : c = 43 + (k * 3 + 0) ∨ c = 43 + (k * 3 + 1) ∨ c = 43 + (k * 3 + 2) := by omega
      rcases h3 with e | e | e
      · rw [sx_1, up_n _ _ (by omega), sx_1, up_n _ _ (by omega), sx_1, e, up_s, show 43 + (k * 3 + 0) - (43 + k * 3) = 0 from by omega]
      · rw [sx_1, up_n _ _ (by omega), sx_1, e, up_s, show 43 + (k * 3 + 1) - (43 + k * 3) = 1 from by omega]
      · rw [sx_1, e, up_s, show 43 + (k * 3 + 2) - (43 + k * 3) = 2 from by omega]
    · rw [if_neg h1, sx_1, up_n _ _ (by omega), sx_1, up_n _ _ (by omega), sx_1, up_n _ _ (by omega)]
      exact up_n _ _ h0
theorem notV_2 (W : WV) (g k : Nat) (s : Bool) (c : Nat) : (notV W g k s).2 c = if c = 35 + k then vp_updL (W.2 c) g (shN (W.2 c g) s) else W.2 c := by
  show va_up W.2 (35 + k) _ c = _
  by_cases h : c = 35 + k
  · rw [if_pos h]
    subst h
    exact up_s _ _ _
  · rw [if_neg h]; exact up_n _ _ h
theorem nt3_1 (W : WV) (S : Nat → Bool) (g c : Nat) : (nt3 W S g).1 c = if 39 ≤ c ∧ c < 42 then upd (W.1 c) g (W.1 c g + (if S (c - 39) then 1 else 0)) else if 43 ≤ c ∧ c < 52 then upd (W.1 c) g (avN ((c - 43) % 3) (W.1 c g) (S ((c - 43) / 3))) else W.1 c := by
  unfold nt3
  have a0 := notV_1 W g 0 (S 0) c
  have a1 := notV_1 (notV W g 0 (S 0)) g 1 (S 1) c
  have a2 := notV_1 (notV (notV W g 0 (S 0)) g 1 (S 1)) g 2 (S 2) c
  rw [a2]
  by_cases h39 : 39 ≤ c ∧ c < 42
  · rw [if_pos h39]
    have h3 : c = 39 ∨ c = 40 ∨ c = 41 := by omega
    rcases h3 with e | e | e <;> subst e
    · simp only [a1, a0]; simp
    · simp only [a1, a0]; simp
    · simp only [a1, a0]; simp
  · rw [if_neg h39, if_neg (by omega)]
    by_cases h43 : 43 ≤ c ∧ c < 52
    · rw [if_pos h43]
      have h3 : (43 ≤ c ∧ c < 46) ∨ (46 ≤ c ∧ c < 49) ∨ (49 ≤ c ∧ c < 52) := by omega
      rcases h3 with e | e | e
      · rw [if_neg (by omega), a1, if_neg (by omega), if_neg (by omega), a0, if_neg (by omega), if_pos (by omega), show (c - 43) / 3 = 0 from by omega, show (c - 43) % 3 = c - (43 + 0 * 3) from by omega]
      · rw [if_neg (by omega), a1, if_neg (by omega), if_pos (by omega), a0, if_neg (by omega), if_neg (by omega), show c - (43 + 1 * 3) = (c - 43) % 3 from by omega, show (c - 43) / 3 = 1 from by omega]
      · rw [if_pos (by omega), a1, if_neg (by omega), if_neg (by omega), a0, if_neg (by omega), if_neg (by omega), show c - (43 + 2 * 3) = (c - 43) % 3 from by omega, show (c - 43) / 3 = 2 from by omega]
    · rw [if_neg h43, if_neg (by omega), a1, if_neg (by omega), if_neg (by omega), a0, if_neg (by omega), if_neg (by omega)]
theorem nt3_2 (W : WV) (S : Nat → Bool) (g c : Nat) : (nt3 W S g).2 c = if 35 ≤ c ∧ c < 38 then vp_updL (W.2 c) g (shN (W.2 c g) (S (c - 35))) else W.2 c := by
  unfold nt3
  have a0 := notV_2 W g 0 (S 0) c
  have a1 := notV_2 (notV W g 0 (S 0)) g 1 (S 1) c
  have a2 := notV_2 (notV (notV W g 0 (S 0)) g 1 (S 1)) g 2 (S 2) c
  rw [a2]
  by_cases h35 : 35 ≤ c ∧ c < 38
  · rw [if_pos h35]
    have h3 : c = 35 ∨ c = 36 ∨ c = 37 := by omega
    rcases h3 with e | e | e <;> subst e
    · simp only [a1, a0]; simp
    · simp only [a1, a0]; simp
    · simp only [a1, a0]; simp
  · rw [if_neg h35, if_neg (by omega), a1, if_neg (by omega), a0, if_neg (by omega)]
theorem fin_step (dn : Nat → Bool) {g : Nat} (hg : dn g = false) : nt3 (FinG V dn) (fun k => STK V k g) g = FinG V (fun x => dn x || decide (x = g)) := by
  apply Prod.ext
  · funext c
    rw [nt3_1]
    show _ = if 39 ≤ c ∧ c < 42 then _ else if 43 ≤ c ∧ c < 52 then _ else V.1 c
    have hF : (FinG V dn).1 c = if 39 ≤ c ∧ c < 42 then (fun g => if dn g then V.1 c g + (if STK V (c - 39) g then 1 else 0) else V.1 c g) else if 43 ≤ c ∧ c < 52 then (fun g => if dn g then avN ((c - 43) % 3) (V.1 c g) (STK V ((c - 43) / 3) g) else V.1 c g) else V.1 c := rfl
    rw [hF]
    by_cases h1 : 39 ≤ c ∧ c < 42
    · simp only [if_pos h1]
      funext x
      by_cases e : x = g
      · subst e; rw [upd_s]; simp [hg]
      · rw [upd_ne _ _ e]; simp [e]
    · simp only [if_neg h1]
      by_cases h2 : 43 ≤ c ∧ c < 52
      · simp only [if_pos h2]
        funext x
        by_cases e : x = g
        · subst e; rw [upd_s]; simp [hg]
        · rw [upd_ne _ _ e]; simp [e]
      · simp only [if_neg h2]
  · funext c
    rw [nt3_2]
    show _ = if 35 ≤ c ∧ c < 38 then _ else V.2 c
    have hF : (FinG V dn).2 c = if 35 ≤ c ∧ c < 38 then (fun g => if dn g then shN (V.2 c g) (STK V (c - 35) g) else V.2 c g) else V.2 c := rfl
    rw [hF]
    by_cases h1 : 35 ≤ c ∧ c < 38
    · simp only [if_pos h1]
      funext x
      by_cases e : x = g
      · subst e; rw [updL_s]; simp [hg]
      · rw [updL_n _ _ e]; simp [e]
    · simp only [if_neg h1]
theorem fin_0 : FinG V (fun _ => false) = V := by
  apply Prod.ext
  · funext c
    show (if 39 ≤ c ∧ c < 42 then _ else if 43 ≤ c ∧ c < 52 then _ else V.1 c) = V.1 c
    by_cases h1 : 39 ≤ c ∧ c < 42
    · rw [if_pos h1]; rfl
    · rw [if_neg h1]
      by_cases h2 : 43 ≤ c ∧ c < 52
      · rw [if_pos h2]; rfl
      · rw [if_neg h2]
  · funext c
    show (if 35 ≤ c ∧ c < 38 then _ else V.2 c) = V.2 c
    by_cases h1 : 35 ≤ c ∧ c < 38
    · rw [if_pos h1]; rfl
    · rw [if_neg h1]
theorem fin_cong {d e : Nat → Bool} (h : ∀ g, d g = e g) : FinG V d = FinG V e := by
  have : d = e := funext h
  rw [this]
theorem fin_c (dn : Nat → Bool) {c : Nat} (h : c < 39 ∨ 52 ≤ c) : (FinG V dn).1 c = V.1 c := by
  show (if 39 ≤ c ∧ c < 42 then _ else if 43 ≤ c ∧ c < 52 then _ else V.1 c) = V.1 c
  rw [if_neg (by omega), if_neg (by omega)]
theorem s_noteL (hP : LW w P) (hO : OrdOK V n o) : loopF (fun x => F_X8_noteStalls_L110 w (mkB 12 (sSome V 16)) (mkB 12 (sAwk V 16)) (mkB 12 (sWai V 16)) x.1 x.2) 6000 (0, P V) = some (P (FinG V (fun g => decide (g < 12) && thV V g))) := by
  obtain ⟨h1, h2, h3, h4, h5, h6, h7, h8, h9⟩ := id hO
  obtain ⟨rk, hk1, hk2⟩ := hO.rk
  obtain ⟨a, ha, hI⟩ := loop_inv (st := fun x => F_X8_noteStalls_L110 w (mkB 12 (sSome V 16)) (mkB 12 (sAwk V 16)) (mkB 12 (sWai V 16)) x.1 x.2) (fun i (a : WV) => (nI i, P a)) (fun a => P a) (fun i a => a = FinG V (fun g => decide (g < 12) && thV V g && decide (rk g < i))) n
    (fun i a hi hI => by
      have hi12 : i < 12 := by omega
      obtain ⟨ho12, ho3⟩ := h5 i hi
      subst hI
      obtain ⟨W, hW⟩ : ∃ W, W = FinG V (fun g => decide (g < 12) && thV V g && decide (rk g < i)) := ⟨_, rfl⟩
      have e12 : W.1 1 = V.1 1 := by rw [hW]; exact fin_c _ (by decide)
      have e3 : W.1 3 = V.1 3 := by rw [hW]; exact fin_c _ (by decide)
      rw [← hW]
      refine ⟨nt3 W (fun k => STK V k (o i)) (o i), ?_, ?_⟩
      · show F_X8_noteStalls_L110 w _ _ _ (nI i) (P W) = _
        unfold F_X8_noteStalls_L110
        have b0 : bt (mkB 12 (sSome V 16)) (o i) = sSome V 16 (o i) := by rw [bt_mkB (by decide) (by omega)]; simp [ho12]
        have b1 : bt (mkB 12 (sSome V 16) &&& (mkB 12 (sAwk V 16) ^^^ (-1))) (o i) = (sSome V 16 (o i) && !sAwk V 16 (o i)) := by
          rw [b_and, b_xor, b_m1 _ (by omega), bt_mkB (by decide) (by omega), bt_mkB (by decide) (by omega)]; simp [ho12]
        have b2 : bt (mkB 12 (sWai V 16)) (o i) = sWai V 16 (o i) := by rw [bt_mkB (by decide) (by omega)]; simp [ho12]
        have bit : ∀ (x : Int32) (u : Bool), bt x (o i) = u → (if ((x >>> (nI (o i) &&& 31)) &&& 1) = 1 then some (1 : Int32) else some 0) = some (if u then 1 else 0) := fun x u hu => by
          cases u
          · rw [if_neg (fun q => by rw [bit_iff (by omega), hu] at q; cases q)]; rfl
          · rw [if_pos ((bit_iff (by omega)).mpr hu)]; rfl
        have c0 : bt (mkB 12 (sSome V 16)) (o i) = STK V 0 (o i) := b0
        have c1 : bt (mkB 12 (sSome V 16) &&& (mkB 12 (sAwk V 16) ^^^ (-1))) (o i) = STK V 1 (o i) := b1
        have c2 : bt (mkB 12 (sWai V 16)) (o i) = STK V 2 (o i) := b2
        have n0 : F_X1_note (P W) (w + 33) (nI (o i)) 0 (if STK V 0 (o i) then 1 else 0) = some (P (notV W (o i) 0 (STK V 0 (o i)))) := s_note (k := 0) hP.lg ho12 (by decide) _
        have n1 : ∀ W', F_X1_note (P W') (w + 33) (nI (o i)) 1 (if STK V 1 (o i) then 1 else 0) = some (P (notV W' (o i) 1 (STK V 1 (o i)))) := fun W' => s_note (k := 1) hP.lg ho12 (by decide) _
        have n2 : ∀ W', F_X1_note (P W') (w + 33) (nI (o i)) 2 (if STK V 2 (o i) then 1 else 0) = some (P (notV W' (o i) 2 (STK V 2 (o i)))) := fun W' => s_note (k := 2) hP.lg ho12 (by decide) _
        simp only [ol hP.lo, tl hP.lt, ga hP.lg, e12, h3, Option.bind_some, if_neg (nI_ge hi (by omega)), hi12, e3, ho3, bit _ _ c0, bit _ _ c1, bit _ _ c2, n0, n1, n2, bl, nI_1]
        rfl
      · rw [hW, fin_step _ (by simp [hk1 i hi])]
        refine fin_cong fun g => ?_
        by_cases e : g = o i
        · subst e; simp [ho12, hO.th hi, hk1 i hi]
        · by_cases hg : g < 12
          · cases htg : thV V g
            · simp [htg, e]
            · have hr := (hk2 g hg htg).2
              have : rk g ≠ i := fun q => e (by rw [← q]; exact hr.symm)
              have h2 : rk g < i + 1 ↔ rk g < i := by omega
              simp [e, h2]
          · simp [hg, e])
    (fun a hI => by
      show F_X8_noteStalls_L110 w _ _ _ (nI n) (P a) = _
      unfold F_X8_noteStalls_L110
      have e12 : a.1 1 = V.1 1 := by rw [hI]; exact fin_c _ (by decide)
      simp only [ol hP.lo, tl hP.lt, e12, h3, Option.bind_some]
      rw [if_pos (nI_le (Nat.le_refl _) (by omega))])
    n 0 6000 V (by omega) (by omega) (by
      have : FinG V (fun g => decide (g < 12) && thV V g && decide (rk g < 0)) = FinG V (fun _ => false) := fin_cong fun g => by simp
      rw [this, fin_0])
  have ha' : loopF (fun x => F_X8_noteStalls_L110 w (mkB 12 (sSome V 16)) (mkB 12 (sAwk V 16)) (mkB 12 (sWai V 16)) x.1 x.2) 6000 (0, P V) = some (P a) := ha
  rw [ha', hI]
  congr 2
  refine fin_cong fun g => ?_
  by_cases hg : g < 12
  · cases htg : thV V g
    · simp
    · simp [(hk2 g hg htg).1]
  · simp [hg]
end GAUGED
