/-! a tick, but for its work: what is noted, what fades, what fires; the class and the model -/
/-- what is there is noted -/
def notA (V : WV) : WV := FinG V (fun g => decide (g < 12) && thV V g)
/-- one tick, after the work -/
def tikV (V : WV) (s : Nat) : WV := sx (fadeF (fireF (notA V) s (soB V 0))) 0 (upd (V.1 0) 7 (V.1 0 7 + 1))
section TICK
variable {V U : WV} {n : Nat} {o : Nat → Nat} {w b s : Nat} {P : WV → Hp}
theorem fire_cong {u v : Nat → Bool} (h : ∀ i, i < s → u i = v i) : fireF V s u = fireF V s v := by
  unfold fireF
  congr 1
  funext i
  by_cases hi : i < s
  · rw [h i hi]
  · simp [hi]
theorem trgN_notA (hT : TrgN V s) : TrgN (notA V) s := by
  have c : ∀ c, (c < 39 ∨ 52 ≤ c) → (notA V).1 c = V.1 c := fun c hc => fin_c _ hc
  have e2 : thV (notA V) = thV V := thV_same (c 2 (by decide))
  unfold TrgN trg tww at hT ⊢
  rw [c 52 (by decide), c 53 (by decide), c 54 (by decide), e2]
  exact hT
theorem so_ahead (hT : TrgN V s) {i : Nat} (hi : i < s) : soB (notA V) 1 i = soB V 0 i := by
  obtain ⟨-, -, t3⟩ := hT
  obtain ⟨⟨g1, g2, g3⟩, g4, g5, g6⟩ := t3 i hi
  have c : ∀ c, (c < 39 ∨ 52 ≤ c) → (notA V).1 c = V.1 c := fun c hc => fin_c _ hc
  have e1 : trg (notA V) i = trg V i := by unfold trg; rw [c 53 (by decide)]
  have e2 : tww (notA V) i = tww V i := by unfold tww; rw [c 54 (by decide)]
  unfold soB
  rw [e1, e2, c 55 (by decide)]
  have : recV (notA V) 0 (trg V i) 1 (tww V i) = recV V 0 (trg V i) 0 (tww V i) := rec_ahead (by simp [g1, g2]) (by omega)
  rw [this]
theorem s_noteStalls (hP : LW w P) (hO : OrdOK V n o) (hH : HomOK V) (hT : TrgN V s) : F_X8_noteStalls (P V) w = some (P (fireF (notA V) s (soB V 0))) := by
  have e1 : F_X7_fire (P (notA V)) (w + 52) (w + 33) = some (P (fireF (notA V) s (soB V 0))) := by
    rw [s_fire hP (trgN_notA hT), fire_cong (fun i hi => so_ahead hT hi)]
  have e0 : FinG V (fun g => decide (g < 12) && thV V g) = notA V := rfl
  unfold F_X8_noteStalls
  simp only [s_masks hP hO hH, Option.bind_some, bl, s_noteL hP hO, e0, ol hP.lo, tr hP.lr, e1]
theorem s_passTick (hP : LW w P) : F_X8_passTick (P V) w = some (P (sx (fadeF V) 0 (upd (V.1 0) 7 (V.1 0 7 + 1)))) := by
  have e0 : (fadeF V).1 0 = V.1 0 := rfl
  unfold F_X8_passTick
  simp only [ol hP.lo, cl hP.lc, Option.bind_some, s_fade hP.lc, e0]
theorem Rel.tick {M : Nat → Int32} (h : Rel V M) (x : Int32) : Rel (sx V 0 (upd (V.1 0) 7 x)) (upd M 2 x) := by
  obtain ⟨⟨a0, a1, a2, a3, a4, a5, a6⟩, h2, h3, h4, h5⟩ := h
  have e : ∀ c, c ≠ 0 → (sx V 0 (upd (V.1 0) 7 x)).1 c = V.1 c := fun c hc => if_neg hc
  have t2 : thV (sx V 0 (upd (V.1 0) 7 x)) = thV V := rfl
  have t24 : phV (sx V 0 (upd (V.1 0) 7 x)) = phV V := rfl
  refine ⟨⟨a0, a1, rfl, a3, a4, a5, a6⟩, ?_, ?_, ?_, ?_⟩
  · intro g f hg ht hf hc
    rw [e _ (cg_f1 f hf).2.2.2.2.1, upd_ne _ _ (by omega)]
    exact h2 g f hg ht hf hc
  · intro g k hg ht hk
    rw [upd_ne _ _ (by omega), upd_ne _ _ (by omega)]
    exact h3 g k hg ht hk
  · intro p f hp ht hf
    rw [e _ (cp_f1 f hf).2.2.2.2.1, upd_ne _ _ (by omega)]
    exact h4 p f hp ht hf
  · intro i k hi hk
    rw [e _ (by omega), upd_ne _ _ (by omega)]
    exact h5 i k hi hk
theorem fire_fade (was : Nat → Bool) : fireF (fadeF V) s was = fadeF (fireF V s was) := by
  unfold fireF fadeF
  have : ∀ (f g : Nat → Int32), sx (sx V 30 f) 56 g = sx (sx V 56 g) 30 f := fun f g => by
    apply Prod.ext
    · funext c
      show (if c = 56 then g else if c = 30 then f else V.1 c) = (if c = 30 then f else if c = 56 then g else V.1 c)
      by_cases h1 : c = 56
      · subst h1; rfl
      · rw [if_neg h1, if_neg h1]
    · rfl
  exact this _ _
/-- the model's tick, after its work -/
theorem m_tickRest (hP : LM b P) (hK : CoM U) (hR : Rel V (U.1 1)) (hO : OrdOK V n o) (hH : HomOK V) (hT : TrgN V s) (hS : ∀ p, p < 16 → phV V p = true → 0 ≤ (V.1 30 p).toInt) :
    ∃ U', ((loopF (fun x => F_X10_ticks_L8 b x.1 x.2.1 x.2.2) 6000 (0, 0, P U)).bind fun q2 =>
      (loopF (fun x => F_X10_ticks_L44 b q2.1 x.1 x.2) 6000 (0, q2.2)).bind fun h44 =>
      (loopF (fun x => F_X10_ticks_L140 b q2.1 x.1 x.2) 6000 (0, h44)).bind fun h58 =>
      (loopF (fun x => F_X10_ticks_L180 b q2.1 x.1 x.2) 6000 (0, h58)).bind fun h75 =>
      (gR h75 b 10 1).bind fun a76 =>
      (aI h75 a76 2).bind fun v77 =>
      sI h75 a76 2 (v77 + 1)) = some (P U') ∧ Keep U U' ∧ Rel (tikV V s) (U'.1 1) := by
  obtain ⟨U1, a1, a2, a3⟩ := m_noteA hP hK hR hO hH hS (mkB 4 (fun i => decide (i < s) && soB V 0 i))
  have e0 : FinG V (fun g => decide (g < 12) && thV V g) = notA V := rfl
  rw [e0] at a3
  have c : ∀ c, (c < 39 ∨ 52 ≤ c) → (notA V).1 c = V.1 c := fun c hc => fin_c _ hc
  have hph : phV (notA V) = phV V := phV_same (c 24 (by decide))
  obtain ⟨U2, b1, b2, b3⟩ := m_fade hP a3 (by rw [hph, c 30 (by decide)]; exact hS) (mkB 4 (fun i => decide (i < s) && soB V 0 i))
  have hTF : TrgN (fadeF (notA V)) s := trgN_notA hT
  obtain ⟨U3, d1, d2, d3⟩ := m_fire hP b3 hTF (soB V 0)
  rw [fire_fade] at d3
  obtain ⟨W, hW⟩ : ∃ W, W = fadeF (fireF (notA V) s (soB V 0)) := ⟨_, rfl⟩
  have hW0 : W.1 0 = V.1 0 := by rw [hW]; exact c 0 (by decide)
  rw [← hW] at d3
  have e2 : U3.1 1 2 = V.1 0 7 := by rw [d3.1.2.2.1, hW0]
  refine ⟨sx U3 1 (upd (U3.1 1) 2 (V.1 0 7 + 1)), ?_, a2.trans (b2.trans (d2.trans (Keep.up _ (by omega) _))), ?_⟩
  · simp only [m_over hP hR hT, Option.bind_some, a1, b1, d1, ml hP, ml0 hP, e2]
  · have := d3.tick (V.1 0 7 + 1)
    rw [hW0] at this
    unfold tikV
    rw [← hW]
    exact this
end TICK
