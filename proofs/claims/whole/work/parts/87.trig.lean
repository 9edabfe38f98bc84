/-! triggers -/
def trg (V : WV) (i : Nat) : Nat := (V.1 53 i).toNatClampNeg
def tww (V : WV) (i : Nat) : Nat := (V.1 54 i).toNatClampNeg
def TrgN (V : WV) (s : Nat) : Prop := s ≤ 4 ∧ V.1 52 4 = nI s ∧ ∀ i, i < s → (trg V i < 12 ∧ thV V (trg V i) = true ∧ V.1 53 i = nI (trg V i)) ∧ (1 ≤ tww V i ∧ tww V i ≤ 40 ∧ V.1 54 i = nI (tww V i))
/-- a trigger's group was stalled often enough, j ticks ago -/
def soB (V : WV) (j i : Nat) : Bool := decide (¬ nI (recV V 0 (trg V i) j (tww V i)) < V.1 55 i)
def fireF (V : WV) (s : Nat) (was : Nat → Bool) : WV := sx V 56 (fun i => if decide (i < s) && (soB V 0 i && !was i) then V.1 56 i + 1 else V.1 56 i)
section TRIG
variable {V U : WV} {n : Nat} {o : Nat → Nat} {w b s : Nat} {P : WV → Hp}
theorem s_fire (hP : LW w P) (hT : TrgN V s) : F_X7_fire (P V) (w + 52) (w + 33) = some (P (fireF V s (soB V 1))) := by
  obtain ⟨t1, t2, t3⟩ := hT
  obtain ⟨f, hf, hI⟩ := loop_inv (st := fun x => F_X7_fire_L2 (w + 52) (w + 33) x.1 x.2) (fun i (f : Nat → Int32) => (nI i, P (sx V 56 f))) (fun f => P (sx V 56 f)) (fun i f => f = fun x => if decide (x < i) && (soB V 0 x && !soB V 1 x) then V.1 56 x + 1 else V.1 56 x) s
    (fun i f hi hI => by
      obtain ⟨⟨g1, g2, g3⟩, g4, g5, g6⟩ := t3 i hi
      have hi4 : i < 4 := by omega
      have e53 : (sx V 56 f).1 53 i = nI (trg V i) := g3
      have e54 : (sx V 56 f).1 54 i = nI (tww V i) := g6
      have e55 : (sx V 56 f).1 55 i = V.1 55 i := rfl
      have e52 : (sx V 56 f).1 52 4 = nI s := t2
      have r0 : F_X1_recent (P (sx V 56 f)) (w + 33) (nI (trg V i)) 0 (nI (tww V i)) = some (nI (recV V 0 (trg V i) 0 (tww V i))) := s_recent (V := sx V 56 f) (k := 0) hP.lg g1 (by decide) (by omega)
      have r1 : F_X1_recentAhead (P (sx V 56 f)) (w + 33) (nI (trg V i)) 0 (nI (tww V i)) = some (nI (recV V 0 (trg V i) 1 (tww V i))) := s_recentA (V := sx V 56 f) (k := 0) hP.lg g1 (by decide) (by omega)
      have b0 : (if nI (recV V 0 (trg V i) 0 (tww V i)) < V.1 55 i then some (0 : Int32) else some 1) = some (if soB V 0 i then 1 else 0) := by
        unfold soB
        by_cases c : nI (recV V 0 (trg V i) 0 (tww V i)) < V.1 55 i
        · simp [c]
        · simp [c]
      have b1 : (if nI (recV V 0 (trg V i) 1 (tww V i)) < V.1 55 i then some (0 : Int32) else some 1) = some (if soB V 1 i then 1 else 0) := by
        unfold soB
        by_cases c : nI (recV V 0 (trg V i) 1 (tww V i)) < V.1 55 i
        · simp [c]
        · simp [c]
      have hfi : f i = V.1 56 i := by rw [hI]; simp
      have hstep : ∀ g : Nat → Int32, (g i = if soB V 0 i && !soB V 1 i then V.1 56 i + 1 else V.1 56 i) → (∀ x, x ≠ i → g x = f x) → g = fun x => if decide (x < i + 1) && (soB V 0 x && !soB V 1 x) then V.1 56 x + 1 else V.1 56 x := fun g h1 h2 => by
        funext x
        by_cases e : x = i
        · subst e; rw [h1]; simp
        · have h3 : x < i + 1 ↔ x < i := by omega
          rw [h2 x e, hI]; simp [h3]
      have hgo : ∀ z, F_X7_fire_L2 (w + 52) (w + 33) (nI i) (P (sx V 56 f)) = z → (fun (x : Int32 × Hp) => F_X7_fire_L2 (w + 52) (w + 33) x.1 x.2) (nI i, P (sx V 56 f)) = z := fun z hz => hz
      cases c0 : soB V 0 i
      · refine ⟨f, hgo _ ?_, hstep f (by rw [hfi, c0]; rfl) (fun _ _ => rfl)⟩
        unfold F_X7_fire_L2
        rw [c0] at b0
        simp only [tr hP.lr, ga hP.lg, e52, Option.bind_some, if_neg (nI_ge hi (by omega)), hi4, e53, e54, e55, r0, r1, b0, b1, Bool.false_eq_true, if_false, if_true, bl, nI_1]
      · rw [c0] at b0
        cases c1 : soB V 1 i
        · refine ⟨upd f i (f i + 1), hgo _ ?_, hstep _ (by rw [upd_s, hfi, c0, c1]; rfl) (fun x hx => upd_ne _ _ hx)⟩
          unfold F_X7_fire_L2
          rw [c1] at b1
          simp only [tr hP.lr, ga hP.lg, e52, Option.bind_some, if_neg (nI_ge hi (by omega)), hi4, e53, e54, e55, r0, r1, b0, b1, Bool.false_eq_true, if_false, if_true, if_neg (show ¬ (1 : Int32) = 0 by decide), bl, nI_1, sx_1, up_s, sx_sx]
        · refine ⟨f, hgo _ ?_, hstep f (by rw [hfi, c0, c1]; rfl) (fun _ _ => rfl)⟩
          unfold F_X7_fire_L2
          rw [c1] at b1
          simp only [tr hP.lr, ga hP.lg, e52, Option.bind_some, if_neg (nI_ge hi (by omega)), hi4, e53, e54, e55, r0, r1, b0, b1, if_true, if_neg (show ¬ (1 : Int32) = 0 by decide), bl, nI_1])
    (fun f hI => by
      show F_X7_fire_L2 (w + 52) (w + 33) (nI s) (P (sx V 56 f)) = _
      unfold F_X7_fire_L2
      have e52 : (sx V 56 f).1 52 4 = nI s := t2
      simp only [tr hP.lr, e52, Option.bind_some]
      rw [if_pos (nI_le (Nat.le_refl _) (by omega))])
    s 0 6000 (V.1 56) (by omega) (by omega) (by funext x; simp)
  have hf' : loopF (fun x => F_X7_fire_L2 (w + 52) (w + 33) x.1 x.2) 6000 (0, P V) = some (P (sx V 56 f)) := by
    have := hf
    rw [sx_id] at this; exact this
  unfold F_X7_fire
  rw [hf', hI]
  rfl
/-- behind a note, what was a tick ago -/
theorem rec_ahead {dn : Nat → Bool} {g T : Nat} (hd : dn g = true) (hT : T ≤ 40) : recV (FinG V dn) 0 g 1 T = recV V 0 g 0 T := by
  unfold recV
  refine cntN_cong fun i hi => ?_
  have e : (FinG V dn).2 (35 + 0) g = shN (V.2 35 g) (STK V 0 g) := by
    show (if dn g then shN (V.2 35 g) (STK V (35 - 35) g) else V.2 35 g) = _
    rw [hd]; rfl
  rw [e, shN_n, Nat.testBit_mod_two_pow]
  have h64 : 1 + i < 64 := by omega
  simp only [h64, decide_true, Bool.true_and]
  rw [Nat.add_comm 1 i, Nat.testBit_succ]
  have h2 : (2 * n64 (V.2 35 g) + (if STK V 0 g then 1 else 0)) / 2 = n64 (V.2 35 g) := by
    cases STK V 0 g <;> simp <;> omega
  rw [h2, Nat.zero_add]
theorem ix_t (i k : Nat) : (543 + 4 * nI i) + nI k = nI (543 + 4 * i + k) := by
  rw [show (543 : Int32) = nI 543 from rfl, show (4 : Int32) = nI 4 from rfl, nI_mul, nI_add, nI_add]
theorem m_trd (hP : LM b P) (hR : Rel V (U.1 1)) {i k : Nat} (hi : i < 4) (hk : k < 4) : aI (P U) (b + 1) ((543 + 4 * nI i) + nI k) = some (V.1 (53 + k) i) := by
  have h : 543 + 4 * i + k < 1677 := by omega
  rw [ix_t]
  simp only [ml hP, h]
  rw [hR.2.2.2.2 i k hi hk]
theorem m_isOver (hP : LM b P) (hR : Rel V (U.1 1)) (hT : TrgN V s) {i : Nat} (hi : i < s) : F_X10_isOver (P U) b (nI i) = some (if soB V 0 i then 1 else 0, P U) := by
  obtain ⟨t1, t2, t3⟩ := hT
  obtain ⟨⟨g1, g2, g3⟩, g4, g5, g6⟩ := t3 i hi
  have a0 : aI (P U) (b + 1) (543 + 4 * nI i + 0) = some (nI (trg V i)) := by rw [← g3]; exact m_trd (k := 0) hP hR (by omega) (by decide)
  have a1 : aI (P U) (b + 1) (543 + 4 * nI i + 1) = some (nI (tww V i)) := by rw [← g6]; exact m_trd (k := 1) hP hR (by omega) (by decide)
  have a2 : aI (P U) (b + 1) (543 + 4 * nI i + 2) = some (V.1 55 i) := m_trd (k := 2) hP hR (by omega) (by decide)
  have a3 : F_X10_pressureOf (P U) b (nI (trg V i)) 0 (nI (tww V i)) = some (nI (recV V 0 (trg V i) 0 (tww V i)), P U) := m_press (k := 0) hP hR g1 g2 (by decide) g5
  unfold F_X10_isOver
  simp only [bl, ml hP, a0, a1, a2, a3, Option.bind_some, un]
  unfold soB
  by_cases c : nI (recV V 0 (trg V i) 0 (tww V i)) < V.1 55 i
  · simp [c]
  · simp [c]
theorem m_over (hP : LM b P) (hR : Rel V (U.1 1)) (hT : TrgN V s) : loopF (fun x => F_X10_ticks_L8 b x.1 x.2.1 x.2.2) 6000 (0, 0, P U) = some (mkB 4 (fun i => decide (i < s) && soB V 0 i), P U) := by
  obtain ⟨t1, t2, t3⟩ := id hT
  obtain ⟨a, ha, hI⟩ := loop_inv (st := fun x => F_X10_ticks_L8 b x.1 x.2.1 x.2.2) (fun i (a : Int32) => (a, nI i, P U)) (fun a => (a, P U)) (fun i a => a = mkB 4 (fun j => decide (j < i) && soB V 0 j)) s
    (fun i a hi hI => by
      refine ⟨mkB 4 (fun j => decide (j < i + 1) && soB V 0 j), ?_, rfl⟩
      show F_X10_ticks_L8 b a (nI i) (P U) = _
      unfold F_X10_ticks_L8
      have e4 : U.1 1 4 = nI s := by rw [hR.1.2.2.2.2.1]; exact t2
      have hmk : mkB 4 (fun j => decide (j < i) && soB V 0 j) ||| (if soB V 0 i then 1 <<< (nI i &&& 31) else 0) = mkB 4 (fun j => decide (j < i + 1) && soB V 0 j) := mkB_eq (by decide) fun j hj => by
        rw [b_or, bt_mkB (by decide) hj]
        by_cases e : j = i
        · subst e
          cases hs : soB V 0 j
          · simp [b_0]
          · have h4 : j < 4 := by omega
            simp only [if_true, bt_one (show j < 32 by omega) hj, decide_true, Bool.or_true]
            simp [h4]
        · have h2 : j < i + 1 ↔ j < i := by omega
          have hz : bt (if soB V 0 i then (1 : Int32) <<< (nI i &&& 31) else 0) j = false := by
            cases soB V 0 i
            · simp [b_0]
            · simp [bt_one (show i < 32 by omega) hj, e]
          rw [hz]; simp [h2]
      simp only [ml hP, ml0 hP, Option.bind_some, e4, if_neg (nI_ge hi (by omega)), m_isOver hP hR hT hi, un, bl, nI_1, hI]
      rw [← hmk]
      cases soB V 0 i <;> rfl)
    (fun a hI => by
      show F_X10_ticks_L8 b a (nI s) (P U) = _
      unfold F_X10_ticks_L8
      have e4 : U.1 1 4 = nI s := by rw [hR.1.2.2.2.2.1]; exact t2
      simp only [ml hP, ml0 hP, Option.bind_some, e4]
      rw [if_pos (nI_le (Nat.le_refl _) (by omega))])
    s 0 6000 0 (by omega) (by omega) (mkB_z (by decide) (fun x _ => by simp)).symm
  have ha' : loopF (fun x => F_X10_ticks_L8 b x.1 x.2.1 x.2.2) 6000 (0, 0, P U) = some (a, P U) := ha
  rw [ha', hI]
theorem Rel.trg {M : Nat → Int32} (h : Rel V M) {i k : Nat} (hi : i < 4) (hk : k < 4) (x : Int32) : Rel (sx V (53 + k) (upd (V.1 (53 + k)) i x)) (upd M (543 + 4 * i + k) x) := by
  obtain ⟨h1, h2, h3, h4, h5⟩ := h
  have e2 : (sx V (53 + k) (upd (V.1 (53 + k)) i x)).1 2 = V.1 2 := up_n _ _ (by omega)
  have e24 : (sx V (53 + k) (upd (V.1 (53 + k)) i x)).1 24 = V.1 24 := up_n _ _ (by omega)
  have e0 : (sx V (53 + k) (upd (V.1 (53 + k)) i x)).1 0 = V.1 0 := up_n _ _ (by omega)
  have e52 : (sx V (53 + k) (upd (V.1 (53 + k)) i x)).1 52 = V.1 52 := up_n _ _ (by omega)
  refine ⟨?_, ?_, ?_, ?_, ?_⟩
  · unfold RelS at h1 ⊢
    rw [thV_same e2, phV_same e24, e0, e52, upd_ne _ _ (by omega), upd_ne _ _ (by omega), upd_ne _ _ (by omega), upd_ne _ _ (by omega), upd_ne _ _ (by omega), upd_ne _ _ (by omega), upd_ne _ _ (by omega)]; exact h1
  · intro g f hg ht hf hc
    rw [thV_same e2] at ht
    rw [sx_1, up_n _ _ (cg_t f hf k hk), upd_ne _ _ (by omega)]
    exact h2 g f hg ht hf hc
  · intro g j hg ht hj
    rw [thV_same e2] at ht
    rw [upd_ne _ _ (by omega), upd_ne _ _ (by omega)]
    exact h3 g j hg ht hj
  · intro p f hp ht hf
    rw [phV_same e24] at ht
    rw [sx_1, up_n _ _ (cp_t f hf k hk), upd_ne _ _ (by omega)]
    exact h4 p f hp ht hf
  · intro j l hj hl
    by_cases el : l = k
    · subst el
      rw [sx_1, up_s]
      by_cases ej : j = i
      · subst ej; rw [upd_s, upd_s]
      · rw [upd_ne _ _ (by omega), upd_ne _ _ ej]; exact h5 j l hj hl
    · rw [sx_1, up_n _ _ (by omega), upd_ne _ _ (by omega)]
      exact h5 j l hj hl
theorem m_fire (hP : LM b P) (hR : Rel V (U.1 1)) (hT : TrgN V s) (was : Nat → Bool) : ∃ U', loopF (fun x => F_X10_ticks_L180 b (mkB 4 (fun i => decide (i < s) && was i)) x.1 x.2) 6000 (0, P U) = some (P U') ∧ Keep U U' ∧ Rel (fireF V s was) (U'.1 1) := by
  obtain ⟨t1, t2, t3⟩ := id hT
  obtain ⟨a, ha, k1, k2⟩ := loop_inv (st := fun x => F_X10_ticks_L180 b (mkB 4 (fun i => decide (i < s) && was i)) x.1 x.2) (fun i (a : WV) => (nI i, P a)) (fun a => P a) (fun i a => Keep U a ∧ Rel (sx V 56 (fun x => if decide (x < i) && (soB V 0 x && !was x) then V.1 56 x + 1 else V.1 56 x)) (a.1 1)) s
    (fun i a hi hI => by
      obtain ⟨i1, i2⟩ := hI
      have hi4 : i < 4 := by omega
      obtain ⟨W, hW⟩ : ∃ W, W = sx V 56 (fun x => if decide (x < i) && (soB V 0 x && !was x) then V.1 56 x + 1 else V.1 56 x) := ⟨_, rfl⟩
      rw [← hW] at i2
      have hTW : TrgN W s := by rw [hW]; exact hT
      have hso : soB W 0 i = soB V 0 i := by rw [hW]; rfl
      have h56 : W.1 56 i = V.1 56 i := by
        rw [hW]
        show (if decide (i < i) && _ then _ else _) = _
        simp
      have e4 : a.1 1 4 = nI s := by rw [i2.1.2.2.2.2.1, hW]; exact t2
      have hov := m_isOver hP i2 hTW hi
      rw [hso] at hov
      have hbt : bt (mkB 4 (fun i => decide (i < s) && was i)) i = was i := by rw [bt_mkB (by decide) (by omega)]; simp [hi4, hi]
      have hnext : sx V 56 (fun x => if decide (x < i + 1) && (soB V 0 x && !was x) then V.1 56 x + 1 else V.1 56 x) = sx W 56 (upd (W.1 56) i (if soB V 0 i && !was i then V.1 56 i + 1 else V.1 56 i)) := by
        rw [hW, sx_sx]
        congr 1
        funext x
        show _ = upd (fun x => if decide (x < i) && (soB V 0 x && !was x) then V.1 56 x + 1 else V.1 56 x) i _ x
        by_cases e : x = i
        · subst e; rw [upd_s]; simp
        · have h2 : x < i + 1 ↔ x < i := by omega
          rw [upd_ne _ _ e]; simp only [h2]
      rw [hnext]
      have hgo : ∀ z, F_X10_ticks_L180 b (mkB 4 (fun i => decide (i < s) && was i)) (nI i) (P a) = z → (fun (x : Int32 × Hp) => F_X10_ticks_L180 b (mkB 4 (fun i => decide (i < s) && was i)) x.1 x.2) (nI i, P a) = z := fun z hz => hz
      have hsame : (if soB V 0 i && !was i then V.1 56 i + 1 else V.1 56 i) = V.1 56 i → Rel (sx W 56 (upd (W.1 56) i (if soB V 0 i && !was i then V.1 56 i + 1 else V.1 56 i))) (a.1 1) := fun e => by
        rw [e, ← h56, upd_id, sx_id]; exact i2
      cases c0 : soB V 0 i
      · refine ⟨a, hgo _ ?_, i1, by rw [c0] at hsame; exact hsame rfl⟩
        unfold F_X10_ticks_L180
        rw [c0] at hov
        simp only [ml hP, ml0 hP, Option.bind_some, e4, if_neg (nI_ge hi (by omega)), hov, un, Bool.false_eq_true, if_false, if_true, bl, nI_1]
      · rw [c0] at hov
        cases c1 : was i
        · have hidx : 543 + 4 * i + 3 < 1677 := by omega
          have q1 : aI (P a) (b + 1) (543 + 4 * nI i + 3) = some (V.1 56 i) := by
            rw [← h56]; exact m_trd (k := 3) hP i2 hi4 (by decide)
          have q2 : ∀ x, sI (P a) (b + 1) (543 + 4 * nI i + 3) x = some (P (sx a 1 (upd (a.1 1) (543 + 4 * i + 3) x))) := fun x => by
            have : (543 : Int32) + 4 * nI i + 3 = nI (543 + 4 * i + 3) := ix_t i 3
            rw [this]
            simp only [ml hP, hidx]
          refine ⟨sx a 1 (upd (a.1 1) (543 + 4 * i + 3) (V.1 56 i + 1)), hgo _ ?_, i1.trans (Keep.up _ (by omega) _), ?_⟩
          · unfold F_X10_ticks_L180
            rw [c1] at hbt
            simp only [ml hP, ml0 hP, Option.bind_some, e4, if_neg (nI_ge hi (by omega)), hov, un, if_true, if_neg (show ¬ (1 : Int32) = 0 by decide), m_has _ _ (show i < 31 by omega), hbt, Bool.false_eq_true, if_false, q1, q2, bl, nI_1]
          · exact i2.trg (k := 3) hi4 (by decide) (V.1 56 i + 1)
        · refine ⟨a, hgo _ ?_, i1, by rw [c0, c1] at hsame; exact hsame rfl⟩
          unfold F_X10_ticks_L180
          rw [c1] at hbt
          simp only [ml hP, ml0 hP, Option.bind_some, e4, if_neg (nI_ge hi (by omega)), hov, un, if_true, if_neg (show ¬ (1 : Int32) = 0 by decide), m_has _ _ (show i < 31 by omega), hbt, bl, nI_1])
    (fun a hI => by
      show F_X10_ticks_L180 b _ (nI s) (P a) = _
      unfold F_X10_ticks_L180
      have e4 : a.1 1 4 = nI s := by rw [hI.2.1.2.2.2.2.1]; exact t2
      simp only [ml hP, ml0 hP, Option.bind_some, e4]
      rw [if_pos (nI_le (Nat.le_refl _) (by omega))])
    s 0 6000 U (by omega) (by omega) ⟨Keep.refl U, by
      have : (fun x => if decide (x < 0) && (soB V 0 x && !was x) then V.1 56 x + 1 else V.1 56 x) = V.1 56 := by funext x; simp
      rw [this, sx_id]; exact hR⟩
  exact ⟨a, ha, k1, k2⟩
end TRIG
