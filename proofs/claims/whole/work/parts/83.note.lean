/-! a tick is noted for one group, by one kind of stall -/
def avN (i : Nat) (a : Int32) (s : Bool) : Int32 := (((stt 3).getD i 0 - 1) * a + (if s then 1000 else 0)) / (stt 3).getD i 0
def shN (x : Int64) (s : Bool) : Int64 := (x <<< (Int32.toInt64 1 &&& 63)) ||| Int32.toInt64 (if s then 1 else 0)
def not0 (V : WV) (g k : Nat) (s : Bool) : WV := sx (sy V (35 + k) (vp_updL (V.2 (35 + k)) g (shN (V.2 (35 + k) g) s))) (39 + k) (upd (V.1 (39 + k)) g (V.1 (39 + k) g + (if s then 1 else 0)))
def notI (V : WV) (g k : Nat) (s : Bool) : Nat → WV
  | 0 => not0 V g k s
  | i + 1 => sx (notI V g k s i) (43 + (k * 3 + i)) (upd (V.1 (43 + (k * 3 + i))) g (avN i (V.1 (43 + (k * 3 + i)) g) s))
def notV (V : WV) (g k : Nat) (s : Bool) : WV := notI V g k s 3
section NOTE
variable {V U : WV} {w b : Nat} {P : WV → Hp}
theorem notI_c (g k : Nat) (s : Bool) {c : Nat} : ∀ i, c ≠ 39 + k → (∀ j, j < i → c ≠ 43 + (k * 3 + j)) → (notI V g k s i).1 c = V.1 c
  | 0, h, _ => up_n _ _ h
  | i + 1, h, hj => by
    show (sx _ _ _).1 c = _
    rw [sx_1, up_n _ _ (hj i (Nat.lt_succ_self _))]
    exact notI_c g k s i h (fun j hj' => hj j (by omega))
theorem s_note (hP : LG w P) {g k : Nat} (hg : g < 12) (hk : k < 3) (s : Bool) : F_X1_note (P V) (w + 33) (nI g) (nI k) (if s then 1 else 0) = some (P (notV V g k s)) := by
  obtain ⟨a, ha, hI⟩ := loop_inv (st := fun x => F_X1_note_L52 (w + 33) (nI g) (nI k) (if s then 1 else 0) x.1 x.2) (fun i (a : WV) => (nI i, P a)) (fun a => P a) (fun i a => a = notI V g k s i) 3
    (fun i a hi hI => by
      refine ⟨notI V g k s (i + 1), ?_, rfl⟩
      show F_X1_note_L52 (w + 33) (nI g) (nI k) (if s then 1 else 0) (nI i) (P a) = _
      unfold F_X1_note_L52
      rw [h3I, if_neg (nI_ge hi (by decide)), hI]
      have e0 : sX 3 (nI i) = some ((stt 3).getD i 0) := by
        unfold sX
        rw [show (stt 3).length = 3 from rfl, inb_nI hi (by decide), if_pos rfl, nI_clamp (by omega)]
      have e1 : nI k * nI 3 + nI i = nI (k * 3 + i) := by rw [nI_mul, nI_add]
      have hki : k * 3 + i < 9 := by omega
      have e2 : (notI V g k s i).1 (43 + (k * 3 + i)) = V.1 (43 + (k * 3 + i)) := notI_c g k s i (by omega) (fun j hj => by omega)
      have hnz : ¬ (stt 3).getD i 0 = 0 := (by decide : ∀ i, i < 3 → ¬ (stt 3).getD i 0 = 0) i hi
      have e3 : (if (if s then (1 : Int32) else 0) = 0 then some (0 : Int32) else some 1000) = some (if s then 1000 else 0) := by cases s <;> rfl
      have hps : 0 < (stt 3).getD i 0 := (by decide : ∀ i, i < 3 → 0 < (stt 3).getD i 0) i hi
      simp only [e0, Option.bind_some, ga hP, e1, hki, hg, if_pos hps, e2, e3, dvI, if_neg hnz, bl, nI_1]
      rfl)
    (fun a hI => by
      show F_X1_note_L52 (w + 33) (nI g) (nI k) (if s then 1 else 0) (nI 3) (P a) = _
      unfold F_X1_note_L52
      rw [h3I, if_pos (nI_le (Nat.le_refl _) (by decide))])
    3 0 6000 (not0 V g k s) (by decide) (by decide) rfl
  have ha' : loopF (fun x => F_X1_note_L52 (w + 33) (nI g) (nI k) (if s then 1 else 0) x.1 x.2) 6000 (0, P (not0 V g k s)) = some (P a) := ha
  have e4 : (if (if s then (1 : Int32) else 0) = 0 then some (0 : Int32) else some 1) = some (if s then 1 else 0) := by cases s <;> rfl
  have h1 : sJ (P V) (w + (35 + k)) (nI g) ((V.2 (35 + k) g <<< (Int32.toInt64 1 &&& 63)) ||| Int32.toInt64 (if s then 1 else 0)) = some (P (sy V (35 + k) (vp_updL (V.2 (35 + k)) g (shN (V.2 (35 + k) g) s)))) := by
    simp only [ga hP, hk, hg]; rfl
  have h2 : sI (P (sy V (35 + k) (vp_updL (V.2 (35 + k)) g (shN (V.2 (35 + k) g) s)))) (w + (39 + k)) (nI g) (V.1 (39 + k) g + (if s then 1 else 0)) = some (P (not0 V g k s)) := by
    simp only [ga hP, hk, hg]; rfl
  have h3 : ∀ f, (sy V (35 + k) f).1 (39 + k) g = V.1 (39 + k) g := fun f => rfl
  unfold F_X1_note
  have h4 : ((loopF (fun x => F_X1_note_L52 (w + 33) (nI g) (nI k) (if s then 1 else 0) x.1 x.2) 6000 (0, P (not0 V g k s))).bind fun h31 => some h31) = some (P (notV V g k s)) := by
    rw [ha', hI]; rfl
  simp only [h1, ga hP, hk, hg, Option.bind_some, e4, h3]
  exact h4
/-! the model -/
theorem updL_s (f : Nat → Int64) (k : Nat) (v : Int64) : vp_updL f k v k = v := if_pos rfl
theorem updL_n (f : Nat → Int64) {k j : Nat} (v : Int64) (h : j ≠ k) : vp_updL f k v j = f j := if_neg h
theorem Rel.lat {M : Nat → Int32} (h : Rel V M) {g k : Nat} (hg : g < 12) (hk : k < 3) (x : Int64) : Rel (sy V (35 + k) (vp_updL (V.2 (35 + k)) g x)) (upd (upd M (7 + 34 * g + (18 + 2 * k)) (lo20 x)) (7 + 34 * g + (18 + 2 * k + 1)) (hi20 x)) := by
  obtain ⟨h1, h2, h3, h4, h5⟩ := h
  refine ⟨?_, ?_, ?_, ?_, ?_⟩
  · unfold RelS at h1 ⊢
    rw [upd_ne _ _ (by omega), upd_ne _ _ (by omega), upd_ne _ _ (by omega), upd_ne _ _ (by omega), upd_ne _ _ (by omega), upd_ne _ _ (by omega), upd_ne _ _ (by omega), upd_ne _ _ (by omega), upd_ne _ _ (by omega), upd_ne _ _ (by omega), upd_ne _ _ (by omega), upd_ne _ _ (by omega), upd_ne _ _ (by omega), upd_ne _ _ (by omega)]; exact h1
  · intro y f hy hty hf hcf
    have hne : f ≠ 18 + 2 * k ∧ f ≠ 18 + 2 * k + 1 := by
      constructor
      · intro e; subst e; exact hcf ((by decide : ∀ k, k < 3 → cg (18 + 2 * k) = 99) k hk)
      · intro e; subst e; exact hcf ((by decide : ∀ k, k < 3 → cg (18 + 2 * k + 1) = 99) k hk)
    rw [upd_ne _ _ (by omega), upd_ne _ _ (by omega)]
    exact h2 y f hy hty hf hcf
  · intro y j hy hty hj
    rw [sy_2]
    by_cases ej : j = k
    · subst ej
      rw [up_s]
      by_cases ey : y = g
      · subst ey
        rw [updL_s, upd_ne _ _ (by omega), upd_s, upd_s]; exact ⟨rfl, rfl⟩
      · rw [updL_n _ _ ey, upd_ne _ _ (by omega), upd_ne _ _ (by omega), upd_ne _ _ (by omega), upd_ne _ _ (by omega)]
        exact h3 y j hy hty hj
    · rw [up_n _ _ (by omega), upd_ne _ _ (by omega), upd_ne _ _ (by omega), upd_ne _ _ (by omega), upd_ne _ _ (by omega)]
      exact h3 y j hy hty hj
  · intro y f hy hty hf
    rw [upd_ne _ _ (by omega), upd_ne _ _ (by omega)]
    exact h4 y f hy hty hf
  · intro i j hi hj
    rw [upd_ne _ _ (by omega), upd_ne _ _ (by omega)]
    exact h5 i j hi hj
theorem shN_n (x : Int64) (s : Bool) : n64 (shN x s) = (2 * n64 x + (if s then 1 else 0)) % 2 ^ 64 := by
  obtain ⟨N, hN⟩ : ∃ N, N = n64 x := ⟨_, rfl⟩
  have e0 : shN x s = shN (lN N) s := by rw [hN, ← xN]
  have e1 : lN N <<< (Int32.toInt64 1 &&& 63) = lN (N * 2 ^ 1 % 2 ^ 64) := by
    rw [← wb_mod]; exact wb_shl N (k := 1) (by decide)
  have e2 : Int32.toInt64 (if s then 1 else 0) = lN (if s then 1 else 0) := by cases s <;> rfl
  have hm : N * 2 ^ 1 % 2 ^ 64 < 2 ^ 64 := Nat.mod_lt _ (by decide)
  have hb : (if s then 1 else 0 : Nat) < 2 := by cases s <;> decide
  rw [e0]
  unfold shN
  rw [e1, e2, wb_or hm (by omega), n64_lN (Nat.or_lt_two_pow hm (by omega)), ← hN]
  have e3 : N * 2 ^ 1 % 2 ^ 64 = 2 ^ 1 * (N % 2 ^ 63) := by omega
  rw [e3, ← Nat.two_pow_add_eq_or_of_lt (show (if s then 1 else 0 : Nat) < 2 ^ 1 by omega)]
  omega
theorem lat_eq (N c : Nat) (hc : c < 2) : ((2 * N + c) % 2 ^ 64) % 1048576 = (2 * (N % 2 ^ 40) + c) % 1048576 ∧ ((2 * N + c) % 2 ^ 64) / 1048576 % 1048576 = (2 * (N % 2 ^ 40) + c) / 1048576 % 1048576 := by
  have h1 : ((2 * N + c) % 2 ^ 64) % 2 ^ 40 = (2 * N + c) % 2 ^ 40 := Nat.mod_mod_of_dvd _ (by decide)
  have h2 : (2 * (N % 2 ^ 40) + c) % 2 ^ 40 = (2 * N + c) % 2 ^ 40 := by omega
  have key : ∀ a, a / 1048576 % 1048576 = a % 2 ^ 40 / 1048576 := fun a => by
    rw [show (2 : Nat) ^ 40 = 1048576 * 1048576 from rfl, Nat.mod_mul_right_div_self]
  have key2 : ∀ a, a % 1048576 = a % 2 ^ 40 % 1048576 := fun a => (Nat.mod_mod_of_dvd _ (by decide)).symm
  rw [key, key, key2, key2 (2 * (N % 2 ^ 40) + c), h1, h2]
  exact ⟨rfl, rfl⟩
theorem m_laysLatest (hP : LM b P) {g k : Nat} (hg : g < 12) (hk : k < 3) (N : Nat) (x : Int64) (hx : N = n64 x) (s : Bool) : F_X10_laysLatest (P U) b (nI g) (nI k) ((lN (N % 2 ^ 40) <<< (Int32.toInt64 1 &&& 63)) ||| (if s then 1 else 0)) = some (P (sx U 1 (upd (upd (U.1 1) (7 + 34 * g + (18 + 2 * k)) (lo20 (shN x s))) (7 + 34 * g + (18 + 2 * k + 1)) (hi20 (shN x s))))) := by
  have hlt : N % 2 ^ 40 < 2 ^ 40 := Nat.mod_lt _ (by decide)
  have e1 : (18 : Int32) + 2 * nI k = nI (18 + 2 * k) := by
    rw [show (18 : Int32) = nI 18 from rfl, show (2 : Int32) = nI 2 from rfl, nI_mul, nI_add]
  obtain ⟨c, hc⟩ : ∃ c : Nat, c = if s then 1 else 0 := ⟨_, rfl⟩
  have hc2 : c < 2 := by rw [hc]; cases s <;> decide
  have e2 : (if s then 1 else 0 : Int64) = lN c := by rw [hc]; cases s <;> rfl
  have e3 : lN (N % 2 ^ 40) <<< (Int32.toInt64 1 &&& 63) = lN (N % 2 ^ 40 * 2 ^ 1) := wb_shl _ (k := 1) (by decide)
  have e4 : (lN (N % 2 ^ 40) <<< (Int32.toInt64 1 &&& 63)) ||| (if s then 1 else 0) = lN (2 * (N % 2 ^ 40) + c) := by
    rw [e2, e3, wb_or (by omega) (by omega)]
    congr 1
    rw [Nat.mul_comm, ← Nat.two_pow_add_eq_or_of_lt (show c < 2 ^ 1 by omega)]
  rw [e4]
  obtain ⟨M, hM⟩ : ∃ M, M = 2 * (N % 2 ^ 40) + c := ⟨_, rfl⟩
  have hML : M < 2 ^ 42 := by omega
  obtain ⟨q1, q2⟩ := lat_eq N c hc2
  have f1 : Int64.toInt32 (lN M &&& 1048575) = lo20 (shN x s) := by
    have := wb_mask (n := M) (k := 20) (by omega) (by decide)
    have h' : lN M &&& 1048575 = lN (M % 2 ^ 20) := this
    rw [h', lN_i]
    unfold lo20
    rw [shN_n, ← hx, ← hc, q1, hM]
  have f2 : Int64.toInt32 ((lN M >>> (Int32.toInt64 20 &&& 63)) &&& 1048575) = hi20 (shN x s) := by
    have g1 : lN M >>> (Int32.toInt64 20 &&& 63) = lN (M / 2 ^ 20) := pf_shr (by decide) (by omega)
    have := wb_mask (n := M / 2 ^ 20) (k := 20) (Nat.lt_of_le_of_lt (Nat.div_le_self _ _) (by omega)) (by decide)
    have h' : lN (M / 2 ^ 20) &&& 1048575 = lN (M / 2 ^ 20 % 2 ^ 20) := this
    rw [g1, h', lN_i]
    unfold hi20
    rw [shN_n, ← hx, ← hc, q2, hM]
  rw [← hM]
  unfold F_X10_laysLatest
  simp only [ml hP, e1, nI_1, m_lays hP hg (show 18 + 2 * k < 34 by omega), m_lays hP hg (show 18 + 2 * k + 1 < 34 by omega), Option.bind_some, f1, f2, sx_1, up_s, sx_sx]
/-- the model's constants -/
def CoM (U : WV) : Prop := U.1 7 0 = 5 ∧ U.1 7 1 = 10 ∧ U.1 7 2 = 30
theorem m_aver (hP : LM b P) (hK : CoM U) {g k : Nat} (hg : g < 12) (hk : k < 3) (s : Bool) {W : WV} (ht : thV W g = true) (hR : Rel W (U.1 1)) (hW : ∀ i, i < 3 → W.1 (43 + (k * 3 + i)) = V.1 (43 + (k * 3 + i))) (h0 : W = not0 V g k s) : ∃ U', F_X10_averages (P U) b (nI g) (nI k) (if s then 1 else 0) = some (P U') ∧ Keep U U' ∧ Rel (notV V g k s) (U'.1 1) := by
  obtain ⟨a, ha, hI1, hI2⟩ := loop_inv (st := fun x => F_X10_averages_L3 b (nI g) (nI k) (if s then 1 else 0) x.1 x.2) (fun i (a : WV) => (nI i, P a)) (fun a => P a) (fun i a => Keep U a ∧ Rel (notI V g k s i) (a.1 1)) 3
    (fun i a hi hI => by
      obtain ⟨i1, i2⟩ := hI
      have hth : thV (notI V g k s i) g = true := by
        have e : (notI V g k s i).1 2 = W.1 2 := by rw [notI_c g k s i (by omega) (fun j _ => by omega), h0]; exact (up_n _ _ (by omega)).symm
        rw [thV_same e]; exact ht
      have e1 : (25 : Int32) + 3 * nI k + nI i = nI (25 + 3 * k + i) := by
        rw [show (25 : Int32) = nI 25 from rfl, show (3 : Int32) = nI 3 from rfl, nI_mul, nI_add, nI_add]
      have ecg : cg (25 + 3 * k + i) = 43 + (k * 3 + i) := by
        have := (by decide : ∀ j, j < 9 → cg (25 + j) = 43 + j) (3 * k + i) (by omega)
        rw [show 25 + 3 * k + i = 25 + (3 * k + i) from by omega, this]; omega
      have ev : (notI V g k s i).1 (43 + (k * 3 + i)) = V.1 (43 + (k * 3 + i)) := notI_c g k s i (by omega) (fun j hj => by omega)
      have hof := m_of (f := 25 + 3 * k + i) hP i2 hg hth (by omega) (by rw [ecg]; omega)
      rw [ecg, ev] at hof
      have hla := m_lays (U := a) hP hg (show 25 + 3 * k + i < 34 by omega) (avN i (V.1 (43 + (k * 3 + i)) g) s)
      have hwin : aI (P a) (b + 7) (nI i) = some ((stt 3).getD i 0) := by
        have : aI (P a) (b + 7) (nI i) = some (a.1 7 i) := by simp only [ml hP, hi]
        rw [this, i1.1 7 (by decide) (by decide)]
        have h3 : i = 0 ∨ i = 1 ∨ i = 2 := by omega
        rcases h3 with rfl | rfl | rfl
        · rw [hK.1]; rfl
        · rw [hK.2.1]; rfl
        · rw [hK.2.2]; rfl
      have hnz : ¬ (stt 3).getD i 0 = 0 := (by decide : ∀ i, i < 3 → ¬ (stt 3).getD i 0 = 0) i hi
      have e3 : (if (if s then (1 : Int32) else 0) = 0 then some (0 : Int32) else some 1000) = some (if s then 1000 else 0) := by cases s <;> rfl
      refine ⟨sx a 1 (upd (a.1 1) (7 + 34 * g + (25 + 3 * k + i)) (avN i (V.1 (43 + (k * 3 + i)) g) s)), ?_, i1.trans (Keep.up _ (by omega) _), ?_⟩
      · show F_X10_averages_L3 b (nI g) (nI k) (if s then 1 else 0) (nI i) (P a) = _
        unfold F_X10_averages_L3
        rw [if_neg (by rw [h3I]; exact nI_ge hi (by decide))]
        have hdv : dvI (((stt 3).getD i 0 - 1) * V.1 (43 + (k * 3 + i)) g + (if s then 1000 else 0)) ((stt 3).getD i 0) = some (avN i (V.1 (43 + (k * 3 + i)) g) s) := by
          unfold dvI avN
          rw [if_neg hnz]
        simp only [bl, e1, ml hP, Option.bind_some]
        simp only [hwin, hof, un, e3, Option.bind_some, ml hP]
        simp only [hwin, hdv, hla, Option.bind_some, nI_1]
      · have := i2.grp (f := 25 + 3 * k + i) hg (by omega) (by rw [ecg]; omega) (by omega) (avN i (V.1 (43 + (k * 3 + i)) g) s)
        rw [ecg, ev] at this
        exact this)
    (fun a hI => by
      show F_X10_averages_L3 b (nI g) (nI k) (if s then 1 else 0) (nI 3) (P a) = _
      unfold F_X10_averages_L3
      rw [if_pos (by rw [h3I]; exact nI_le (Nat.le_refl _) (by decide))])
    3 0 6000 U (by decide) (by decide) ⟨Keep.refl U, by rw [h0] at hR; exact hR⟩
  refine ⟨a, ?_, hI1, hI2⟩
  unfold F_X10_averages
  have ha' : loopF (fun x => F_X10_averages_L3 b (nI g) (nI k) (if s then 1 else 0) x.1 x.2) 6000 (0, P U) = some (P a) := ha
  rw [ha']; rfl
end NOTE
