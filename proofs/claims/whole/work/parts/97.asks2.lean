/-! who asks for how many units: the class, up the tree -/
def chS (V : WV) (A : Nat → Int32) (g : Nat) : Int32 := smI (List.range 12) (fun e => if memb V g e then A e else 0)
def qF (V : WV) (g : Nat) (s : Int32) : Int32 := if V.1 12 g = 99 then s else mnI s (mxI 0 (V.1 12 g - V.1 17 g))
/-- what everybody asks for, told by itself -/
def FixA (V : WV) (A : Nat → Int32) : Prop :=
  (∀ p, p < 16 → A (12 + p) = xP V p) ∧ (∀ g, g < 12 → thV V g = true → A g = qF V g (chS V A g + prS V g 16)) ∧ (∀ g, g < 12 → thV V g = false → A g = 0) ∧ ∀ y, y < 28 → 0 ≤ (A y).toInt ∧ (A y).toInt ≤ 15984
def AskJ (V : WV) (n : Nat) (o rk : Nat → Nat) (m : Nat) (a : Nat → Int32) : Prop :=
  (∀ p, p < 16 → a (12 + p) = xP V p) ∧ (∀ g, g < 12 → thV V g = false → a g = 0) ∧ (∀ j, m ≤ j → j < n → a (o j) = qF V (o j) (chS V a (o j) + prS V (o j) 16)) ∧ (∀ j, j < m → a (o j) = smI (List.range 12) (fun e => if memb V (o j) e && decide (m ≤ rk e) then a e else 0) + prS V (o j) 16) ∧ (∀ y, y < 28 → 0 ≤ (a y).toInt ∧ (a y).toInt ≤ 15984) ∧ isum m (fun j => (a (o j)).toInt) ≤ 15984
section ASKS2
variable {V Q : WV} {n : Nat} {o rk : Nat → Nat} {w q : Nat} {P : WV → WV → Hp}
theorem c_quota (hP : L2 w q P) {g : Nat} (hg : g < 12) (h5 : V.1 0 7 - V.1 0 7 / 5 * 5 = 0 → V.1 17 g = 0) {s : Int32} (hs : s.toInt ≤ 15984) : ∃ x, F_X2_quotaLeft (P V Q) w (nI g) = some x ∧ mnI s x = qF V g s := by
  unfold F_X2_quotaLeft rmI qF
  have e7 : aR (P V Q) (w + 4) 15 7 = some (w + 12) := (hP.1 Q).lt.ldr (o := 4) (i := 7) (z := 12) (by decide) (by decide) rfl (by decide) (by decide) rfl
  have e12 : aI (P V Q) (w + 12) (nI g) = some (V.1 12 g) := (hP.1 Q).ldi (V := V) (o := 12) (by decide) (by decide) rfl (by decide) hg
  simp only [ol (hP.1 Q).lo, tl (hP.1 Q).lt, hg, Option.bind_some, e7, e12, if_neg (show ¬ (5 : Int32) = 0 by decide)]
  by_cases h : V.1 12 g = 99
  · rw [if_pos h, if_pos h]
    refine ⟨_, rfl, ?_⟩
    apply Int32.toInt_inj.mp
    rw [ti_mn]
    have : (15984 : Int32).toInt = 15984 := by decide
    omega
  · rw [if_neg h, if_neg h]
    by_cases hm : V.1 0 7 - V.1 0 7 / 5 * 5 = 0
    · rw [if_pos hm]
      refine ⟨_, rfl, ?_⟩
      rw [h5 hm]
    · rw [if_neg hm]
      exact ⟨_, rfl, rfl⟩
theorem qF_bd (hL : LimR V) {g : Nat} (hg : g < 12) (ht : thV V g = true) {s : Int32} (h0 : 0 ≤ s.toInt) : 0 ≤ (qF V g s).toInt ∧ (qF V g s).toInt ≤ s.toInt := by
  unfold qF
  by_cases h : V.1 12 g = 99
  · rw [if_pos h]; omega
  · rw [if_neg h, ti_mn, ti_mx, ti_0]; omega
/-- one group more has told what it asks for -/
def askU (V : WV) (a : Nat → Int32) (g : Nat) : Nat → Int32 :=
  match pfV V g with
  | none => upd a g (qF V g (a g))
  | some u => upd (upd a g (qF V g (a g))) u (upd a g (qF V g (a g)) u + upd a g (qF V g (a g)) g)
theorem ask_step (hO : OrdOK V n o) (hL : LimR V) (hk : ∀ i, i < n → rk (o i) = i) (hk2 : ∀ g, g < 12 → thV V g = true → rk g < n ∧ o (rk g) = g) {i : Nat} {a : Nat → Int32} (hi : i < n) (h : AskJ V n o rk (i + 1) a) : AskJ V n o rk i (askU V a (o i)) := by
  obtain ⟨f1, f2, f3, f4, f5, f6⟩ := h
  have hoi : ∀ j, j < n → o j < 12 := fun j hj => (hO.2.2.2.2.1 j hj).1
  have inj := hO.2.2.2.2.2.1
  have hg := hoi i hi
  have htg := hO.th hi
  have hrk : ∀ j e, j < n → e < 12 → memb V (o j) e = true → j < rk e := fun j e hj he hm => by
    obtain ⟨q1, q2⟩ := hk2 e he (memb_th (hoi j hj) he hm)
    exact memb_o hO hj q1 (by rw [q2]; exact hm)
  have hg1 : a (o i) = chS V a (o i) + prS V (o i) 16 := by
    rw [f4 i (Nat.lt_succ_self _)]
    congr 1
    refine smI_cong fun e he => ?_
    cases hm : memb V (o i) e
    · rfl
    · have := hrk i e hi (List.mem_range.mp he) hm
      rw [decide_eq_true (show i + 1 ≤ rk e by omega), Bool.and_true]
  obtain ⟨g1, g2⟩ := f5 (o i) (by omega)
  obtain ⟨r1, r2⟩ := qF_bd hL hg htg g1
  obtain ⟨z, hz⟩ : ∃ z, z = qF V (o i) (a (o i)) := ⟨_, rfl⟩
  rw [← hz] at r1 r2
  have f6' : isum i (fun j => (a (o j)).toInt) + (a (o i)).toInt ≤ 15984 := f6
  rcases Nat.eq_zero_or_pos i with i0 | i0
  · subst i0
    have hpf : pfV V (o 0) = none := by rw [hO.2.2.2.1]; exact hO.pf0
    have ea : askU V a (o 0) = upd a (o 0) z := by unfold askU; rw [hpf, hz]
    rw [ea]
    have hch : ∀ j, j < n → chS V (upd a (o 0) z) (o j) = chS V a (o j) := fun j hj => smI_cong fun e he => by
      cases hm : memb V (o j) e
      · rfl
      · have := hrk j e hj (List.mem_range.mp he) hm
        have hne : e ≠ o 0 := fun q => by rw [q, hk 0 hi] at this; omega
        rw [upd_ne _ _ hne]
    refine ⟨fun p hp => ?_, fun g hg' ht => ?_, fun j hj hjn => ?_, fun j hj => absurd hj (Nat.not_lt_zero _), fun y hy => ?_, by show (0 : Int) ≤ _; omega⟩
    · rw [upd_ne _ _ (by omega)]; exact f1 p hp
    · rw [upd_ne _ _ (fun q => by rw [q, htg] at ht; cases ht)]; exact f2 g hg' ht
    · rw [hch j hjn]
      by_cases e : j = 0
      · subst e; rw [upd_s, ← hg1]; exact hz
      · rw [upd_ne _ _ (fun q => e (inj j 0 hjn hi q))]; exact f3 j (by omega) hjn
    · by_cases e : y = o 0
      · rw [e, upd_s]; omega
      · rw [upd_ne _ _ e]; exact f5 y hy
  · obtain ⟨k, hk', e, hpf, hk12⟩ := hO.pf i0 hi
    have hkn : k < n := by omega
    have hne : o k ≠ o i := fun q => by have := inj k i hkn hi q; omega
    have ea : askU V a (o i) = upd (upd a (o i) z) (o k) (a (o k) + z) := by
      unfold askU; rw [hpf]; dsimp only; rw [upd_s, upd_ne _ _ hne, ← hz]
    rw [ea]
    obtain ⟨b1, b2⟩ := f5 (o k) (by omega)
    have hadd : (a (o k) + z).toInt = (a (o k)).toInt + z.toInt := ti_add (by omega) (by omega)
    have hv : ∀ j, j < n → j ≠ k → j ≠ i → upd (upd a (o i) z) (o k) (a (o k) + z) (o j) = a (o j) := fun j hj h1 h2 => by
      rw [upd_ne _ _ (fun q => h1 (inj j k hj hkn q)), upd_ne _ _ (fun q => h2 (inj j i hj hi q))]
    have hvi : upd (upd a (o i) z) (o k) (a (o k) + z) (o i) = z := by rw [upd_ne _ _ hne.symm, upd_s]
    have hve : ∀ x, x < 12 → thV V x = true → i < rk x → upd (upd a (o i) z) (o k) (a (o k) + z) x = a x := fun x hx htx hrx => by
      obtain ⟨q1, q2⟩ := hk2 x hx htx
      rw [← q2]; exact hv _ q1 (by omega) (by omega)
    have hch : ∀ j, i ≤ j → j < n → chS V (upd (upd a (o i) z) (o k) (a (o k) + z)) (o j) = chS V a (o j) := fun j hj hjn => smI_cong fun x hx => by
      cases hm : memb V (o j) x
      · rfl
      · have hx12 := List.mem_range.mp hx
        have := hrk j x hjn hx12 hm
        rw [hve x hx12 (memb_th (hoi j hjn) hx12 hm) (by omega)]
    have hsum : isum i (fun j => (upd (upd a (o i) z) (o k) (a (o k) + z) (o j)).toInt) = isum i (fun j => (a (o j)).toInt) + z.toInt := isum_upd (k := k) i hk' (by rw [upd_s, hadd]) (fun j hj hjk => by rw [hv j (by omega) hjk (by omega)])
    have hbd : ∀ y, y < 28 → y ≠ o k → 0 ≤ (upd (upd a (o i) z) (o k) (a (o k) + z) y).toInt ∧ (upd (upd a (o i) z) (o k) (a (o k) + z) y).toInt ≤ 15984 := fun y hy hyk => by
      rw [upd_ne _ _ hyk]
      by_cases ey : y = o i
      · rw [ey, upd_s]; omega
      · rw [upd_ne _ _ ey]; exact f5 y hy
    refine ⟨fun p hp => ?_, fun g hg' ht => ?_, fun j hj hjn => ?_, fun j hj => ?_, fun y hy => ?_, by rw [hsum]; omega⟩
    · rw [upd_ne _ _ (by omega), upd_ne _ _ (by omega)]; exact f1 p hp
    · rw [upd_ne _ _ (fun q => by rw [q, hO.th hkn] at ht; cases ht), upd_ne _ _ (fun q => by rw [q, htg] at ht; cases ht)]; exact f2 g hg' ht
    · rw [hch j hj hjn]
      by_cases ej : j = i
      · subst ej; rw [hvi, ← hg1]; exact hz
      · rw [hv j hjn (by omega) ej]; exact f3 j (by omega) hjn
    · have hterm : ∀ x, x < 12 → x ≠ o i → (if memb V (o j) x && decide (i ≤ rk x) then upd (upd a (o i) z) (o k) (a (o k) + z) x else 0) = (if memb V (o j) x && decide (i + 1 ≤ rk x) then a x else 0) := fun x hx hxi => by
        cases hm : memb V (o j) x
        · rfl
        · have htx := memb_th (hoi j (by omega)) hx hm
          obtain ⟨q1, q2⟩ := hk2 x hx htx
          have hri : rk x ≠ i := fun q => hxi (by rw [← q2, q])
          by_cases hc : i ≤ rk x
          · rw [decide_eq_true hc, decide_eq_true (show i + 1 ≤ rk x by omega), hve x hx htx (by omega)]
          · rw [decide_eq_false hc, decide_eq_false (show ¬ i + 1 ≤ rk x by omega)]; rfl
      have hik : memb V (o k) (o i) = true := by unfold memb; rw [if_pos hg]; exact decide_eq_true e
      by_cases ej : j = k
      · subst ej
        have : smI (List.range 12) (fun x => if memb V (o j) x && decide (i ≤ rk x) then upd (upd a (o i) z) (o j) (a (o j) + z) x else 0) = smI (List.range 12) (fun x => if memb V (o j) x && decide (i + 1 ≤ rk x) then a x else 0) + z := smI_upd List.nodup_range (List.mem_range.mpr hg) (by
            rw [hik, hk i hi, decide_eq_true (Nat.le_refl i), decide_eq_false (show ¬ i + 1 ≤ i by omega)]
            simp only [Bool.and_true, Bool.and_false, Bool.false_eq_true, if_true, if_false, Int32.zero_add]
            exact hvi) (fun x hx hxi => hterm x (List.mem_range.mp hx) hxi)
        rw [this, upd_s]
        have hj4 := f4 j (by omega)
        generalize smI (List.range 12) (fun x => if memb V (o j) x && decide (i + 1 ≤ rk x) then a x else 0) = X at hj4 ⊢
        rw [hj4, Int32.add_assoc, Int32.add_assoc, Int32.add_comm z]
      · rw [hv j (by omega) ej (by omega), f4 j (by omega)]
        congr 1
        refine smI_cong fun x hx => ?_
        by_cases hxi : x = o i
        · have hmf : memb V (o j) x = false := by
            cases hm : memb V (o j) x
            · rfl
            · rw [hxi] at hm
              have := memb_1 (hoi j (by omega)) hk12 hm hik
              exact absurd (inj j k (by omega) hkn this) ej
          rw [hmf]; rfl
        · exact (hterm x (List.mem_range.mp hx) hxi).symm
    · by_cases ey : y = o k
      · have h1 := isum_ge (f := fun j => (upd (upd a (o i) z) (o k) (a (o k) + z) (o j)).toInt) i hk' (fun j hj => by
          by_cases ej : j = k
          · subst ej; rw [upd_s, hadd]; omega
          · exact (hbd (o j) (by have := hoi j (by omega); omega) (fun q => ej (inj j k (by omega) hkn q))).1)
        rw [hsum] at h1
        rw [ey]
        refine ⟨by rw [upd_s, hadd]; omega, by omega⟩
      · exact hbd y hy ey
end ASKS2
