/-! who asks for how many units: the class, the whole of it -/
/-- what is to be done is a number that can be -/
def TdB (V : WV) : Prop := ∀ p, p < 16 → phV V p = true → 0 ≤ (V.1 31 p).toInt ∧ (V.1 31 p).toInt ≤ 999
/-- the units of a period are forgotten at its begin -/
def Per (V : WV) : Prop := V.1 0 7 - V.1 0 7 / 5 * 5 = 0 → ∀ g, g < 12 → V.1 17 g = 0
section ASKS3
variable {V Q : WV} {n : Nat} {o rk : Nat → Nat} {w q : Nat} {P : WV → WV → Hp}
theorem nI_m1 (i : Nat) : nI (i + 1) - 1 = nI i := by
  rw [← nI_1, Int32.add_sub_cancel]
theorem xP_bd (hT : TdB V) {p : Nat} (hp : p < 16) : 0 ≤ (xP V p).toInt ∧ (xP V p).toInt ≤ 999 := by
  unfold xP
  cases hph : phV V p
  · rw [Bool.false_and, if_neg (by decide), ti_0]; omega
  · rw [Bool.true_and]
    by_cases h : V.1 30 p = 0
    · rw [decide_eq_true h, if_pos rfl]; exact hT p hp hph
    · rw [decide_eq_false h, if_neg (by decide), ti_0]; omega
theorem prS_bd (hT : TdB V) (g : Nat) {i : Nat} (hi : i ≤ 16) : 0 ≤ (prS V g i).toInt ∧ (prS V g i).toInt ≤ 15984 := by
  have h := smI_bd (f := fun p => if memb V g (12 + p) then xP V p else 0) (B := 999) (List.range i) (fun p hp => by
    have := List.mem_range.mp hp
    have hx := xP_bd hT (show p < 16 by omega)
    cases memb V g (12 + p)
    · simp only [Bool.false_eq_true, if_false, ti_0]; omega
    · simp only [if_true]; omega) (by rw [List.length_range]; omega)
  rw [List.length_range] at h
  unfold prS
  omega
theorem prS_sum (hO : OrdOK V n o) (hH : HomOK V) (hT : TdB V) : ∀ i, i ≤ 16 → isum n (fun j => (prS V (o j) i).toInt) ≤ 999 * i
  | 0, _ => by
    have : isum n (fun j => (prS V (o j) 0).toInt) ≤ isum n (fun _ => 0) := isum_le n fun j _ => by
      show (0 : Int32).toInt ≤ 0
      rw [ti_0]; omega
    have h2 : ∀ m, isum m (fun _ => (0 : Int)) = 0 := by
      intro m
      induction m with
      | zero => rfl
      | succ m ih => show isum m (fun _ => (0 : Int)) + 0 = 0; omega
    have := h2 n
    omega
  | i + 1, hi => by
    have ih := prS_sum hO hH hT i (by omega)
    have hx := xP_bd hT (show i < 16 by omega)
    have hs : ∀ j, prS V (o j) (i + 1) = prS V (o j) i + (if memb V (o j) (12 + i) then xP V i else 0) := fun j => by
      unfold prS; rw [smI_succ]
    by_cases hex : ∃ j, j < n ∧ memb V (o j) (12 + i) = true
    · obtain ⟨k, hk, hm⟩ := hex
      have : isum n (fun j => (prS V (o j) (i + 1)).toInt) = isum n (fun j => (prS V (o j) i).toInt) + (xP V i).toInt := isum_upd (k := k) n hk (by
        have hb := prS_bd hT (o k) (i := i) (by omega)
        rw [hs k, hm, if_pos rfl, ti_add (by omega) (by omega)]) (fun j hj hjk => by
        have hf : memb V (o j) (12 + i) = false := by
          cases q : memb V (o j) (12 + i)
          · rfl
          · have := memb_1 (hO.2.2.2.2.1 j hj).1 (hO.2.2.2.2.1 k hk).1 q hm
            exact absurd (hO.2.2.2.2.2.1 j k hj hk this) hjk
        rw [hs j, hf, if_neg (by decide), Int32.add_zero])
      rw [this]; omega
    · have : isum n (fun j => (prS V (o j) (i + 1)).toInt) = isum n (fun j => (prS V (o j) i).toInt) := isum_cong n fun j hj => by
        have hf : memb V (o j) (12 + i) = false := by
          cases q : memb V (o j) (12 + i)
          · rfl
          · exact absurd ⟨j, hj, q⟩ hex
        rw [hs j, hf, if_neg (by decide), Int32.add_zero]
      rw [this]; omega
theorem ask_begin (hO : OrdOK V n o) (hH : HomOK V) (hT : TdB V) (hk2 : ∀ g, g < 12 → thV V g = true → rk g < n ∧ o (rk g) = g) {a : Nat → Int32} (h : AskI V 16 a) : AskJ V n o rk n a := by
  have hg : ∀ g, g < 12 → a g = prS V g 16 := fun g hg => by rw [h g (by omega), if_pos hg]
  have hp : ∀ p, p < 16 → a (12 + p) = xP V p := fun p hp => by
    rw [h (12 + p) (by omega), if_neg (by omega), show 12 + p - 12 = p by omega, if_pos hp]
  have hoi : ∀ j, j < n → o j < 12 := fun j hj => (hO.2.2.2.2.1 j hj).1
  refine ⟨hp, fun g hg' ht => ?_, fun j h1 h2 => absurd h1 (by omega), fun j hj => ?_, fun y hy => ?_, ?_⟩
  · rw [hg g hg']
    unfold prS
    have : smI (List.range 16) (fun p => if memb V g (12 + p) then xP V p else 0) = smI (List.range 16) (fun _ => 0) := smI_cong fun p hp' => by
      cases hm : memb V g (12 + p)
      · rfl
      · have hp16 := List.mem_range.mp hp'
        obtain ⟨a1, a2⟩ := memb_sp hg' (show 12 + p < 28 by omega) (by omega) hm
        obtain ⟨s1, s2⟩ := aliv_seat hH (show 12 + p < 28 by omega) a1
        rw [a2, ht] at s2; cases s2
    rw [this, smI_zero]
  · have : smI (List.range 12) (fun e => if memb V (o j) e && decide (n ≤ rk e) then a e else 0) = smI (List.range 12) (fun _ => 0) := smI_cong fun e he => by
      cases hm : memb V (o j) e
      · rfl
      · have he12 := List.mem_range.mp he
        have := (hk2 e he12 (memb_th (hoi j hj) he12 hm)).1
        rw [decide_eq_false (show ¬ n ≤ rk e by omega)]; rfl
    rw [this, smI_zero, Int32.zero_add]
    exact hg _ (hoi j hj)
  · by_cases h12 : y < 12
    · rw [hg y h12]; exact prS_bd hT y (by omega)
    · obtain ⟨p, rfl⟩ : ∃ p, y = 12 + p := ⟨y - 12, by omega⟩
      have := xP_bd hT (show p < 16 by omega)
      rw [hp p (by omega)]; omega
  · have h1 := prS_sum hO hH hT 16 (Nat.le_refl _)
    have h2 : isum n (fun j => (a (o j)).toInt) = isum n (fun j => (prS V (o j) 16).toInt) := isum_cong n fun j hj => by rw [hg _ (hoi j hj)]
    rw [h2]; omega
theorem ask_end (hO : OrdOK V n o) {a : Nat → Int32} (h : AskJ V n o rk 0 a) : FixA V a := by
  obtain ⟨f1, f2, f3, f4, f5, f6⟩ := h
  refine ⟨f1, fun g hg ht => ?_, f2, f5⟩
  obtain ⟨i, hi, e⟩ := hO.2.2.2.2.2.2.2.2 g hg (by simpa [thV] using ht)
  subst e
  exact f3 i (Nat.zero_le _) hi
theorem c_asks2 (hP : L2 w q P) (hO : OrdOK V n o) (hL : LimR V) (h5 : Per V) (hk : ∀ i, i < n → rk (o i) = i) (hk2 : ∀ g, g < 12 → thV V g = true → rk g < n ∧ o (rk g) = g) (h : AskJ V n o rk n (Q.1 10)) : ∃ a, loopF (fun x => F_X2_collectAsks_L95 (q + 8) w x.1 x.2) 6000 (nI n - 1, P V Q) = some (P V (sx Q 10 a)) ∧ AskJ V n o rk 0 a := by
  have hn12 := hO.2.1
  obtain ⟨a, ha, hI⟩ := loop_inv (st := fun x => F_X2_collectAsks_L95 (q + 8) w x.1 x.2) (fun t (a : Nat → Int32) => (nI (n - t) - 1, P V (sx Q 10 a))) (fun a => P V (sx Q 10 a)) (fun t a => AskJ V n o rk (n - t) a) n
    (fun t a ht hI => by
      obtain ⟨i, hi⟩ : ∃ i, n - t = i + 1 := ⟨n - t - 1, by omega⟩
      have hin : i < n := by omega
      have e1 : n - (t + 1) = i := by omega
      rw [hi] at hI
      rw [e1]
      refine ⟨askU V a (o i), ?_, ask_step hO hL hk hk2 hin hI⟩
      show F_X2_collectAsks_L95 (q + 8) w (nI (n - t) - 1) (P V (sx Q 10 a)) = some (.inl (nI i - 1, P V (sx Q 10 (askU V a (o i)))))
      rw [hi, nI_m1]
      obtain ⟨ho12, ho3⟩ := hO.2.2.2.2.1 i hin
      have hi12 : i < 12 := by omega
      have ho28 : o i < 28 := by omega
      have e10 : ∀ f, (sx Q 10 f).1 10 = f := fun f => rfl
      obtain ⟨x, x1, x2⟩ := c_quota (V := V) (Q := sx Q 10 a) hP ho12 (fun z => h5 z _ ho12) (hI.2.2.2.2.1 (o i) ho28).2
      have hneg : ¬ nI i < 0 := Int32.not_lt.mpr (nI_le (a := 0) (b := i) (Nat.zero_le _) (by omega))
      have hm1 : nI i + (-1) = nI i - 1 := (Int32.sub_eq_add_neg _ _).symm
      unfold F_X2_collectAsks_L95
      rw [if_neg hneg]
      simp only [fun R => ol (hP.1 R).lo, fun R => tl (hP.1 R).lt, ql (hP.2 V), hi12, ho3, ho28, Option.bind_some, x1, e10, x2, sx_sx, bl, hm1]
      rcases Nat.eq_zero_or_pos i with i0 | i0
      · subst i0
        have hpf : pfV V (o 0) = none := by rw [hO.2.2.2.1]; exact hO.pf0
        have ea : askU V a (o 0) = upd a (o 0) (qF V (o 0) (a (o 0))) := by unfold askU; rw [hpf]
        have hz : nI (o 0) = 0 := by rw [hO.2.2.2.1]; rfl
        rw [if_pos hz, ea]
      · obtain ⟨k, hk', e, hpf, hk12⟩ := hO.pf i0 hin
        have hz : ¬ nI (o i) = 0 := fun z => by
          have : o i = o 0 := by rw [hO.2.2.2.1]; exact (nI_eq (by omega) (by decide)).mp z
          have := hO.2.2.2.2.2.1 i 0 hin (by omega) this
          omega
        have ea : askU V a (o i) = upd (upd a (o i) (qF V (o i) (a (o i)))) (o k) (upd a (o i) (qF V (o i) (a (o i))) (o k) + upd a (o i) (qF V (o i) (a (o i))) (o i)) := by unfold askU; rw [hpf]
        have hk28 : o k < 28 := by omega
        rw [if_neg hz, ea]
        simp only [fun R => ol (hP.1 R).lo, fun R => tl (hP.1 R).lt, ql (hP.2 V), ho12, ho28, hk28, e, Option.bind_some, e10, sx_sx, bl])
    (fun a hI => by
      show F_X2_collectAsks_L95 (q + 8) w (nI (n - n) - 1) (P V (sx Q 10 a)) = _
      unfold F_X2_collectAsks_L95
      rw [Nat.sub_self, if_pos (show nI 0 - 1 < 0 by decide)])
    n 0 6000 (Q.1 10) (by omega) (by omega) h
  rw [Nat.sub_self] at hI
  refine ⟨a, ?_, hI⟩
  rw [← ha]
  show _ = loopF _ 6000 (nI (n - 0) - 1, P V (sx Q 10 (Q.1 10)))
  rw [sx_id, Nat.sub_zero]
end ASKS3
