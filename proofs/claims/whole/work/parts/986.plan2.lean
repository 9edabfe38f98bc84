/-! units hang on few cells; Labour.plan at any time of a period -/
section CELLS
variable {V W : WV} {A G : Nat → Int32} {g : Nat}
theorem memb_e (h2 : W.1 2 = V.1 2) (h24 : W.1 24 = V.1 24) : memb W = memb V := by
  funext g y; unfold memb; rw [h2, h24]
theorem akW_e (h2 : W.1 2 = V.1 2) (h11 : W.1 11 = V.1 11) (h24 : W.1 24 = V.1 24) : akW W = akW V := by
  funext A G g y; unfold akW memW; rw [h2, h11, h24]
theorem sumW_e (h2 : W.1 2 = V.1 2) (h11 : W.1 11 = V.1 11) (h24 : W.1 24 = V.1 24) : sumW W = sumW V := by
  funext A G g; unfold sumW; rw [akW_e h2 h11 h24]
theorem bstW_e (h2 : W.1 2 = V.1 2) (h11 : W.1 11 = V.1 11) (h24 : W.1 24 = V.1 24) : bstW W = bstW V := by
  have e : bstS W = bstS V := by funext A G g c y; unfold bstS; rw [akW_e h2 h11 h24]
  funext A G g i; unfold bstW; rw [e]
theorem rnd_e (h2 : W.1 2 = V.1 2) (h11 : W.1 11 = V.1 11) (h24 : W.1 24 = V.1 24) : rnd W = rnd V := by
  have e : rndN W = rndN V := by funext A G g u y; unfold rndN; rw [akW_e h2 h11 h24, sumW_e h2 h11 h24]
  have e2 : rndG W = rndG V := by funext A G g u; unfold rndG; rw [e]
  funext A G g u; unfold rnd; rw [bstW_e h2 h11 h24, sumW_e h2 h11 h24, e, e2]
theorem prtF_e (h2 : W.1 2 = V.1 2) (h11 : W.1 11 = V.1 11) (h24 : W.1 24 = V.1 24) : ∀ (k : Nat) (u : Int32) (G : Nat → Int32), prtF W A g k u G = prtF V A g k u G
  | 0, _, _ => rfl
  | k + 1, u, G => by
    unfold prtF
    rw [rnd_e h2 h11 h24, prtF_e h2 h11 h24 k]
theorem FixG.e {c : Int32} (h2 : W.1 2 = V.1 2) (h11 : W.1 11 = V.1 11) (h24 : W.1 24 = V.1 24) (hF : FixG V A c G) : FixG W A c G := by
  obtain ⟨f1, f2, f3, f4, f5⟩ := hF
  refine ⟨f1, f2, f3, fun g hg ht y hy hm => ?_, fun y hy h0 h => ?_⟩
  · rw [memb_e h2 h24] at hm
    rw [thV_same h2] at ht
    rw [prtF_e h2 h11 h24]
    exact f4 g hg ht y hy hm
  · rw [memb_e h2 h24, thV_same h2] at h
    exact f5 y hy h0 h
theorem FixA.e (h2 : W.1 2 = V.1 2) (h12 : W.1 12 = V.1 12) (h17 : W.1 17 = V.1 17) (h24 : W.1 24 = V.1 24) (h30 : W.1 30 = V.1 30) (h31 : W.1 31 = V.1 31) (hF : FixA V A) : FixA W A := by
  have ex : xP W = xP V := by funext p; unfold xP; rw [phV_same h24, h30, h31]
  have ep : prS W = prS V := by funext g i; unfold prS; rw [memb_e h2 h24, ex]
  have ec : chS W = chS V := by funext A g; unfold chS; rw [memb_e h2 h24]
  have eq : qF W = qF V := by funext g s; unfold qF; rw [h12, h17]
  unfold FixA at hF ⊢
  rw [ex, ep, ec, eq, thV_same h2]; exact hF
end CELLS
section PLAN2
variable {V Q : WV} {n : Nat} {o rk : Nat → Nat} {w q : Nat} {P : WV → WV → Hp}
theorem c_quota2 (hP : L2 w q P) {g : Nat} (hg : g < 12) {s : Int32} (hs : s.toInt ≤ 15984) : ∃ x, F_X2_quotaLeft (P V Q) w (nI g) = some x ∧ mnI s x = qF (perV V) g s := by
  unfold F_X2_quotaLeft rmI qF
  have e7 : aR (P V Q) (w + 4) 15 7 = some (w + 12) := (hP.1 Q).lt.ldr (o := 4) (i := 7) (z := 12) (by decide) (by decide) rfl (by decide) (by decide) rfl
  have e12 : aI (P V Q) (w + 12) (nI g) = some (V.1 12 g) := (hP.1 Q).ldi (V := V) (o := 12) (by decide) (by decide) rfl (by decide) hg
  simp only [ol (hP.1 Q).lo, tl (hP.1 Q).lt, hg, Option.bind_some, e7, e12, if_neg (show ¬ (5 : Int32) = 0 by decide)]
  rw [per_c (k := 12) (by decide)]
  by_cases h : V.1 12 g = 99
  · rw [if_pos h, if_pos h]
    refine ⟨_, rfl, ?_⟩
    apply Int32.toInt_inj.mp
    rw [ti_mn]
    have : (15984 : Int32).toInt = 15984 := by decide
    omega
  · rw [if_neg h, if_neg h]
    by_cases hm : V.1 0 7 - V.1 0 7 / 5 * 5 = 0
    · rw [if_pos hm]
      refine ⟨_, rfl, ?_⟩
      have := per_per (V := V) (by rw [per_c (by decide)]; exact hm) g hg
      rw [this]
    · rw [if_neg hm]
      refine ⟨_, rfl, ?_⟩
      have : perV V = V := by unfold perV; rw [if_neg hm]
      rw [this]
theorem c_asks2' (hP : L2 w q P) (hO : OrdOK V n o) (hL : LimR V) (hk : ∀ i, i < n → rk (o i) = i) (hk2 : ∀ g, g < 12 → thV V g = true → rk g < n ∧ o (rk g) = g) (h : AskJ (perV V) n o rk n (Q.1 10)) : ∃ a, loopF (fun x => F_X2_collectAsks_L95 (q + 8) w x.1 x.2) 6000 (nI n - 1, P V Q) = some (P V (sx Q 10 a)) ∧ AskJ (perV V) n o rk 0 a := by
  have hn12 := hO.2.1
  have hth : thV (perV V) = thV V := thV_same (per_c (by decide))
  have hpfs : pfV (perV V) = pfV V := pfV_same (per_c (by decide))
  obtain ⟨a, ha, hI⟩ := loop_inv (st := fun x => F_X2_collectAsks_L95 (q + 8) w x.1 x.2) (fun t (a : Nat → Int32) => (nI (n - t) - 1, P V (sx Q 10 a))) (fun a => P V (sx Q 10 a)) (fun t a => AskJ (perV V) n o rk (n - t) a) n
    (fun t a ht hI => by
      obtain ⟨i, hi⟩ : ∃ i, n - t = i + 1 := ⟨n - t - 1, by omega⟩
      have hin : i < n := by omega
      have e1 : n - (t + 1) = i := by omega
      rw [hi] at hI
      rw [e1]
      refine ⟨askU (perV V) a (o i), ?_, ask_step (per_ord hO) (per_lim hL) hk (by rw [hth]; exact hk2) hin hI⟩
      show F_X2_collectAsks_L95 (q + 8) w (nI (n - t) - 1) (P V (sx Q 10 a)) = some (.inl (nI i - 1, P V (sx Q 10 (askU (perV V) a (o i)))))
      rw [hi, nI_m1]
      obtain ⟨ho12, ho3⟩ := hO.2.2.2.2.1 i hin
      have hi12 : i < 12 := by omega
      have ho28 : o i < 28 := by omega
      have e10 : ∀ f, (sx Q 10 f).1 10 = f := fun f => rfl
      obtain ⟨x, x1, x2⟩ := c_quota2 (V := V) (Q := sx Q 10 a) hP ho12 (hI.2.2.2.2.1 (o i) ho28).2
      have hneg : ¬ nI i < 0 := Int32.not_lt.mpr (nI_le (a := 0) (b := i) (Nat.zero_le _) (by omega))
      have hm1 : nI i + (-1) = nI i - 1 := (Int32.sub_eq_add_neg _ _).symm
      unfold F_X2_collectAsks_L95
      rw [if_neg hneg]
      simp only [fun R => ol (hP.1 R).lo, fun R => tl (hP.1 R).lt, ql (hP.2 V), hi12, ho3, ho28, Option.bind_some, x1, e10, x2, sx_sx, bl, hm1]
      rcases Nat.eq_zero_or_pos i with i0 | i0
      · subst i0
        have hpf : pfV (perV V) (o 0) = none := by rw [hpfs, hO.2.2.2.1]; exact hO.pf0
        have ea : askU (perV V) a (o 0) = upd a (o 0) (qF (perV V) (o 0) (a (o 0))) := by unfold askU; rw [hpf]
        have hz : nI (o 0) = 0 := by rw [hO.2.2.2.1]; rfl
        rw [if_pos hz, ea]
      · obtain ⟨k, hk', e, hpf, hk12⟩ := hO.pf i0 hin
        rw [← hpfs] at hpf
        have hz : ¬ nI (o i) = 0 := fun z => by
          have : o i = o 0 := by rw [hO.2.2.2.1]; exact (nI_eq (by omega) (by decide)).mp z
          have := hO.2.2.2.2.2.1 i 0 hin (by omega) this
          omega
        have ea : askU (perV V) a (o i) = upd (upd a (o i) (qF (perV V) (o i) (a (o i)))) (o k) (upd a (o i) (qF (perV V) (o i) (a (o i))) (o k) + upd a (o i) (qF (perV V) (o i) (a (o i))) (o i)) := by unfold askU; rw [hpf]
        have hk28 : o k < 28 := by omega
        rw [if_neg hz, ea]
        simp only [fun R => ol (hP.1 R).lo, fun R => tl (hP.1 R).lt, ql (hP.2 V), ho12, ho28, hk28, e, Option.bind_some, e10, sx_sx, bl])
    (fun a hI => by
      show F_X2_collectAsks_L95 (q + 8) w (nI (n - n) - 1) (P V (sx Q 10 a)) = _
      unfold F_X2_collectAsks_L95
      rw [Nat.sub_self, if_pos (show nI 0 - 1 < 0 by decide)])
    n 0 6000 (Q.1 10) (by omega) (by omega) h
  rw [Nat.sub_self] at hI
  refine ⟨a, ?_, hI⟩
  rw [← ha]
  show _ = loopF _ 6000 (nI (n - 0) - 1, P V (sx Q 10 (Q.1 10)))
  rw [sx_id, Nat.sub_zero]
theorem aski_e {W : WV} (h2 : W.1 2 = V.1 2) (h24 : W.1 24 = V.1 24) (h30 : W.1 30 = V.1 30) (h31 : W.1 31 = V.1 31) {i : Nat} {a : Nat → Int32} (h : AskI V i a) : AskI W i a := by
  have ex : xP W = xP V := by funext p; unfold xP; rw [phV_same h24, h30, h31]
  have ep : prS W = prS V := by funext g i; unfold prS; rw [memb_e h2 h24, ex]
  unfold AskI at h ⊢
  rw [ex, ep]; exact h
theorem c_collect2 (hP : L2 w q P) (hO : OrdOK V n o) (hH : HomOK V) (hL : LimR V) (hT : TdB V) : ∃ A, F_X2_collectAsks (P V Q) (q + 8) w = some (P V (sx Q 10 A)) ∧ FixA (perV V) A := by
  obtain ⟨rk, hk1, hk2⟩ := hO.rk
  have hth : thV (perV V) = thV V := thV_same (per_c (by decide))
  have hfill : F_J7_fill_53178 (P V Q) (q + 10) 0 = some (P V (sx Q 10 (fun i => if i < 28 then 0 else Q.1 10 i))) := s_fill (hP.2 V) (o := 10) (by decide) (by decide) (len := 28) rfl (by decide) Q 0
  obtain ⟨a, a1, a2⟩ := c_asks1 (Q := sx Q 10 (fun i => if i < 28 then 0 else Q.1 10 i)) hP hH (fun y hy => by
    show (if y < 28 then (0 : Int32) else Q.1 10 y) = _
    rw [if_pos hy]
    by_cases h12 : y < 12
    · rw [if_pos h12]; rfl
    · rw [if_neg h12, if_neg (Nat.not_lt_zero _)])
  rw [sx_sx] at a1
  have a2' : AskI (perV V) 16 a := aski_e (per_c (by decide)) (per_c (by decide)) (per_c (by decide)) (per_c (by decide)) a2
  obtain ⟨A, b1, b2⟩ := c_asks2' (Q := sx Q 10 a) hP hO hL hk1 hk2 (ask_begin (per_ord hO) (per_hom hH) (per_td hT) (by rw [hth]; exact hk2) a2')
  rw [sx_sx] at b1
  refine ⟨A, ?_, ask_end (per_ord hO) b2⟩
  unfold F_X2_collectAsks
  simp only [ql (hP.2 V), hfill, Option.bind_some, a1, ol (hP.1 (sx Q 10 a)).lo, tl (hP.1 (sx Q 10 a)).lt, hO.2.2.1, bl, b1]
/-- what the class's plan lays: asks and gets, by the World at the next tick's begin -/
theorem c_plan2 (hP : L2 w q P) (hO : OrdOK V n o) (hH : HomOK V) (hL : LimR V) (hT : TdB V) (hc : 0 ≤ (V.1 0 6).toInt ∧ (V.1 0 6).toInt ≤ 99) : ∃ A G, F_X2_plan (P V Q) (q + 8) w = some (P V (sx (sx Q 10 A) 9 G)) ∧ FixA (perV V) A ∧ FixG (perV V) A (mnI (V.1 0 6) (A 0)) G := by
  obtain ⟨A, a1, a2⟩ := c_collect2 (Q := Q) hP hO hH hL hT
  obtain ⟨-, -, -, hb⟩ := id a2
  have hfill : F_J7_fill_53178 (P V (sx Q 10 A)) (q + 9) 0 = some (P V (sx (sx Q 10 A) 9 (fun i => if i < 28 then 0 else Q.1 9 i))) := s_fill (hP.2 V) (o := 9) (by decide) (by decide) (len := 28) rfl (by decide) (sx Q 10 A) 0
  obtain ⟨G0, hG0⟩ : ∃ G0, G0 = upd (fun i => if i < 28 then 0 else Q.1 9 i) 0 (mnI (V.1 0 6) (A 0)) := ⟨_, rfl⟩
  have g0 : G0 0 = mnI (V.1 0 6) (A 0) := by rw [hG0, upd_s]
  have g1 : ∀ y, y < 28 → y ≠ 0 → G0 y = 0 := fun y hy h0 => by rw [hG0, upd_ne _ _ h0]; exact if_pos hy
  have hI : FixI V A (mnI (V.1 0 6) (A 0)) o 0 G0 := by
    refine ⟨g0, fun y hy => ?_, fun y hy => ?_, fun j hj => absurd hj (Nat.not_lt_zero _), fun y hy h0 _ => g1 y hy h0⟩
    · have := hb y hy
      by_cases e : y = 0
      · subst e; rw [g0, ti_mn]; omega
      · rw [g1 y hy e, ti_0]; omega
    · by_cases e : y = 0
      · subst e; rw [g0, ti_mn]; omega
      · rw [g1 y hy e, ti_0]; omega
  obtain ⟨G, b1, b2⟩ := c_gets (Q := sx (sx Q 10 A) 9 G0) hP hO hL (c := mnI (V.1 0 6) (A 0)) hI
  rw [sx_sx] at b1
  refine ⟨A, G, ?_, a2, FixG.e (per_c (by decide)) (per_c (by decide)) (per_c (by decide)) b2⟩
  have e10 : ∀ f, (sx (sx Q 10 A) 9 f).1 10 = A := fun f => rfl
  have e9 : ∀ f, (sx (sx Q 10 A) 9 f).1 9 = f := fun f => rfl
  have l0 : ∀ R : WV, aI (P V R) (q + 10) 0 = some (R.1 10 0) := fun R => (hP.2 V).ldi (V := R) (o := 10) (i := 0) (by decide) (by decide) rfl (by decide) (by decide)
  have s0 : ∀ (R : WV) (x : Int32), sI (P V R) (q + 9) 0 x = some (P V (sx R 9 (upd (R.1 9) 0 x))) := fun R x => (hP.2 V).sti (V := R) (o := 9) (i := 0) (by decide) (by decide) rfl (by decide) (by decide)
  unfold F_X2_plan
  simp only [ql (hP.2 V), a1, hfill, Option.bind_some, fun R => ol (hP.1 R).lo, l0, s0, e10, e9, sx_sx, ← hG0, b1]
end PLAN2
