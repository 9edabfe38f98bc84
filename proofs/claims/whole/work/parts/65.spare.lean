section SPARE
variable {V Q : WV} {n : Nat} {o : Nat → Nat} {w q : Nat} {P : WV → WV → Hp}
def SwLe (V : WV) (g : Nat) (z : Int32) : Prop := z ≤ V.1 0 5 - V.1 16 0 ∧ ∀ x ∈ pth (pfV V) g, z ≤ mxI 0 (V.1 10 x - V.1 16 x)
def UnLe (V : WV) (lv r g : Nat) (z : Int32) : Prop := z ≤ 999 ∧ ∀ x ∈ pth (pfV V) g, blw (pfV V) r x = true → x ≠ r → z ≤ V.1 15 x - shr V lv r x
theorem pth_o (hO : OrdOK V n o) {i j : Nat} (hi : i < n) (hpf : pfV V (o i) = some (o j)) : pth (pfV V) (o i) = o i :: pth (pfV V) (o j) := by
  rw [pth_cons hO.tree (hO.2.2.2.2.1 i hi).1 (hO.th hi), hpf]
theorem c_swap (hP : L2 w q P) (hO : OrdOK V n o) (Q : WV) : ∃ Q', F_X5_measureSwap (P V Q) q w = some (P V Q') ∧ (∀ c, c ≠ 6 → Q'.1 c = Q.1 c) ∧ ∀ g, g < 12 → thV V g = true → ∀ z, z ≤ Q'.1 6 g ↔ SwLe V g z := by
  obtain ⟨h1, h2, h3, h4, h5, h6, h7, h8, h9⟩ := id hO
  obtain ⟨rk, hk1, hk2⟩ := hO.rk
  obtain ⟨Q1, a1, b1, b2⟩ := loop_inv (st := fun x => F_X5_measureSwap_L7 q w (w + 1) x.1 x.2) (fun i (a : WV) => (nI i, P V a)) (fun a => P V a)
    (fun i a => (∀ c, c ≠ 6 → a.1 c = Q.1 c) ∧ (∀ k, k < i → ∀ z, z ≤ a.1 6 (o k) ↔ SwLe V (o k) z)) n
    (fun i a hi hI => by
      obtain ⟨i1, i2⟩ := hI
      have hi12 : i < 12 := by omega
      have ho12 := (h5 i hi).1
      have e5 : aR (P V a) (w + 4) 15 5 = some (w + (5 + 5)) := (tl (hP.1 a).lt).2.2.2.2.2.2.2.2.2.2.2.2.2.2.2.2.2.2.2.2.2.2.2.1 V 5 (by decide)
      have e10 : aI (P V a) (w + (5 + 5)) (nI (o i)) = some (V.1 10 (o i)) := (tl (hP.1 a).lt).2.2.2.2.2.2.2.2.2.2.2.2.2.2.2.2.2.2.2.2.2.2.2.2.1 V 5 (o i) (by decide) ho12
      have e16 : aI (P V a) (w + 16) 0 = some (V.1 16 0) := by
        have : aI (P V a) (w + 16) (nI 0) = some (V.1 16 0) := by simp only [tl (hP.1 a).lt, (by decide : 0 < 12)]
        exact this
      have hup : ∀ x : Int32, (∀ c, c ≠ 6 → (sx a 6 (upd (a.1 6) (o i) x)).1 c = Q.1 c) := fun x c hc => by
        rw [sx_1, up_n _ _ hc]; exact i1 c hc
      have hnew : ∀ x : Int32, (∀ z, z ≤ x ↔ SwLe V (o i) z) → ∀ k, k < i + 1 → ∀ z, z ≤ (sx a 6 (upd (a.1 6) (o i) x)).1 6 (o k) ↔ SwLe V (o k) z := fun x hx k k1 z => by
        show z ≤ upd (a.1 6) (o i) x (o k) ↔ _
        by_cases ek : k = i
        · subst ek; rw [upd_s]; exact hx z
        · rw [upd_ne _ _ (fun z => ek (h6 k i (by omega) hi z))]
          exact i2 k (by omega) z
      rcases Nat.eq_zero_or_pos i with z0 | z0
      · subst z0
        have hz : nI (o 0) = 0 := by rw [h4]; rfl
        refine ⟨sx a 6 (upd (a.1 6) (o 0) (mnI (V.1 0 5 - V.1 16 0) (mxI 0 (V.1 10 (o 0) - V.1 16 (o 0))))), ?_, hup _, hnew _ ?_⟩
        · show F_X5_measureSwap_L7 q w (w + 1) (nI 0) (P V a) = _
          unfold F_X5_measureSwap_L7
          simp only [tl (hP.1 a).lt, ol (hP.1 a).lo, ql (hP.2 V), Option.bind_some, h3, if_neg (nI_ge hi (by omega)), hi12, (h5 0 hi).2, ho12, if_pos hz, e5, e10, e16, bl, nI_1]
        · intro z
          rw [le_mn, h4]
          unfold SwLe
          rw [pth_0 hO.tree]
          simp
      · obtain ⟨j, hj, e, hpf, hj12⟩ := hO.pf z0 hi
        have hz : ¬ nI (o i) = 0 := fun z => by
          have : o i = o 0 := by rw [h4]; exact (nI_eq (by omega) (by decide)).mp z
          have := h6 i 0 hi (by omega) this
          omega
        refine ⟨sx a 6 (upd (a.1 6) (o i) (mnI (a.1 6 (o j)) (mxI 0 (V.1 10 (o i) - V.1 16 (o i))))), ?_, hup _, hnew _ ?_⟩
        · show F_X5_measureSwap_L7 q w (w + 1) (nI i) (P V a) = _
          unfold F_X5_measureSwap_L7
          simp only [tl (hP.1 a).lt, ol (hP.1 a).lo, ql (hP.2 V), Option.bind_some, h3, if_neg (nI_ge hi (by omega)), hi12, (h5 i hi).2, ho12, if_neg hz, e, hj12, e5, e10, bl, nI_1]
        · intro z
          rw [le_mn, i2 j hj z]
          unfold SwLe
          rw [pth_o hO hi hpf, List.forall_mem_cons, and_assoc]
          constructor
          · rintro ⟨p1, p2, p3⟩; exact ⟨p1, p3, p2⟩
          · rintro ⟨p1, p2, p3⟩; exact ⟨p1, p3, p2⟩)
    (fun a hI => by
      show F_X5_measureSwap_L7 q w (w + 1) (nI n) (P V a) = _
      unfold F_X5_measureSwap_L7
      simp only [tl (hP.1 a).lt, Option.bind_some, h3]
      rw [if_pos (nI_le (Nat.le_refl _) (by omega))])
    n 0 6000 Q (by omega) (by omega) ⟨fun _ _ => rfl, fun k k1 => by omega⟩
  refine ⟨Q1, ?_, b1, fun g hg ht z => ?_⟩
  · unfold F_X5_measureSwap
    have a1' : loopF (fun x => F_X5_measureSwap_L7 q w (w + 1) x.1 x.2) 6000 (0, P V Q) = some (P V Q1) := a1
    simp only [ol (hP.1 Q).lo, Option.bind_some, a1']
  · obtain ⟨q1, q2⟩ := hk2 g hg ht
    have := b2 (rk g) q1 z
    rw [q2] at this; exact this
theorem c_sum (hP : L2 w q P) (hH : HomOK V) {k : Nat} (hk : k < 2) (Q : WV) : ∃ Q', F_X0_sumByGroup (P V Q) (w + 23) (nI k) (q + 2) = some (P V Q') ∧ (∀ c, c ≠ 2 → Q'.1 c = Q.1 c) ∧ ∀ g, g < 12 → Q'.1 2 g = pgIn V (nI g) k := by
  obtain ⟨Q1, a1, b1, b2⟩ := loop_inv (st := fun x => F_X0_sumByGroup_L7 (w + 23) (nI k) (q + 2) x.1 x.2) (fun i (a : WV) => (nI i, P V a)) (fun a => P V a)
    (fun i a => (∀ c, c ≠ 2 → a.1 c = Q.1 c) ∧ (∀ g, g < 12 → a.1 2 g = smI (List.range i) (fun p => if V.1 24 p = nI g then V.1 (27 + k) p else 0))) 16
    (fun i a hi hI => by
      obtain ⟨i1, i2⟩ := hI
      cases ht : phV V i
      · have em : V.1 24 i = -1 := by simpa [phV] using ht
        refine ⟨a, ?_, i1, fun g hg => ?_⟩
        · show F_X0_sumByGroup_L7 (w + 23) (nI k) (q + 2) (nI i) (P V a) = _
          unfold F_X0_sumByGroup_L7
          rw [h16I, if_neg (nI_ge hi (by decide))]
          simp only [cl (hP.1 a).lc, hi, Option.bind_some, em, if_true, bl, nI_1]
        · have e2 : ¬ (-1 : Int32) = nI g := (nI_ne1 (by omega)).symm
          rw [smI_succ, em, if_neg e2, Int32.add_zero]; exact i2 g hg
      · obtain ⟨q1, q2, q3⟩ := hH.at hi ht
        have em : ¬ V.1 24 i = -1 := by simpa [phV] using ht
        have em' : ¬ nI (hom V i) = -1 := by rw [← q3]; exact em
        refine ⟨sx a 2 (upd (a.1 2) (hom V i) (a.1 2 (hom V i) + V.1 (27 + k) i)), ?_, fun c hc => by rw [sx_1, up_n _ _ hc]; exact i1 c hc, fun g hg => ?_⟩
        · show F_X0_sumByGroup_L7 (w + 23) (nI k) (q + 2) (nI i) (P V a) = _
          unfold F_X0_sumByGroup_L7
          rw [h16I, if_neg (nI_ge hi (by decide))]
          simp only [cl (hP.1 a).lc, ql (hP.2 V), hi, hk, Option.bind_some, q3, if_neg em', q1, bl, nI_1]
        · show upd (a.1 2) (hom V i) (a.1 2 (hom V i) + V.1 (27 + k) i) g = _
          rw [smI_succ, q3]
          by_cases eg : g = hom V i
          · rw [← eg, upd_s, if_pos rfl, i2 g hg]
          · rw [upd_ne _ _ eg, if_neg (fun z => eg ((nI_eq (by omega) (by omega)).mp z).symm), i2 g hg, Int32.add_zero])
    (fun a hI => by
      show F_X0_sumByGroup_L7 (w + 23) (nI k) (q + 2) (nI 16) (P V a) = _
      unfold F_X0_sumByGroup_L7
      rw [h16I, if_pos (nI_le (Nat.le_refl _) (by decide))])
    16 0 6000 (sx Q 2 (fun i => if i < 12 then 0 else Q.1 2 i)) (by decide) (by decide) ⟨fun c hc => up_n _ _ hc, fun g hg => by
      show (if g < 12 then 0 else Q.1 2 g) = 0
      rw [if_pos hg]⟩
  refine ⟨Q1, ?_, b1, b2⟩
  unfold F_X0_sumByGroup
  have hfill : F_J7_fill_53178 (P V Q) (q + 2) 0 = some (P V (sx Q 2 (fun i => if i < 12 then 0 else Q.1 2 i))) := s_fill (hP.2 V) (o := 2) (by decide) (by decide) (len := 12) rfl (by decide) Q 0
  have a1' : loopF (fun x => F_X0_sumByGroup_L7 (w + 23) (nI k) (q + 2) x.1 x.2) 6000 (0, P V (sx Q 2 (fun i => if i < 12 then 0 else Q.1 2 i))) = some (P V Q1) := a1
  rw [hfill, Option.bind_some, a1', Option.bind_some]
theorem pgIn_free (hH : HomOK V) {g : Nat} (hg : g < 12) (ht : thV V g = false) (k : Nat) : pgIn V (nI g) k = 0 := by
  have : pgIn V (nI g) k = smI (List.range 16) (fun _ => 0) := smI_cong fun p hp => by
    by_cases e : V.1 24 p = nI g
    · have hph : phV V p = true := by
        simp only [phV, e]
        exact decide_eq_true (nI_ne1 (by omega))
      obtain ⟨q1, q2, q3⟩ := hH.at (List.mem_range.mp hp) hph
      rw [e] at q3
      have : g = hom V p := (nI_eq (by omega) (by omega)).mp q3
      rw [this, q2] at ht; cases ht
    · rw [if_neg e]
  rw [this, smI_zero]
theorem c_spares (hP : L2 w q P) (hO : OrdOK V n o) (hH : HomOK V) {r lv k : Nat} (hr : r < 12) (ht : thV V r = true) (hlv : lv < 2) (hk : k < 2) (hB : ∀ g, g < 12 → (pgIn V (nI g) k).toInt ≤ 999) (Q : WV) : ∃ Q', F_X5_measureSpares (P V Q) q w (nI r) (nI lv) (nI k) = some (P V Q') ∧ ∀ g, g < 12 → Q'.1 2 g = if thV V g && blw (pfV V) r g then sprF V lv r k g else 0 := by
  obtain ⟨h1, h2, h3, h4, h5, h6, h7, h8, h9⟩ := id hO
  obtain ⟨rk, hk1, hk2⟩ := hO.rk
  obtain ⟨Q1, p1, p2, p3⟩ := c_part hP hO hr ht hlv Q
  obtain ⟨Q2, s1, s2, s3⟩ := c_swap hP hO Q1
  obtain ⟨Q3, t1, t2, t3⟩ := c_sum hP hH hk Q2
  have hsh : ∀ g, g < 12 → thV V g = true → blw (pfV V) r g = true → g ≠ r → Q3.1 1 g = shr V lv r g := fun g a1 a2 a3 a4 => by
    rw [t2 1 (by decide), s2 1 (by decide)]; exact p3 g a1 a2 a3 a4
  have hsw : ∀ g, g < 12 → thV V g = true → ∀ z, z ≤ Q3.1 6 g ↔ SwLe V g z := fun g a1 a2 => by
    rw [t2 6 (by decide)]; exact s3 g a1 a2
  obtain ⟨Q4, a4, b1, b2, b3, b4⟩ := loop_inv (st := fun x => F_X5_measureSpares_L42 q (nI r) (nI k) (w + 1) (mkB 12 (fun g => thV V g && blw (pfV V) r g)) x.1 x.2) (fun i (a : WV) => (nI i, P V a)) (fun a => P V a)
    (fun i a => (∀ c, c ≠ 2 → c ≠ 5 → a.1 c = Q3.1 c) ∧ (∀ m, m < i → blw (pfV V) r (o m) = true → ∀ z, z ≤ a.1 5 (o m) ↔ UnLe V lv r (o m) z) ∧ (∀ m, m < i → a.1 2 (o m) = if blw (pfV V) r (o m) then sprF V lv r k (o m) else 0) ∧ (∀ g, g < 12 → (∀ m, m < i → o m ≠ g) → a.1 2 g = pgIn V (nI g) k)) n
    (fun i a hi hI => by
      obtain ⟨i1, i2, i3, i4⟩ := hI
      have hi12 : i < 12 := by omega
      have ho12 := (h5 i hi).1
      have hbt : bt (mkB 12 (fun g => thV V g && blw (pfV V) r g)) (o i) = blw (pfV V) r (o i) := by
        rw [bt_mkB (by decide) (by omega)]; simp [ho12, hO.th hi]
      have hoi : ∀ m, m < i → o m ≠ o i := fun m hm e => by have := h6 m i (by omega) hi e; omega
      cases hb : blw (pfV V) r (o i)
      · refine ⟨sx a 2 (upd (a.1 2) (o i) 0), ?_, ?_, ?_, ?_, ?_⟩
        · show F_X5_measureSpares_L42 q (nI r) (nI k) (w + 1) _ (nI i) (P V a) = _
          unfold F_X5_measureSpares_L42
          simp only [tl (hP.1 a).lt, ql (hP.2 V), Option.bind_some, h3, if_neg (nI_ge hi (by omega)), hi12, (h5 i hi).2, ho12, if_pos ((bit_no (by omega)).mpr (hbt.trans hb)), bl, nI_1]
        · intro c c2 c5; rw [sx_1, up_n _ _ c2]; exact i1 c c2 c5
        · intro m hm hbm z
          by_cases em : m = i
          · subst em; rw [hb] at hbm; cases hbm
          · exact i2 m (by omega) hbm z
        · intro m hm
          show upd (a.1 2) (o i) 0 (o m) = _
          by_cases em : m = i
          · subst em; rw [upd_s, hb]; rfl
          · rw [upd_ne _ _ (hoi m (by omega))]; exact i3 m (by omega)
        · intro g hg hm
          show upd (a.1 2) (o i) 0 g = _
          rw [upd_ne _ _ (fun e => hm i (by omega) e.symm)]
          exact i4 g hg (fun m h => hm m (by omega))
      · have hnb : ¬ (mkB 12 (fun g => thV V g && blw (pfV V) r g) >>> (nI (o i) &&& 31)) &&& 1 = 0 := fun z => by
          rw [bit_no (by omega), hbt, hb] at z; cases z
        have hpg : a.1 2 (o i) = pgIn V (nI (o i)) k := i4 _ ho12 (fun m hm => hoi m hm)
        -- what is not protected
        obtain ⟨x, hx, hun⟩ : ∃ x : Int32, (if nI (o i) = nI r then some (999 : Int32) else (gR (P V a) q 5 4).bind fun a26 => (gR (P V a) (w + 1) 6 0).bind fun a27 => (aI (P V a) a27 (nI (o i))).bind fun v28 => (aI (P V a) a26 v28).bind fun v29 => some (mnI v29 (V.1 15 (o i) - a.1 1 (o i)) : Int32)) = some x ∧ ∀ z, z ≤ x ↔ UnLe V lv r (o i) z := by
          by_cases er : o i = r
          · refine ⟨999, by rw [er, if_pos rfl], fun z => ?_⟩
            unfold UnLe
            rw [er]
            constructor
            · intro hz
              refine ⟨hz, fun y hy hyb hyr => ?_⟩
              rw [pth_up hO hr ht y hy hyr] at hyb; cases hyb
            · exact fun hz => hz.1
          · have ern : ¬ nI (o i) = nI r := fun z => er ((nI_eq (by omega) (by omega)).mp z)
            have z0 : 0 < i := by
              rcases Nat.eq_zero_or_pos i with z | z
              · subst z
                rw [h4, hO.blw0] at hb
                exact absurd (by rw [h4]; exact (of_decide_eq_true hb).symm) er
              · exact z
            obtain ⟨j, hj, e, hpf, hj12⟩ := hO.pf z0 hi
            have hbj : blw (pfV V) r (o j) = true := by
              have := hO.blwS (r := r) z0 hi hj e
              rw [hb] at this
              simpa [Ne.symm er] using this.symm
            refine ⟨mnI (a.1 5 (o j)) (V.1 15 (o i) - a.1 1 (o i)), by
              rw [if_neg ern]
              simp only [tl (hP.1 a).lt, ql (hP.2 V), Option.bind_some, ho12, e, hj12], fun z => ?_⟩
            rw [le_mn, i2 j hj hbj z, i1 1 (by decide) (by decide), hsh _ ho12 (hO.th hi) hb er]
            unfold UnLe
            rw [pth_o hO hi hpf, List.forall_mem_cons]
            constructor
            · rintro ⟨⟨u1, u2⟩, u3⟩; exact ⟨u1, fun _ _ => u3, u2⟩
            · rintro ⟨u1, u2, u3⟩; exact ⟨⟨u1, u3⟩, u2 hb er⟩
        let y : Int32 := if k = 0 then mnI x (a.1 6 (o i)) else x
        have hy : ∀ z, z ≤ mnI y (pgIn V (nI (o i)) k) ↔ z ≤ sprF V lv r k (o i) := fun z => by
          rw [sprF_le, le_mn]
          unfold SprLe
          have hyz : z ≤ y ↔ UnLe V lv r (o i) z ∧ (k = 0 → SwLe V (o i) z) := by
            show z ≤ (if k = 0 then mnI x (a.1 6 (o i)) else x) ↔ _
            by_cases k0 : k = 0
            · rw [if_pos k0, le_mn, hun z, i1 6 (by decide) (by decide), hsw _ ho12 (hO.th hi) z]
              constructor
              · rintro ⟨u1, u2⟩; exact ⟨u1, fun _ => u2⟩
              · rintro ⟨u1, u2⟩; exact ⟨u1, u2 k0⟩
            · rw [if_neg k0, hun z]
              constructor
              · intro u1; exact ⟨u1, fun e => absurd e k0⟩
              · exact fun u => u.1
          rw [hyz]
          unfold UnLe SwLe
          constructor
          · rintro ⟨⟨⟨u1, u2⟩, u3⟩, u4⟩; exact ⟨u4, u2, u3⟩
          · rintro ⟨u1, u2, u3⟩
            refine ⟨⟨⟨?_, u2⟩, u3⟩, u1⟩
            rw [ti_le] at u1 ⊢
            have := hB _ ho12
            have e : (999 : Int32).toInt = 999 := rfl
            omega
        have hyeq := eq_of_le hy
        refine ⟨sx (sx a 5 (upd (a.1 5) (o i) x)) 2 (upd (a.1 2) (o i) (mnI y (a.1 2 (o i)))), ?_, ?_, ?_, ?_, ?_⟩
        · show F_X5_measureSpares_L42 q (nI r) (nI k) (w + 1) _ (nI i) (P V a) = _
          unfold F_X5_measureSpares_L42
          simp only [tl (hP.1 a).lt, ql (hP.2 V), Option.bind_some, h3, if_neg (nI_ge hi (by omega)), hi12, (h5 i hi).2, ho12, if_neg hnb, bl]
          have hx' := hx
          simp only [tl (hP.1 a).lt, ql (hP.2 V), Option.bind_some, ho12] at hx'
          rw [hx']
          simp only [ql (hP.2 V), Option.bind_some, ho12]
          have e5 : (sx a 5 (upd (a.1 5) (o i) x)).1 5 (o i) = x := upd_s _ _ _
          have e6 : (sx a 5 (upd (a.1 5) (o i) x)).1 6 (o i) = a.1 6 (o i) := rfl
          have e2 : (sx a 5 (upd (a.1 5) (o i) x)).1 2 = a.1 2 := rfl
          rw [e5, e6, e2]
          by_cases k0 : k = 0
          · subst k0
            rw [if_pos (show nI 0 = 0 from rfl), Option.bind_some, nI_1]
            rfl
          · have k1 : k = 1 := by omega
            subst k1
            rw [if_neg (show ¬ nI 1 = 0 by decide), Option.bind_some, nI_1]
            rfl
        · intro c c2 c5; rw [sx_1, up_n _ _ c2, sx_1, up_n _ _ c5]; exact i1 c c2 c5
        · intro m hm hbm z
          show z ≤ upd (a.1 5) (o i) x (o m) ↔ _
          by_cases em : m = i
          · subst em; rw [upd_s]; exact hun z
          · rw [upd_ne _ _ (hoi m (by omega))]; exact i2 m (by omega) hbm z
        · intro m hm
          show upd (a.1 2) (o i) (mnI y (a.1 2 (o i))) (o m) = _
          by_cases em : m = i
          · subst em; rw [upd_s, hb, if_pos rfl, hpg, hyeq]
          · rw [upd_ne _ _ (hoi m (by omega))]; exact i3 m (by omega)
        · intro g hg hm
          show upd (a.1 2) (o i) (mnI y (a.1 2 (o i))) g = _
          rw [upd_ne _ _ (fun e => hm i (by omega) e.symm)]
          exact i4 g hg (fun m h => hm m (by omega)))
    (fun a hI => by
      show F_X5_measureSpares_L42 q (nI r) (nI k) (w + 1) _ (nI n) (P V a) = _
      unfold F_X5_measureSpares_L42
      simp only [tl (hP.1 a).lt, Option.bind_some, h3]
      rw [if_pos (nI_le (Nat.le_refl _) (by omega))])
    n 0 6000 Q3 (by omega) (by omega) ⟨fun _ _ _ => rfl, fun m hm => by omega, fun m hm => by omega, fun g hg _ => t3 g hg⟩
  refine ⟨Q4, ?_, fun g hg => ?_⟩
  · unfold F_X5_measureSpares
    have hbits : F_X6_bitsBelow (P V Q2) (w + 1) (nI r) = some (mkB 12 (fun g => thV V g && blw (pfV V) r g)) := s_bits (P := fun V => P V Q2) (hP.1 Q2).lt hO hr ht
    have a4' : loopF (fun x => F_X5_measureSpares_L42 q (nI r) (nI k) (w + 1) (mkB 12 (fun g => thV V g && blw (pfV V) r g)) x.1 x.2) 6000 (0, P V Q3) = some (P V Q4) := a4
    simp only [ol (hP.1 Q).lo, ol (hP.1 Q2).lo, ql (hP.2 V), tl (hP.1 Q2).lt, cl (hP.1 Q2).lc, Option.bind_some, p1, s1, hbits, t1, a4']
  · cases htg : thV V g
    · have hm : ∀ m, m < n → o m ≠ g := fun m hm e => by
        have := hO.th hm; rw [e, htg] at this; cases this
      rw [b4 g hg hm, pgIn_free hH hg htg]; rfl
    · obtain ⟨q1, q2⟩ := hk2 g hg htg
      have := b3 (rk g) q1
      rw [q2] at this
      rw [this]; rfl
theorem rich_c {qf : Nat → Bool} {f s : Nat → Int32} (hs : ∀ g, g < 12 → s g = if qf g then f g else 0) : ∀ (i : Nat), i ≤ 12 → (List.range i).foldl (fun (a : Int32 × Int32) g => if ¬ s g ≤ a.2 then (nI g, s g) else a) (-1, 0) = richF qf f (List.range i) ∧ 0 ≤ (richF qf f (List.range i)).2
  | 0, _ => ⟨rfl, Int32.le_refl 0⟩
  | i + 1, hi => by
    obtain ⟨h1, h2⟩ := rich_c hs i (by omega)
    unfold richF at h1 h2 ⊢
    rw [List.range_succ, List.foldl_append, List.foldl_append, h1]
    simp only [List.foldl_cons, List.foldl_nil]
    rw [hs i (by omega)]
    cases hq : qf i
    · have h2' := h2
      simp only [Bool.false_eq_true, if_false, Bool.false_and]
      exact ⟨if_neg (fun z => z h2), h2⟩
    · simp only [if_true, Bool.true_and]
      by_cases hc : f i ≤ ((List.range i).foldl (fun (a : Int32 × Int32) p => if (qf p && decide (¬ f p ≤ a.2)) = true then (nI p, f p) else a) (-1, 0)).2
      · rw [if_neg (fun z => z hc), if_neg (fun z => (of_decide_eq_true z) hc)]
        exact ⟨rfl, h2⟩
      · rw [if_pos hc, if_pos (decide_eq_true hc)]
        refine ⟨rfl, ?_⟩
        show 0 ≤ f i
        rw [ti_le] at h2 hc ⊢
        omega
theorem c_rich (hP : L2 w q P) {r lv k : Nat} (hs : ∀ g, g < 12 → Q.1 2 g = if thV V g && blw (pfV V) r g then sprF V lv r k g else 0) {V' : WV} : F_X5_richestGroup (P V' Q) q = some (nxtF V lv r k).1 := by
  have h := loop_rng (st := fun x => F_X5_richestGroup_L6 (P V' Q) q x.1 x.2.1 x.2.2) (fun i (a : Int32 × Int32) => (a.1, a.2, nI i)) (fun a g => if ¬ Q.1 2 g ≤ a.2 then (nI g, Q.1 2 g) else a) (fun a => a.1) 12
    (fun i a hi => by
      show F_X5_richestGroup_L6 (P V' Q) q a.1 a.2 (nI i) = _
      unfold F_X5_richestGroup_L6
      rw [h12I, if_neg (nI_ge hi (by decide))]
      simp only [ql (hP.2 V'), hi, Option.bind_some, bl, nI_1]
      by_cases e : Q.1 2 i ≤ a.2
      · simp [e]
      · simp [e])
    (fun a => by
      show F_X5_richestGroup_L6 (P V' Q) q a.1 a.2 (nI 12) = _
      unfold F_X5_richestGroup_L6
      rw [h12I, if_pos (nI_le (Nat.le_refl _) (by decide))])
    (n := 6000) (by decide) (-1, 0)
  unfold F_X5_richestGroup
  have h' : loopF (fun x => F_X5_richestGroup_L6 (P V' Q) q x.1 x.2.1 x.2.2) 6000 (-1, 0, 0) = _ := h
  rw [h', (rich_c hs 12 (Nat.le_refl _)).1]
  rfl
end SPARE
