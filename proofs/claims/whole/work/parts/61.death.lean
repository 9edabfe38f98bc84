/-! deaths -/
def Cor (V : WV) (n : Nat) (o : Nat → Nat) : Prop := OrdOK V n o ∧ HomOK V ∧ TotOK V ∧ OutOK V
/-- what a model's method leaves as it is -/
def Keep (U U' : WV) : Prop := (∀ o, o < 9 → o ≠ 1 → U'.1 o = U.1 o) ∧ (∀ i, 559 ≤ i → U'.1 1 i = U.1 1 i)
theorem Keep.refl (U : WV) : Keep U U := ⟨fun _ _ _ => rfl, fun _ _ => rfl⟩
theorem Keep.trans {U U' U'' : WV} (h : Keep U U') (h' : Keep U' U'') : Keep U U'' := ⟨fun o h1 h2 => (h'.1 o h1 h2).trans (h.1 o h1 h2), fun i hi => (h'.2 i hi).trans (h.2 i hi)⟩
theorem Keep.sx1 (U : WV) {f : Nat → Int32} (h : ∀ i, 559 ≤ i → f i = U.1 1 i) : Keep U (sx U 1 f) := ⟨fun o h1 h2 => up_n _ _ h2, fun i hi => h i hi⟩
theorem Keep.up (U : WV) {k : Nat} (hk : k < 559) (x : Int32) : Keep U (sx U 1 (upd (U.1 1) k x)) := Keep.sx1 U fun i hi => upd_ne _ _ (by omega)
def killI (V : WV) (S : Nat → Bool) (i : Nat) : WV := (List.range i).foldl (fun V p => if S p then buryV V p else V) V
theorem killI_s (V : WV) (S : Nat → Bool) (i : Nat) : killI V S (i + 1) = if S i then buryV (killI V S i) i else killI V S i := by
  unfold killI
  rw [List.range_succ, List.foldl_append]
  rfl
def strV (V : WV) (r : Nat) : WV := sx (killI V (dyS V r) 16) 22 (upd ((killI V (dyS V r) 16).1 22) r (V.1 22 r + nI (cntN 16 (dyS V r))))
theorem cntN_s (n : Nat) (f : Nat → Bool) : cntN (n + 1) f = cntN n f + (if f n then 1 else 0) := by
  rw [cntN_add]
  congr 1
  cases h : f n <;> simp [cntN, h]
section DEATH
variable {V : WV} {n : Nat} {o : Nat → Nat} {w b : Nat} {P : WV → Hp}
theorem Cor.bury (h : Cor V n o) {p : Nat} (hp : p < 16) (ht : phV V p = true) : Cor (buryV V p) n o := ⟨h.1, h.2.1.bury p, h.2.2.1.bury h.1 h.2.1 hp ht, h.2.2.2.bury h.1 h.2.1 hp ht⟩
theorem bury_ph (p q : Nat) (h : q ≠ p) : phV (buryV V p) q = phV V q := by
  show decide (upd (V.1 24) p (-1) q ≠ -1) = _
  rw [upd_ne _ _ h]; rfl
theorem kill_inv (h : Cor V n o) {S : Nat → Bool} (hS : ∀ p, p < 16 → S p = true → phV V p = true) : ∀ i, i ≤ 16 → Cor (killI V S i) n o ∧ (∀ q, i ≤ q → phV (killI V S i) q = phV V q) ∧ (killI V S i).1 22 = V.1 22 ∧ (killI V S i).1 2 = V.1 2
  | 0, _ => ⟨h, fun _ _ => rfl, rfl, rfl⟩
  | i + 1, hi => by
    obtain ⟨h1, h2, h3, h4⟩ := kill_inv h hS i (by omega)
    rw [killI_s]
    cases hs : S i
    · exact ⟨h1, fun q hq => h2 q (by omega), h3, h4⟩
    · have hp : phV (killI V S i) i = true := by rw [h2 i (Nat.le_refl _)]; exact hS i (by omega) hs
      refine ⟨h1.bury (by omega) hp, fun q hq => ?_, h3, h4⟩
      show phV (buryV (killI V S i) i) q = _
      rw [bury_ph i q (by omega), h2 q (by omega)]
theorem mor_ph {r p : Nat} (h : mor V r p = true) : phV V p = true := by
  simp only [mor, Bool.and_eq_true] at h; exact h.1.1
theorem vicF_mor (r : Nat) : ∀ v, vicF V r = some v → v < 16 ∧ mor V r v = true := by
  have key : ∀ i, i ≤ 16 → ∀ v, (List.range i).foldl (vicS V r) none = some v → v < 16 ∧ mor V r v = true := by
    intro i
    induction i with
    | zero => intro _ v hv; cases hv
    | succ i ih =>
      intro hi v hv
      rw [List.range_succ, List.foldl_append] at hv
      have hv' : vicS V r ((List.range i).foldl (vicS V r) none) i = some v := hv
      unfold vicS at hv'
      cases hm : mor V r i
      · rw [hm] at hv'
        exact ih (by omega) v hv'
      · rw [hm] at hv'
        simp only [if_true] at hv'
        cases ha : (List.range i).foldl (vicS V r) none with
        | none =>
          have ha' := ha
          unfold vicS at ha'
          simp only [ha'] at hv'
          cases hv'; exact ⟨by omega, hm⟩
        | some q =>
          have ha' := ha
          unfold vicS at ha'
          simp only [ha'] at hv'
          split at hv'
          · cases hv'; exact ih (by omega) _ ha
          · cases hv'; exact ⟨by omega, hm⟩
  exact key 16 (Nat.le_refl _)
theorem dyS_ph (r p : Nat) (h : dyS V r p = true) : phV V p = true := by
  unfold dyS at h
  cases hv : vicF V r with
  | none => rw [hv] at h; cases h
  | some v =>
    rw [hv] at h
    simp only at h
    cases ht : topF V r v with
    | none =>
      rw [ht] at h
      have e : p = v := of_decide_eq_true h
      rw [e]; exact mor_ph (vicF_mor r v hv).2
    | some t =>
      rw [ht] at h
      exact mor_ph h
theorem s_strike (hP : LW w P) (hC : Cor V n o) {r : Nat} (hr : r < 12) (ht : thV V r = true) : F_X8_strike (P V) w (nI r) = some (mkB 16 (dyS V r), P (strV V r)) := by
  obtain ⟨hO, hH, -, -⟩ := id hC
  have hK := kill_inv hC (S := dyS V r) (fun p _ h => dyS_ph r p h)
  obtain ⟨a, ha, hI⟩ := loop_inv (st := fun x => F_X8_strike_L8 w (nI r) (mkB 16 (dyS V r)) x.1 x.2) (fun i (a : WV) => (nI i, P a)) (fun a => P a) (fun i a => a = killI V (dyS V r) i) 16
    (fun i a hi hI => by
      subst hI
      have hb : bt (mkB 16 (dyS V r)) i = dyS V r i := by rw [bt_mkB (by decide) (by omega)]; simp [hi]
      refine ⟨killI V (dyS V r) (i + 1), ?_, rfl⟩
      show F_X8_strike_L8 w (nI r) _ (nI i) (P _) = _
      unfold F_X8_strike_L8
      rw [h16I, if_neg (nI_ge hi (by decide)), killI_s]
      obtain ⟨c1, c2, -, -⟩ := hK i (by omega)
      cases hs : dyS V r i
      · rw [if_neg (fun q => by rw [bit_iff (by omega), hb, hs] at q; cases q)]
        simp [bl, nI_1]
      · rw [if_pos ((bit_iff (by omega)).mpr (hb.trans hs))]
        have hp : phV (killI V (dyS V r) i) i = true := by rw [c2 i (Nat.le_refl _)]; exact dyS_ph r i hs
        simp only [ol hP.lo, s_bury hP c1.1 c1.2.1 hi hp, Option.bind_some, bl, nI_1, if_true])
    (fun a hI => by
      show F_X8_strike_L8 w (nI r) _ (nI 16) (P _) = _
      unfold F_X8_strike_L8
      rw [h16I, if_pos (nI_le (Nat.le_refl _) (by decide))])
    16 0 6000 V (by decide) (by decide) rfl
  have ha' : loopF (fun x => F_X8_strike_L8 w (nI r) (mkB 16 (dyS V r)) x.1 x.2) 6000 (0, P V) = some (P a) := ha
  subst hI
  have e3 : ∀ W : WV, aR (P W) (w + 18) 15 3 = some (w + (19 + 3)) := fun W => (tl hP.lt).2.2.2.2.2.2.2.2.2.2.2.2.2.2.2.2.2.2.2.2.2.2.2.2.2.2.1 W 3 (by decide)
  have e4 : ∀ W : WV, aI (P W) (w + (19 + 3)) (nI r) = some (W.1 22 r) := fun W => by simp only [tl hP.lt, hr, (by decide : 3 < 4)]
  have e5 : ∀ (W : WV) (x : Int32), sI (P W) (w + (19 + 3)) (nI r) x = some (P (sx W 22 (upd (W.1 22) r x))) := fun W x => by simp only [tl hP.lt, hr, (by decide : 3 < 4)]
  unfold F_X8_strike
  simp only [ol hP.lo, tl hP.lt, s_dying hP hO hH hr ht, Option.bind_some, ha', s_bitI, cnt_mkB, e3, e4, e5]
  rw [(hK 16 (Nat.le_refl _)).2.2.1]
  unfold strV
  rw [(hK 16 (Nat.le_refl _)).2.2.1]
theorem Cor.strike (hC : Cor V n o) (r : Nat) : Cor (strV V r) n o := (kill_inv hC (S := dyS V r) (fun p _ h => dyS_ph r p h) 16 (Nat.le_refl _)).1
/-! the model's -/
theorem Rel.die {M M' : Nat → Int32} (h : Rel V M) {p : Nat} (hp : p < 16) (h1 : M' 1 = M 1 &&& ((1 <<< (nI p &&& 31)) ^^^ (-1))) (hM : ∀ i, i ≠ 1 → (i < 415 + 8 * p ∨ 415 + 8 * p + 8 ≤ i) → M' i = M i) : Rel (buryV V p) M' := by
  obtain ⟨r1, r2, r3, r4, r5⟩ := h
  obtain ⟨s0, s1, s2, s3, s4, s5, s6⟩ := r1
  refine ⟨⟨?_, ?_, ?_, ?_, ?_, ?_, ?_⟩, ?_, ?_, ?_, ?_⟩
  · rw [hM 0 (by omega) (by omega), s0]; rfl
  · rw [h1, s1]
    refine mkB_eq (by decide) fun i hi => ?_
    rw [b_and, b_xor, bt_one (by omega) hi, b_m1 i hi, bt_mkB (by decide) hi]
    by_cases e : i = p
    · subst e
      have : phV (buryV V i) i = false := by
        show decide (upd (V.1 24) i (-1) i ≠ -1) = false
        rw [upd_s]; rfl
      simp [this]
    · rw [bury_ph p i e]; simp [e]
  · rw [hM 2 (by omega) (by omega), s2]; rfl
  · rw [hM 3 (by omega) (by omega), s3]; rfl
  · rw [hM 4 (by omega) (by omega), s4]; rfl
  · rw [hM 5 (by omega) (by omega), s5]; rfl
  · rw [hM 6 (by omega) (by omega), s6]; rfl
  · intro g f hg ht hf hc
    rw [hM _ (by omega) (by omega), r2 g f hg ht hf hc]
    obtain ⟨c1, c2, c3, c4, -⟩ := cg_f1 f hf
    have n1 : ∀ e, e < 8 → cg f ≠ cp e := cg_cp f hf
    have q24 : cg f ≠ 24 := n1 0 (by decide); have q25 : cg f ≠ 25 := n1 1 (by decide); have q27 : cg f ≠ 27 := n1 2 (by decide); have q28 : cg f ≠ 28 := n1 3 (by decide)
    have q30 : cg f ≠ 30 := n1 4 (by decide); have q29 : cg f ≠ 29 := n1 5 (by decide); have q31 : cg f ≠ 31 := n1 6 (by decide); have q32 : cg f ≠ 32 := n1 7 (by decide)
    unfold buryV putP
    rw [sx_1, up_n _ _ q32, sx_1, up_n _ _ q31, sx_1, up_n _ _ q30, sx_1, up_n _ _ q29, sx_1, up_n _ _ q28, sx_1, up_n _ _ q27, sx_1, up_n _ _ q25, sx_1, up_n _ _ q24, sx_1, up_n _ _ c4, sx_1, up_n _ _ c3]
  · intro g k hg ht hk
    rw [hM _ (by omega) (by omega), hM _ (by omega) (by omega)]
    exact r3 g k hg ht hk
  · intro q f hq ht hf
    have e : q ≠ p := by
      intro e; subst e
      have : phV (buryV V q) q = false := by
        show decide (upd (V.1 24) q (-1) q ≠ -1) = false
        rw [upd_s]; rfl
      rw [this] at ht; cases ht
    rw [bury_ph p q e] at ht
    rw [hM _ (by omega) (by omega), r4 q f hq ht hf]
    have h8 : f = 0 ∨ f = 1 ∨ f = 2 ∨ f = 3 ∨ f = 4 ∨ f = 5 ∨ f = 6 ∨ f = 7 := by omega
    rcases h8 with rfl | rfl | rfl | rfl | rfl | rfl | rfl | rfl <;> exact (upd_ne _ _ e).symm
  · intro i k hi hk
    rw [hM _ (by omega) (by omega), r5 i k hi hk]
    have h4 : k = 0 ∨ k = 1 ∨ k = 2 ∨ k = 3 := by omega
    rcases h4 with rfl | rfl | rfl | rfl <;> rfl
theorem m_dies {U : WV} (hP : LM b P) (hR : Rel V (U.1 1)) {p : Nat} (hp : p < 16) : ∃ U', F_X10_dies (P U) b (nI p) = some (P U') ∧ Keep U U' ∧ Rel (buryV V p) (U'.1 1) := by
  obtain ⟨f, ha, hI⟩ := loop_inv (st := fun x => F_X10_dies_L16 b (nI p) x.1 x.2) (fun i (f : Nat → Int32) => (nI i, P (sx U 1 f))) (fun f => P (sx U 1 f)) (fun i f => f 1 = U.1 1 1 &&& ((1 <<< (nI p &&& 31)) ^^^ (-1)) ∧ ∀ j, j ≠ 1 → (j < 415 + 8 * p ∨ 415 + 8 * p + 8 ≤ j) → f j = U.1 1 j) 8
    (fun i f hi hI => by
      refine ⟨upd f (415 + 8 * p + i) 0, ?_, ?_, fun j hj hj' => ?_⟩
      · show F_X10_dies_L16 b (nI p) (nI i) (P (sx U 1 f)) = _
        unfold F_X10_dies_L16
        rw [show (8 : Int32) = nI 8 from rfl, if_neg (nI_ge hi (by decide))]
        simp only [ml hP, m_laysP hP hp hi, Option.bind_some, bl, nI_1, sx_1, up_s, sx_sx]
      · rw [upd_ne _ _ (by omega)]; exact hI.1
      · rw [upd_ne _ _ (by omega)]; exact hI.2 j hj hj')
    (fun f hI => by
      show F_X10_dies_L16 b (nI p) (nI 8) (P (sx U 1 f)) = _
      unfold F_X10_dies_L16
      rw [show (8 : Int32) = nI 8 from rfl, if_pos (nI_le (Nat.le_refl _) (by decide))])
    8 0 6000 (upd (U.1 1) 1 (U.1 1 1 &&& ((1 <<< (nI p &&& 31)) ^^^ (-1)))) (by decide) (by decide) ⟨upd_s _ _ _, fun j hj _ => upd_ne _ _ hj⟩
  have ha' : loopF (fun x => F_X10_dies_L16 b (nI p) x.1 x.2) 6000 (0, P (sx U 1 (upd (U.1 1) 1 (U.1 1 1 &&& ((1 <<< (nI p &&& 31)) ^^^ (-1)))))) = some (P (sx U 1 f)) := ha
  refine ⟨sx U 1 f, ?_, Keep.sx1 U fun i hi => hI.2 i (by omega) (by omega), Rel.die hR hp hI.1 hI.2⟩
  unfold F_X10_dies
  simp only [ml hP, ml0 hP, Option.bind_some, ha']
theorem m_dying {U : WV} (hP : LM b P) (hR : Rel V (U.1 1)) (hO : OrdOK V n o) (hH : HomOK V) {r : Nat} (hr : r < 12) : F_X10_dyingBelow (P U) b (nI r) = some (mkB 16 (dyS V r), P U) := by
  obtain ⟨h1, h2⟩ := m_victim hP hR hO hH hr
  have hT := hO.tree
  unfold F_X10_dyingBelow
  simp only [ml hP, h1, Option.bind_some, un]
  unfold dyS
  cases hv : vicF V r with
  | none => simp [oI, mkB_0]
  | some v =>
    obtain ⟨v1, v2⟩ := h2 v hv
    obtain ⟨k1, k2, k3⟩ := hH.at v1 (mor_ph v2)
    obtain ⟨q, q1, q2⟩ := loop_pH (st := fun x => F_X10_dyingBelow_L22 b (nI r) (nI v) x.1 x.2.1 x.2.2) (fun l (a : Option Nat) => (oI a, hd l, P U)) (fun l a => Sfx (thV V) (pfV V) l ∧ topF V r v = l.foldl (tS V r) a ∧ (∀ t, a = some t → t < 12 ∧ thV V t = true)) (fun q => q = (oI (topF V r v), P U) ∧ ∀ t, topF V r v = some t → t < 12 ∧ thV V t = true)
      (fun x l a hI => by
        obtain ⟨hs, hf, hA⟩ := hI
        obtain ⟨hx, htx, hp, hs', hl⟩ := hs.cons hT
        left
        refine ⟨tS V r a x, ?_, hs', hf, ?_⟩
        · show F_X10_dyingBelow_L22 b (nI r) (nI v) (oI a) (nI x) (P U) = _
          unfold F_X10_dyingBelow_L22
          rw [if_neg (nI_ne1 (by omega))]
          simp only [ml hP, m_isBelow hP hR hO hx htx (show r < 2 ^ 31 by omega), mo hP V, hR, hx, htx, m_parent hP hR hx htx, Option.bind_some, un, hO.hdv hs]
          cases hb : blw (pfV V) r x
          · simp [bl, tS, hb, ml hP, m_parent hP hR hx htx, un, hO.hdv hs]
          · by_cases hw : V.1 9 x = 1
            · simp [bl, tS, hb, hw, oI, ml hP, m_parent hP hR hx htx, un, hO.hdv hs]
            · simp [bl, tS, hb, hw, ml hP, m_parent hP hR hx htx, un, hO.hdv hs]
        · intro t htt
          unfold tS at htt
          split at htt
          · cases htt; exact ⟨hx, htx⟩
          · exact hA t htt)
      (fun a hI => by
        obtain ⟨hs, hf, hA⟩ := hI
        have hf' : topF V r v = a := hf
        refine ⟨(oI a, P U), ?_, by rw [hf'], by rw [hf']; exact hA⟩
        show F_X10_dyingBelow_L22 b (nI r) (nI v) (oI a) (-1) (P U) = _
        unfold F_X10_dyingBelow_L22
        rw [if_pos rfl])
      (pth (pfV V) (hom V v)) 6000 none (by have := pth_len (pfV V) (hom V v); omega) ⟨Sfx.pth k1 k2, rfl, (fun t ht => by cases ht)⟩
    have e : V.1 24 v = hd (pth (pfV V) (hom V v)) := by rw [k3, pth_cons hT k1 k2]; rfl
    have q1' : loopF (fun x => F_X10_dyingBelow_L22 b (nI r) (nI v) x.1 x.2.1 x.2.2) 6000 (-1, V.1 24 v, P U) = some (oI (topF V r v), P U) := by
      rw [e, ← q2.1]; exact q1
    simp only [oI, if_neg (nI_ne1 (show v < 2 ^ 31 by omega)), m_home hP hR v1 (mor_ph v2), Option.bind_some, un, bl, q1']
    cases hto : topF V r v with
    | none => simp [oI, one_mkB v1]
    | some t =>
      obtain ⟨a1, a2⟩ := q2.2 t hto
      have h := loop_rng (st := fun x => F_X10_dyingBelow_L79 b (nI t) x.1 x.2.1 x.2.2) (fun i (a : Int32) => (a, nI i, P U)) (fun a p => a ||| (if mor V t p then 1 <<< (nI p &&& 31) else 0)) (fun a => (a, P U)) 16
        (fun i a hi => by
          show F_X10_dyingBelow_L79 b (nI t) a (nI i) (P U) = _
          unfold F_X10_dyingBelow_L79
          rw [h16I, if_neg (nI_ge hi (by decide))]
          have hb : bt (mkB 16 (fun p => phV V p && blw (pfV V) t (hom V p))) i = (phV V i && blw (pfV V) t (hom V i)) := by rw [bt_mkB (by decide) (by omega)]; simp [hi]
          simp only [ml hP, m_procsBelow hP hR hO hH a1, m_has _ _ (show i < 31 by omega), hb, Option.bind_some, un]
          cases hq : (phV V i && blw (pfV V) t (hom V i))
          · have hm : mor V t i = false := by unfold mor; rw [hq]; rfl
            simp [bl, nI_1, hm]
          · have hph : phV V i = true := (Bool.and_eq_true_iff.mp hq).1
            simp only [mp hP V, hR, hi, hph, Option.bind_some, if_true, if_neg (show ¬ (1 : Int32) = 0 by decide)]
            by_cases h10 : V.1 25 i = -10
            · have hm : mor V t i = false := by unfold mor; rw [h10]; simp
              simp [h10, bl, nI_1, hm, un]
            · have hm : mor V t i = true := by unfold mor; rw [hq]; simp [h10]
              simp [h10, bl, nI_1, hm, un])
        (fun a => by
          show F_X10_dyingBelow_L79 b (nI t) a (nI 16) (P U) = _
          unfold F_X10_dyingBelow_L79
          rw [h16I, if_pos (nI_le (Nat.le_refl _) (by decide))])
        (n := 6000) (by decide) 0
      have h' : loopF (fun x => F_X10_dyingBelow_L79 b (nI t) x.1 x.2.1 x.2.2) 6000 (0, 0, P U) = _ := h
      simp only [oI, if_neg (nI_ne1 (show t < 2 ^ 31 by omega)), h', Option.bind_some]
      rfl
theorem upd_uu (f : Nat → Int32) (k : Nat) (x y : Int32) : upd (upd f k x) k y = upd f k y := by
  funext j
  by_cases h : j = k
  · subst h; rw [upd_s, upd_s]
  · rw [upd_ne _ _ h, upd_ne _ _ h, upd_ne _ _ h]
theorem bury_22 (W : WV) (f : Nat → Int32) (p : Nat) : buryV (sx W 22 f) p = sx (buryV W p) 22 f := by
  unfold buryV putP
  simp only [sx_comm _ (show (22 : Nat) ≠ 15 by decide), sx_comm _ (show (22 : Nat) ≠ 16 by decide), sx_comm _ (show (22 : Nat) ≠ 24 by decide), sx_comm _ (show (22 : Nat) ≠ 25 by decide), sx_comm _ (show (22 : Nat) ≠ 27 by decide), sx_comm _ (show (22 : Nat) ≠ 28 by decide), sx_comm _ (show (22 : Nat) ≠ 29 by decide), sx_comm _ (show (22 : Nat) ≠ 30 by decide), sx_comm _ (show (22 : Nat) ≠ 31 by decide), sx_comm _ (show (22 : Nat) ≠ 32 by decide)]
  rfl
theorem m_death {U : WV} (hP : LM b P) (hR : Rel V (U.1 1)) (hC : Cor V n o) {r : Nat} (hr : r < 12) (ht : thV V r = true) : ∃ U', F_X10_deathBelow (P U) b (nI r) = some (mkB 16 (dyS V r), P U') ∧ Keep U U' ∧ Rel (strV V r) (U'.1 1) := by
  obtain ⟨hO, hH, -, -⟩ := id hC
  have hK := kill_inv hC (S := dyS V r) (fun p _ h => dyS_ph r p h)
  obtain ⟨q, q1, q2⟩ := loop_cH (st := fun x => F_X10_deathBelow_L8 b (nI r) (mkB 16 (dyS V r)) x.1 x.2) (fun i (a : WV) => (nI i, P a))
    (fun i a => Keep U a ∧ Rel (sx (killI V (dyS V r) i) 22 (upd (V.1 22) r (V.1 22 r + nI (cntN i (dyS V r))))) (a.1 1)) (fun q => ∃ U', q = P U' ∧ Keep U U' ∧ Rel (strV V r) (U'.1 1)) 16
    (fun i a hi hI => by
      obtain ⟨hk, hr'⟩ := hI
      have hb : bt (mkB 16 (dyS V r)) i = dyS V r i := by rw [bt_mkB (by decide) (by omega)]; simp [hi]
      obtain ⟨c1, c2, c3, c4⟩ := hK i (by omega)
      left
      cases hs : dyS V r i
      · refine ⟨a, ?_, hk, ?_⟩
        · show F_X10_deathBelow_L8 b (nI r) _ (nI i) (P a) = _
          unfold F_X10_deathBelow_L8
          rw [h16I, if_neg (nI_ge hi (by decide))]
          simp [m_has _ _ (show i < 31 by omega), hb, hs, bl, nI_1]
        · rw [killI_s, cntN_s, hs]; exact hr'
      · obtain ⟨U1, u1, u2, u3⟩ := m_dies hP hr' hi
        have e22 : (buryV (sx (killI V (dyS V r) i) 22 (upd (V.1 22) r (V.1 22 r + nI (cntN i (dyS V r))))) i).1 22 r = V.1 22 r + nI (cntN i (dyS V r)) := upd_s _ _ _
        have tr : thV (buryV (sx (killI V (dyS V r) i) 22 (upd (V.1 22) r (V.1 22 r + nI (cntN i (dyS V r))))) i) r = true := by
          rw [← ht]; exact congrFun (thV_same c4) r
        have hd := m_ofD (f := 14) hP u3 hr tr (by decide) (by decide) 1
        refine ⟨sx U1 1 (upd (U1.1 1) (7 + 34 * r + 14) (V.1 22 r + nI (cntN i (dyS V r)) + 1)), ?_, hk.trans (u2.trans (Keep.up U1 (by omega) _)), ?_⟩
        · show F_X10_deathBelow_L8 b (nI r) _ (nI i) (P a) = _
          unfold F_X10_deathBelow_L8
          rw [h16I, if_neg (nI_ge hi (by decide))]
          have hd' : F_X10_of (P U1) b (nI r) 14 1 = _ := hd
          simp only [m_has _ _ (show i < 31 by omega), hb, hs, if_true, if_neg (show ¬ (1 : Int32) = 0 by decide), Option.bind_some, ml hP, u1, hd', un, bl, nI_1]
          rw [show cg 14 = 22 from rfl, e22]
        · have h3 := u3.grp (f := 14) hr (by decide) (by decide) (by decide) (V.1 22 r + nI (cntN i (dyS V r)) + 1)
          rw [show cg 14 = 22 from rfl, bury_22, sx_sx] at h3
          have e7 : (sx (buryV (killI V (dyS V r) i) i) 22 (upd (V.1 22) r (V.1 22 r + nI (cntN i (dyS V r))))).1 22 = upd (V.1 22) r (V.1 22 r + nI (cntN i (dyS V r))) := rfl
          rw [e7, upd_uu, Int32.add_assoc, nI_1] at h3
          rw [killI_s, cntN_s, hs, Int32.add_assoc, nI_1]
          exact h3)
    (fun a hI => by
      refine ⟨P a, ?_, a, rfl, hI.1, ?_⟩
      · show F_X10_deathBelow_L8 b (nI r) _ (nI 16) (P a) = _
        unfold F_X10_deathBelow_L8
        rw [h16I, if_pos (nI_le (Nat.le_refl _) (by decide))]
      · have := hI.2
        unfold strV
        rw [(hK 16 (Nat.le_refl _)).2.2.1]; exact this)
    16 0 6000 U (by decide) (by decide) ⟨Keep.refl U, by
      have e : sx (killI V (dyS V r) 0) 22 (upd (V.1 22) r (V.1 22 r + nI (cntN 0 (dyS V r)))) = V := by
        show sx V 22 (upd (V.1 22) r (V.1 22 r + 0)) = V
        rw [Int32.add_zero, upd_id, sx_id]
      rw [e]; exact hR⟩
  obtain ⟨U', rfl, k1, k2⟩ := q2
  refine ⟨U', ?_, k1, k2⟩
  unfold F_X10_deathBelow
  have q1' : loopF (fun x => F_X10_deathBelow_L8 b (nI r) (mkB 16 (dyS V r)) x.1 x.2) 6000 (0, P U) = _ := q1
  simp only [ml hP, m_dying hP hR hO hH hr, Option.bind_some, un, q1']
end DEATH
