/-! room for a charge -/
def MaxOK (V : WV) : Prop := ∀ g, g < 12 → thV V g = true → (V.1 15 g).toInt ≤ (V.1 8 g).toInt
def DedOK (V : WV) : Prop := ∀ p, p < 16 → phV V p = false → V.1 27 p = 0 ∧ V.1 28 p = 0 ∧ V.1 31 p = 0
/-- what taking and deaths leave as it is -/
def Fr (V V' : WV) : Prop := (∀ c, c < 14 ∨ c = 17 ∨ c = 18 ∨ 33 ≤ c → V'.1 c = V.1 c) ∧ V'.2 = V.2 ∧ ∀ q, q < 16 → phV V' q = true → phV V q = true ∧ V'.1 24 q = V.1 24 q ∧ V'.1 25 q = V.1 25 q ∧ V'.1 30 q = V.1 30 q ∧ V'.1 31 q = V.1 31 q ∧ V'.1 32 q = V.1 32 q
theorem Fr.refl (V : WV) : Fr V V := ⟨fun _ _ => rfl, rfl, fun _ _ h => ⟨h, rfl, rfl, rfl, rfl, rfl⟩⟩
theorem Fr.trans {V V' V'' : WV} (h : Fr V V') (h' : Fr V' V'') : Fr V V'' := ⟨fun c hc => (h'.1 c hc).trans (h.1 c hc), h'.2.1.trans h.2.1, fun q hq hp => by
  obtain ⟨a1, a2, a3, a4, a5, a6⟩ := h'.2.2 q hq hp
  obtain ⟨b1, b2, b3, b4, b5, b6⟩ := h.2.2 q hq a1
  exact ⟨b1, a2.trans b2, a3.trans b3, a4.trans b4, a5.trans b5, a6.trans b6⟩⟩
theorem Fr.th {V V' : WV} (h : Fr V V') : thV V' = thV V := thV_same (h.1 2 (by decide))
theorem Fr.pf {V V' : WV} (h : Fr V V') : pfV V' = pfV V := pfV_same (h.1 2 (by decide))
theorem TkK.fr {V V' : WV} (h : TkK V V') : Fr V V' := by
  have e : ∀ c, c ≠ 14 → c ≠ 15 → c ≠ 16 → c ≠ 19 → c ≠ 27 → c ≠ 28 → c ≠ 29 → V'.1 c = V.1 c := h.1
  refine ⟨fun c hc => e c (by omega) (by omega) (by omega) (by omega) (by omega) (by omega) (by omega), h.2, fun q hq hp => ?_⟩
  have h24 := e 24 (by decide) (by decide) (by decide) (by decide) (by decide) (by decide) (by decide)
  rw [phV_same h24] at hp
  exact ⟨hp, by rw [h24], by rw [e 25 (by decide) (by decide) (by decide) (by decide) (by decide) (by decide) (by decide)], by rw [e 30 (by decide) (by decide) (by decide) (by decide) (by decide) (by decide) (by decide)], by rw [e 31 (by decide) (by decide) (by decide) (by decide) (by decide) (by decide) (by decide)], by rw [e 32 (by decide) (by decide) (by decide) (by decide) (by decide) (by decide) (by decide)]⟩
theorem fr_ev (V : WV) {c : Nat} (hc : 19 ≤ c) (hc2 : c < 23) (g : Nat) : Fr V (evA V c g) := by
  have h4 : c = 19 ∨ c = 20 ∨ c = 21 ∨ c = 22 := by omega
  refine ⟨fun d hd => up_n _ _ (by omega), rfl, fun q hq hp => ?_⟩
  rcases h4 with rfl | rfl | rfl | rfl <;> exact ⟨hp, rfl, rfl, rfl, rfl, rfl⟩
theorem Ev.ind {σ ρ : Type} {st : σ → σ ⊕ ρ} (I : σ → Prop) (Q : ρ → Prop) (hs : ∀ s, I s → match st s with | .inl s' => I s' | .inr y => Q y) {s : σ} {x : ρ} (h : Ev st s x) (hI : I s) : Q x := by
  obtain ⟨m, hm⟩ := h
  induction m generalizing s with
  | zero => cases hm
  | succ m ih =>
    have h1 := hs s hI
    simp only [loopF, Option.bind_some] at hm
    cases e : st s with
    | inl s' => rw [e] at hm h1; exact ih h1 hm
    | inr y => rw [e] at hm h1; cases hm; exact h1
section ROOM
variable {V Q : WV} {n : Nat} {o : Nat → Nat} {w q b : Nat} {P : WV → WV → Hp}
theorem ded_tk (h : DedOK V) {p k : Nat} (ht : phV V p = true) (hk : k < 2) (i : Int32) : DedOK (tkV V p k i) := by
  have hk' : k = 0 ∨ k = 1 := by omega
  intro x hx hd
  have hd' : phV V x = false := by rcases hk' with rfl | rfl <;> exact hd
  have hne : x ≠ p := fun e => by subst e; rw [ht] at hd'; cases hd'
  obtain ⟨a, b, c⟩ := h x hx hd'
  rcases hk' with rfl | rfl
  · exact ⟨(upd_ne _ _ hne).trans a, b, c⟩
  · exact ⟨a, (upd_ne _ _ hne).trans b, c⟩
theorem tk_post (h : TI V n o) {r : Nat} {m : Int32} (hm : m.toInt ≤ 999) {x : WV × Int32} (hT : TkRes V r m x) : TI x.1 n o ∧ TkK V x.1 ∧ TotLe V x.1 ∧ (DedOK V → DedOK x.1) ∧ 0 ≤ x.2.toInt ∧ x.2.toInt ≤ 999 := by
  obtain ⟨V1, hD, hE⟩ := hT
  obtain ⟨d1, d2, d3⟩ := drn_post h hD
  obtain ⟨s1, s2, s3⟩ := stkF_I h.2.1 r
  have hs9 : (stkF V r).toInt ≤ 999 := by have := h.2.1.2.2; have := h.2.1.pgs0; omega
  refine hE.ind (fun s => TI s.1 n o ∧ TkK V s.1 ∧ TotLe V s.1 ∧ (DedOK V → DedOK s.1) ∧ 0 ≤ s.2.1.toInt ∧ s.2.1.toInt ≤ 999) (fun x => TI x.1 n o ∧ TkK V x.1 ∧ TotLe V x.1 ∧ (DedOK V → DedOK x.1) ∧ 0 ≤ x.2.toInt ∧ x.2.toInt ≤ 999) (fun s hI => ?_) ⟨d1, d2, d3, fun hd => by
    obtain ⟨t, rfl, -⟩ := hD
    exact hd, s2, hs9⟩
  obtain ⟨W, t, way⟩ := s
  obtain ⟨i1, i2, i3, i4, i5, i6⟩ : TI W n o ∧ TkK V W ∧ TotLe V W ∧ (DedOK V → DedOK W) ∧ 0 ≤ t.toInt ∧ t.toInt ≤ 999 := hI
  by_cases c1 : m ≤ t
  · have e : tkP r m (W, t, way) = .inr (W, t) := by unfold tkP; rw [if_pos c1]
    rw [e]; exact ⟨i1, i2, i3, i4, i5, i6⟩
  · have c1' : t.toInt < m.toInt := Int.not_le.mp (fun z => c1 (ti_le.mpr z))
    by_cases c2 : 4 ≤ way
    · have e : tkP r m (W, t, way) = .inr (W, t) := by unfold tkP; simp only [if_neg c1, if_pos c2]
      rw [e]; exact ⟨i1, i2, i3, i4, i5, i6⟩
    · have i5' : 0 ≤ t.toInt := i5
      have i6' : t.toInt ≤ 999 := i6
      have hL : (m - t).toInt = m.toInt - t.toInt := ti_sub (by omega) (by omega)
      have hk2 : 1 - way % 2 < 2 := by omega
      rcases tk_one i1 (r := r) (lv := way / 2) hk2 (L := m - t) (by omega) with ⟨n1, n2⟩ | ⟨g, p, g1, g2, g3, g4, g5, g6, g7, g8, g9, g10, g11, g12, g13, g14⟩
      · rw [tkP_none c1 (by omega) n2]
        by_cases w1 : way = 1
        · simp only [if_pos w1]
          exact ⟨TI.ev i1 (by decide) (by decide) r, i2.trans ⟨fun c a1 a2 a3 a4 a5 a6 a7 => by unfold evA; rw [sx_1, up_n _ _ a4], rfl⟩, i3, i4, i5, i6⟩
        · simp only [if_neg w1]
          exact ⟨i1, i2, i3, i4, i5, i6⟩
      · rw [tkP_some c1 (by omega) g9]
        have hti : (t + itsF W (way / 2) r (1 - way % 2) g p (m - t)).toInt = t.toInt + (itsF W (way / 2) r (1 - way % 2) g p (m - t)).toInt := ti_add (by omega) (by omega)
        exact ⟨g12, i2.trans g13, i3.trans i2 g14, fun hd => ded_tk (i4 hd) g8 hk2 _, by show 0 ≤ (t + itsF W (way / 2) r (1 - way % 2) g p (m - t)).toInt; omega, by show (t + itsF W (way / 2) r (1 - way % 2) g p (m - t)).toInt ≤ 999; omega⟩
theorem MaxOK.le {V' : WV} (h : MaxOK V) (ht : TotLe V V') (hf : Fr V V') : MaxOK V' := fun g hg htg => by
  rw [hf.th] at htg
  rw [hf.1 8 (by decide)]
  exact Int.le_trans (ht g hg htg) (h g hg htg)
def mF (V : WV) (f : Nat) (d : Int32) : Int32 := V.1 15 f + d - V.1 8 f
theorem mF_I (h : TI V n o) (hM : MaxOK V) {f : Nat} (hf : f < 12) (ht : thV V f = true) {d : Int32} (h0 : 0 ≤ d.toInt) (h9 : d.toInt ≤ 999) : (V.1 15 f + d).toInt = (V.1 15 f).toInt + d.toInt ∧ (mF V f d).toInt = (V.1 15 f).toInt + d.toInt - (V.1 8 f).toInt ∧ (mF V f d).toInt ≤ 999 := by
  have h1 := h.2.1.tot h.1.2.2.1 hf ht
  have h2 := hM f hf ht
  have h3 := (h.2.2.1 f hf ht).2.2.2.1
  have e : (V.1 15 f + d).toInt = (V.1 15 f).toInt + d.toInt := ti_add (by omega) (by omega)
  have e2 : (mF V f d).toInt = (V.1 15 f).toInt + d.toInt - (V.1 8 f).toInt := by
    unfold mF
    rw [ti_sub (by omega) (by omega), e]
  exact ⟨e, e2, by omega⟩
theorem c_fits (hP : L2 w q P) (h : TI V n o) (hM : MaxOK V) {f : Nat} (hf : f < 12) (ht : thV V f = true) {d : Int32} (h0 : 0 ≤ d.toInt) (h9 : d.toInt ≤ 999) (Q : WV) : ∃ V1 t Q', F_X3_fitsUnderMax (P V Q) (q + 7) w (nI f) d = some (if V1.1 15 f + d ≤ V1.1 8 f then 1 else 0, P V1 Q') ∧ TkRes (evA V 21 f) f (mF V f d) (V1, t) ∧ TI V1 n o ∧ TkK (evA V 21 f) V1 ∧ TotLe V V1 := by
  obtain ⟨m1, m2, m3⟩ := mF_I h hM hf ht h0 h9
  have h8 := (h.2.2.1 f hf ht).2.2.2.1
  have ht1 := h.2.1.tot h.1.2.2.1 hf ht
  have hb : (V.1 8 f - d).toInt = (V.1 8 f).toInt - d.toInt := ti_sub (by omega) (by omega)
  obtain ⟨V1, t, Q', c1, c2, c3, c4, c5⟩ := c_take hP (h.ev (c := 21) (by decide) (by decide) f) hf ht m3 Q
  refine ⟨V1, t, Q', ?_, c2, c3, c4, c5⟩
  have em : V.1 15 f - (V.1 8 f - d) = mF V f d := Int32.toInt_inj.mp (by rw [ti_sub (by omega) (by omega), hb, m2]; omega)
  have e3 : aR (P V Q) (w + 4) 15 3 = some (w + (5 + 3)) := (tl (hP.1 Q).lt).2.2.2.2.2.2.2.2.2.2.2.2.2.2.2.2.2.2.2.2.2.2.2.1 V 3 (by decide)
  have e8 : aI (P V Q) (w + (5 + 3)) (nI f) = some (V.1 8 f) := (tl (hP.1 Q).lt).2.2.2.2.2.2.2.2.2.2.2.2.2.2.2.2.2.2.2.2.2.2.2.2.1 V 3 f (by decide) hf
  have v0 : aR (P V Q) (w + 18) 15 2 = some (w + (19 + 2)) := (tl (hP.1 Q).lt).2.2.2.2.2.2.2.2.2.2.2.2.2.2.2.2.2.2.2.2.2.2.2.2.2.2.1 V 2 (by decide)
  have v1 : aI (P V Q) (w + (19 + 2)) (nI f) = some (V.1 21 f) := (tl (hP.1 Q).lt).2.2.2.2.2.2.2.2.2.2.2.2.2.2.2.2.2.2.2.2.2.2.2.2.2.2.2.1 V 2 f (by decide) hf
  have v2 : sI (P V Q) (w + (19 + 2)) (nI f) (V.1 21 f + 1) = some (P (evA V 21 f) Q) := (tl (hP.1 Q).lt).2.2.2.2.2.2.2.2.2.2.2.2.2.2.2.2.2.2.2.2.2.2.2.2.2.2.2.2 V 2 f _ (by decide) hf
  have v3 : (evA V 21 f).1 15 f = V.1 15 f := rfl
  unfold F_X3_fitsUnderMax
  simp only [ol (hP.1 Q).lo, tl (hP.1 Q).lt, Option.bind_some, e3, e8, bl, v0, v1, v2, fun V => ql (hP.2 V), hf, v3, em, c1, un, ol (hP.1 Q').lo, tl (hP.1 Q').lt]
  have t1 := c3.2.1.tot c3.1.2.2.1 hf (by rw [c4.fr.th]; exact ht)
  have e18 : V1.1 8 f = V.1 8 f := congrFun (c4.fr.1 8 (by decide)) f
  have es : (V1.1 15 f + d).toInt = (V1.1 15 f).toInt + d.toInt := ti_add (by omega) (by omega)
  by_cases hc : V.1 8 f - d < V1.1 15 f
  · have := ti_lt.mp hc
    rw [if_pos hc, if_neg (fun z => by have := ti_le.mp z; rw [e18] at this; omega)]
  · have := ti_le.mp (Int32.not_lt.mp hc)
    rw [if_neg hc, if_pos (ti_le.mpr (by rw [e18]; omega))]
/-- how room is made for d pages of p, in its group g: told, and the state -/
def MkR (p g : Nat) (d : Int32) : Nat → WV → Int32 → (Int32 × WV) → Prop
  | 0, _, _, _ => False
  | k + 1, V, told, res => match fstAb V g d with
    | none => res = (told, V)
    | some f => ∃ V1 t, TkRes (evA V 21 f) f (mF V f d) (V1, t) ∧ (if V1.1 15 f + d ≤ V1.1 8 f then MkR p g d k V1 (mxI told 1) res else if mkB 16 (dyS V1 f) = 0 then res = (-4, strV V1 f) else if dyS V1 f p = true then res = (3, strV V1 f) else MkR p g d k (strV V1 f) 2 res)
theorem str_fr (h : TI V n o) (r : Nat) : Fr V (strV V r) := by
  obtain ⟨-, -, h3, h4, h5⟩ := str_TI h r
  refine ⟨fun c hc => h3.1 c (by omega) (by omega) (by omega) (by omega) (by omega) (by omega), h3.2, fun x hx hp => ?_⟩
  rw [h4 x hx] at hp
  obtain ⟨p1, p2⟩ := Bool.and_eq_true_iff.mp hp
  have hd : dyS V r x = false := by simpa using p2
  exact ⟨p1, h5 x hx hd 24 (by decide) (by decide), h5 x hx hd 25 (by decide) (by decide), h5 x hx hd 30 (by decide) (by decide), h5 x hx hd 31 (by decide) (by decide), h5 x hx hd 32 (by decide) (by decide)⟩
theorem kill_ded (hd : DedOK V) (S : Nat → Bool) : ∀ i, i ≤ 16 → DedOK (killI V S i)
  | 0, _ => hd
  | i + 1, hi => by
    rw [killI_s]
    have ih := kill_ded hd S i (by omega)
    cases S i
    · exact ih
    · intro x hx hp
      show (buryV (killI V S i) i).1 27 x = 0 ∧ (buryV (killI V S i) i).1 28 x = 0 ∧ (buryV (killI V S i) i).1 31 x = 0
      by_cases e : x = i
      · subst e; exact ⟨upd_s _ _ _, upd_s _ _ _, upd_s _ _ _⟩
      · have hp' : phV (killI V S i) x = false := by rw [← bury_ph i x e]; exact hp
        obtain ⟨a, b, c⟩ := ih x hx hp'
        exact ⟨(upd_ne _ _ e).trans a, (upd_ne _ _ e).trans b, (upd_ne _ _ e).trans c⟩
theorem str_ded (hd : DedOK V) (r : Nat) : DedOK (strV V r) := kill_ded hd (dyS V r) 16 (Nat.le_refl _)
theorem fst_mem (hO : OrdOK V n o) {g f : Nat} {d : Int32} (hg : g < 12) (ht : thV V g = true) (h : fstAb V g d = some f) : f < 12 ∧ thV V f = true ∧ ¬ V.1 15 f + d ≤ V.1 8 f ∧ f ∈ pth (pfV V) g := by
  unfold fstAb at h
  have h1 := List.mem_of_find?_eq_some h
  have h2 := List.find?_some h
  obtain ⟨a, b, -⟩ := pth_mem hO.tree _ g (Nat.le_refl _) hg ht f h1
  exact ⟨a, b, of_decide_eq_true h2, h1⟩
/-- what comes of it -/
theorem mk_post {p g : Nat} {d : Int32} (hg : g < 12) (h0 : 0 ≤ d.toInt) (h9 : d.toInt ≤ 999) {res : Int32 × WV} : ∀ (k : Nat) (V : WV) (told : Int32), MkR p g d k V told res → TI V n o → MaxOK V → thV V g = true → (told = 0 ∨ told = 1 ∨ told = 2) → phV V p = true → p < 16 → TI res.2 n o ∧ TotLe V res.2 ∧ Fr V res.2 ∧ (DedOK V → DedOK res.2) ∧ (res.1 = -4 ∨ res.1 = 3 ∨ ((res.1 = 0 ∨ res.1 = 1 ∨ res.1 = 2) ∧ phV res.2 p = true ∧ fstAb res.2 g d = none))
  | 0, _, _, h, _, _, _, _, _, _ => absurd h id
  | k + 1, V, told, h, hI, hM, ht, hto, hp, hp16 => by
    unfold MkR at h
    cases hf : fstAb V g d with
    | none =>
      rw [hf] at h
      subst h
      exact ⟨hI, fun _ _ _ => Int.le_refl _, Fr.refl V, id, Or.inr (Or.inr ⟨hto, hp, hf⟩)⟩
    | some f =>
      rw [hf] at h
      obtain ⟨f1, f2, f3, f4⟩ := fst_mem hI.1.1 hg ht hf
      obtain ⟨m1, m2, m3⟩ := mF_I hI hM f1 f2 h0 h9
      obtain ⟨V1, t, h1, h2⟩ := h
      obtain ⟨a1, a2, a3, a4, -, -⟩ := tk_post (hI.ev (c := 21) (by decide) (by decide) f) m3 h1
      have fr1 : Fr V V1 := (fr_ev V (by decide) (by decide) f).trans a2.fr
      have a3' : TotLe V V1 := a3
      have hp1 : phV V1 p = true := by
        have := phV_same (V := evA V 21 f) (V' := V1) (a2.1 24 (by decide) (by decide) (by decide) (by decide) (by decide) (by decide) (by decide))
        rw [this]; exact hp
      have hd1 : DedOK V → DedOK V1 := fun hd => a4 hd
      have hM1 : MaxOK V1 := hM.le a3' fr1
      have ht1 : thV V1 g = true := by rw [fr1.th]; exact ht
      obtain ⟨s1, s2, s3, s4, s5⟩ := str_TI a1 f
      have fr2 : Fr V (strV V1 f) := fr1.trans (str_fr a1 f)
      have le2 : TotLe V (strV V1 f) := fun x hx htx => Int.le_trans (s2 x hx (by rw [fr1.th]; exact htx)) (a3' x hx htx)
      by_cases c1 : V1.1 15 f + d ≤ V1.1 8 f
      · rw [if_pos c1] at h2
        have hto' : mxI told 1 = 0 ∨ mxI told 1 = 1 ∨ mxI told 1 = 2 := by
          rcases hto with rfl | rfl | rfl
          · right; left; decide
          · right; left; decide
          · right; right; decide
        obtain ⟨b1, b2, b3, b4, b5⟩ := mk_post hg h0 h9 k V1 _ h2 a1 hM1 ht1 hto' hp1 hp16
        exact ⟨b1, fun x hx htx => Int.le_trans (b2 x hx (by rw [fr1.th]; exact htx)) (a3' x hx htx), fr1.trans b3, fun hd => b4 (hd1 hd), b5⟩
      · rw [if_neg c1] at h2
        by_cases c2 : mkB 16 (dyS V1 f) = 0
        · rw [if_pos c2] at h2
          subst h2
          exact ⟨s1, le2, fr2, fun hd => str_ded (hd1 hd) f, Or.inl rfl⟩
        · rw [if_neg c2] at h2
          by_cases c3 : dyS V1 f p = true
          · rw [if_pos c3] at h2
            subst h2
            exact ⟨s1, le2, fr2, fun hd => str_ded (hd1 hd) f, Or.inr (Or.inl rfl)⟩
          · rw [if_neg c3] at h2
            have hp2 : phV (strV V1 f) p = true := by
              rw [s4 p hp16, hp1]; simp [c3]
            obtain ⟨b1, b2, b3, b4, b5⟩ := mk_post hg h0 h9 k (strV V1 f) 2 h2 s1 (hM.le le2 fr2) (by rw [fr2.th]; exact ht) (Or.inr (Or.inr rfl)) hp2 hp16
            exact ⟨b1, fun x hx htx => Int.le_trans (b2 x hx (by rw [fr2.th]; exact htx)) (le2 x hx htx), fr2.trans b3, fun hd => b4 (str_ded (hd1 hd) f), b5⟩
theorem abv_le {V' : WV} (h : TI V n o) (hM : MaxOK V) (h' : TI V' n o) (ht : TotLe V V') (hf : Fr V V') {g : Nat} (hg : g < 12) (htg : thV V g = true) {d : Int32} (h0 : 0 ≤ d.toInt) (h9 : d.toInt ≤ 999) : ∀ x ∈ pth (pfV V) g, decide (¬ V'.1 15 x + d ≤ V'.1 8 x) = true → decide (¬ V.1 15 x + d ≤ V.1 8 x) = true := by
  intro x hx hn
  obtain ⟨a, b, -⟩ := pth_mem h.1.1.tree _ g (Nat.le_refl _) hg htg x hx
  obtain ⟨m1, -, -⟩ := mF_I h hM a b h0 h9
  obtain ⟨m1', -, -⟩ := mF_I h' (hM.le ht hf) a (by rw [hf.th]; exact b) h0 h9
  have hn' := of_decide_eq_true hn
  refine decide_eq_true (fun z => hn' (ti_le.mpr ?_))
  have := ti_le.mp z
  have := ht x a b
  rw [m1', hf.1 8 (by decide)]
  rw [m1] at *
  omega
theorem c_room (hP : L2 w q P) (h : TI V n o) (hM : MaxOK V) {p : Nat} (hp : p < 16) (ht : phV V p = true) {d : Int32} (h0 : 0 ≤ d.toInt) (h9 : d.toInt ≤ 999) (Q : WV) : ∃ k res Q', F_X3_makeRoom (P V Q) (q + 7) w (nI p) d = some (res.1, P res.2 Q') ∧ k ≤ 40 ∧ MkR p (hom V p) d k V 0 res := by
  obtain ⟨g1, g2, g3⟩ := h.1.2.1.at hp ht
  obtain ⟨g, hg⟩ : ∃ g, g = hom V p := ⟨_, rfl⟩
  rw [← hg] at g1 g2 g3
  obtain ⟨y, y1, y2⟩ := loop_wH (st := fun x => F_X3_makeRoom_L17 (q + 7) w (nI p) d (nI g) x.1 x.2.1 x.2.2)
    (fun μ x => ∃ (W R : WV) (told : Int32) (st : Nat), x = (told, nI st, P W R) ∧ TI W n o ∧ MaxOK W ∧ phV W p = true ∧ thV W g = true ∧ μ = abvN W g d + aliveN W ∧ st + μ ≤ 30 ∧ ∀ k res, MkR p g d k W told res → MkR p g d (st + k) V 0 res)
    (fun y => ∃ k res Q', (y = .inl (res.1, P res.2 Q') ∨ y = .inr (res.1, P res.2 Q')) ∧ k ≤ 40 ∧ MkR p g d k V 0 res)
    (fun μ x hx => by
      obtain ⟨W, R, told, st, rfl, i1, i2, i3, i4, i5, i6, i7⟩ := hx
      have hst : ¬ (100 : Int32) ≤ nI st := by
        rw [show (100 : Int32) = nI 100 from rfl]; exact nI_ge (by omega) (by decide)
      have hfa : F_X6_firstAboveMax (P W R) (w + 1) (nI g) d = some (match fstAb W g d with | none => -1 | some r => nI r) := s_firstAbove (P := fun V => P V R) (hP.1 R).lt i1.1.1 g1 i4 d
      cases hf : fstAb W g d with
      | none =>
        rw [hf] at hfa
        right
        refine ⟨.inl (told, P W R), ?_, st + 1, (told, W), R, Or.inl rfl, by omega, i7 1 (told, W) (by unfold MkR; rw [hf])⟩
        show F_X3_makeRoom_L17 (q + 7) w (nI p) d (nI g) told (nI st) (P W R) = _
        unfold F_X3_makeRoom_L17
        rw [if_neg hst]
        simp only [ol (hP.1 R).lo, tl (hP.1 R).lt, hfa, Option.bind_some, if_true]
      | some f =>
        rw [hf] at hfa
        obtain ⟨f1, f2, f3, f4⟩ := fst_mem i1.1.1 g1 i4 hf
        obtain ⟨V1, t, R1, c1, c2, c3, c4, c5⟩ := c_fits hP i1 i2 f1 f2 h0 h9 R
        have hf1 : ¬ nI f = -1 := nI_ne1 (by omega)
        have fr1 : Fr W V1 := (fr_ev W (by decide) (by decide) f).trans c4.fr
        have hM1 : MaxOK V1 := i2.le c5 fr1
        have hp1 : phV V1 p = true := by
          have := phV_same (V := evA W 21 f) (V' := V1) (c4.1 24 (by decide) (by decide) (by decide) (by decide) (by decide) (by decide) (by decide))
          rw [this]; exact i3
        have ht1 : thV V1 g = true := by rw [fr1.th]; exact i4
        have hal : aliveN V1 = aliveN W := by
          unfold aliveN
          rw [phV_same (V := evA W 21 f) (V' := V1) (c4.1 24 (by decide) (by decide) (by decide) (by decide) (by decide) (by decide) (by decide))]; rfl
        have hsub := abv_le i1 i2 c3 c5 fr1 g1 i4 h0 h9
        by_cases k1 : V1.1 15 f + d ≤ V1.1 8 f
        · left
          rw [if_pos k1] at c1
          have hlt : abvN V1 g d < abvN W g d := by
            unfold abvN
            rw [fr1.pf]
            exact filter_lt (z := f) _ hsub f4 (decide_eq_true f3) (decide_eq_false (fun z => z k1))
          refine ⟨(mxI told 1, nI (st + 1), P V1 R1), abvN V1 g d + aliveN V1, ?_, by omega, V1, R1, mxI told 1, st + 1, rfl, c3, hM1, hp1, ht1, rfl, by omega, fun k res hk => ?_⟩
          · show F_X3_makeRoom_L17 (q + 7) w (nI p) d (nI g) told (nI st) (P W R) = _
            unfold F_X3_makeRoom_L17
            rw [if_neg hst]
            simp only [ol (hP.1 R).lo, tl (hP.1 R).lt, ql (hP.2 W), hfa, Option.bind_some, if_neg hf1, c1, un, if_neg (show ¬ (1 : Int32) = 0 by decide), bl, nI_1]
          · have := i7 (k + 1) res (by unfold MkR; rw [hf]; exact ⟨V1, t, c2, by rw [if_pos k1]; exact hk⟩)
            rw [show st + 1 + k = st + (k + 1) from by omega]; exact this
        · rw [if_neg k1] at c1
          have hst2 := s_strike (P := fun V => P V R1) (hP.1 R1) c3.1 f1 (by rw [fr1.th]; exact f2)
          have hst2' : F_X8_strike (P V1 R1) w (nI f) = some (mkB 16 (dyS V1 f), P (strV V1 f) R1) := hst2
          by_cases k2 : mkB 16 (dyS V1 f) = 0
          · right
            refine ⟨.inl (-4, P (strV V1 f) R1), ?_, st + 1, (-4, strV V1 f), R1, Or.inl rfl, by omega, i7 1 _ (by unfold MkR; rw [hf]; exact ⟨V1, t, c2, by rw [if_neg k1, if_pos k2]⟩)⟩
            show F_X3_makeRoom_L17 (q + 7) w (nI p) d (nI g) told (nI st) (P W R) = _
            unfold F_X3_makeRoom_L17
            rw [if_neg hst]
            simp only [ol (hP.1 R).lo, ol (hP.1 R1).lo, tl (hP.1 R).lt, ql (hP.2 W), hfa, Option.bind_some, if_neg hf1, c1, un, if_true, hst2', k2]
          · have hbp : bt (mkB 16 (dyS V1 f)) p = dyS V1 f p := by rw [bt_mkB (by decide) (by omega)]; simp [hp]
            by_cases k3 : dyS V1 f p = true
            · right
              refine ⟨.inl (3, P (strV V1 f) R1), ?_, st + 1, (3, strV V1 f), R1, Or.inl rfl, by omega, i7 1 _ (by unfold MkR; rw [hf]; exact ⟨V1, t, c2, by rw [if_neg k1, if_neg k2, if_pos k3]⟩)⟩
              show F_X3_makeRoom_L17 (q + 7) w (nI p) d (nI g) told (nI st) (P W R) = _
              unfold F_X3_makeRoom_L17
              rw [if_neg hst]
              simp only [ol (hP.1 R).lo, ol (hP.1 R1).lo, tl (hP.1 R).lt, ql (hP.2 W), hfa, Option.bind_some, if_neg hf1, c1, un, if_true, hst2', if_neg k2, if_pos ((bit_iff (by omega)).mpr (hbp.trans k3))]
            · left
              have hnb : ¬ (mkB 16 (dyS V1 f) >>> (nI p &&& 31)) &&& 1 = 1 := fun z => by
                rw [bit_iff (by omega), hbp] at z; exact k3 z
              obtain ⟨s1, s2, s3, s4, s5⟩ := str_TI c3 f
              have fr2 : Fr W (strV V1 f) := fr1.trans (str_fr c3 f)
              have le2 : TotLe W (strV V1 f) := fun x hx htx => Int.le_trans (s2 x hx (by rw [fr1.th]; exact htx)) (c5 x hx htx)
              have hp2 : phV (strV V1 f) p = true := by rw [s4 p hp, hp1]; simp [k3]
              have hlt := str_alive c3 (r := f) k2
              have hle : abvN (strV V1 f) g d ≤ abvN W g d := by
                unfold abvN
                rw [fr2.pf]
                exact filter_le _ (abv_le i1 i2 s1 le2 fr2 g1 i4 h0 h9)
              refine ⟨(2, nI (st + 1), P (strV V1 f) R1), abvN (strV V1 f) g d + aliveN (strV V1 f), ?_, by omega, strV V1 f, R1, 2, st + 1, rfl, s1, i2.le le2 fr2, hp2, by rw [fr2.th]; exact i4, rfl, by omega, fun k res hk => ?_⟩
              · show F_X3_makeRoom_L17 (q + 7) w (nI p) d (nI g) told (nI st) (P W R) = _
                unfold F_X3_makeRoom_L17
                rw [if_neg hst]
                simp only [ol (hP.1 R).lo, ol (hP.1 R1).lo, tl (hP.1 R).lt, ql (hP.2 W), hfa, Option.bind_some, if_neg hf1, c1, un, if_true, hst2', if_neg k2, if_neg hnb, bl, nI_1]
              · have := i7 (k + 1) res (by unfold MkR; rw [hf]; exact ⟨V1, t, c2, by rw [if_neg k1, if_neg k2, if_neg k3]; exact hk⟩)
                rw [show st + 1 + k = st + (k + 1) from by omega]; exact this)
    6000 (abvN V g d + aliveN V) (0, 0, P V Q) (by
      have a1 : abvN V g d ≤ 12 := Nat.le_trans (List.length_filter_le _ _) (pth_len _ _)
      have a2 : aliveN V ≤ 16 := cntN_le 16 _
      omega) ⟨V, Q, 0, 0, rfl, h, hM, ht, g2, rfl, by
      have a1 : abvN V g d ≤ 12 := Nat.le_trans (List.length_filter_le _ _) (pth_len _ _)
      have a2 : aliveN V ≤ 16 := cntN_le 16 _
      omega, fun k res hk => by rw [Nat.zero_add]; exact hk⟩
  obtain ⟨k, res, Q', z1, z2, z3⟩ := y2
  refine ⟨k, res, Q', ?_, z2, by rw [← hg]; exact z3⟩
  unfold F_X3_makeRoom
  simp only [ol (hP.1 Q).lo, cl (hP.1 Q).lc, hp, g3, Option.bind_some, y1]
  rcases z1 with rfl | rfl <;> rfl
end ROOM
