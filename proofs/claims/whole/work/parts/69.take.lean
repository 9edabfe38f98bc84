/-! a pure loop, and what it comes to -/
def Ev {σ ρ : Type} (st : σ → σ ⊕ ρ) (s : σ) (x : ρ) : Prop := ∃ m, loopF (fun s => some (st s)) m s = some x
theorem Ev.one {σ ρ : Type} {st : σ → σ ⊕ ρ} {s : σ} {x : ρ} (h : Ev st s x) : match st s with | .inl s' => Ev st s' x | .inr y => x = y := by
  obtain ⟨m, hm⟩ := h
  cases m with
  | zero => cases hm
  | succ m =>
    simp only [loopF, Option.bind_some] at hm
    cases hs : st s with
    | inl s' => rw [hs] at hm; exact ⟨m, hm⟩
    | inr y => rw [hs] at hm; exact (Option.some.inj hm).symm
theorem Ev.stp {σ ρ : Type} {st : σ → σ ⊕ ρ} {s s' : σ} {x : ρ} (e : st s = .inl s') (h : Ev st s' x) : Ev st s x := by
  obtain ⟨m, hm⟩ := h
  exact ⟨m + 1, by simp only [loopF, Option.bind_some, e]; exact hm⟩
theorem Ev.done {σ ρ : Type} {st : σ → σ ⊕ ρ} {s : σ} {x : ρ} (e : st s = .inr x) : Ev st s x := ⟨1, by simp only [loopF, Option.bind_some, e]⟩
theorem Ev.next {σ ρ : Type} {st : σ → σ ⊕ ρ} {s s' : σ} {x : ρ} (h : Ev st s x) (e : st s = .inl s') : Ev st s' x := by
  have := h.one; rw [e] at this; exact this
theorem Ev.fin {σ ρ : Type} {st : σ → σ ⊕ ρ} {s : σ} {x y : ρ} (h : Ev st s x) (e : st s = .inr y) : x = y := by
  have := h.one; rw [e] at this; exact this
theorem Ev.ex {σ ρ : Type} {st : σ → σ ⊕ ρ} (I : Nat → σ → Prop) (hs : ∀ m s, I m s → (∃ s' m', st s = .inl s' ∧ m' < m ∧ I m' s') ∨ ∃ y, st s = .inr y) : ∀ m s, I m s → ∃ x, Ev st s x := by
  intro m
  induction m using Nat.strongRecOn with
  | _ m ih =>
    intro s h
    rcases hs m s h with ⟨s', m', e, hm, h'⟩ | ⟨y, e⟩
    · obtain ⟨x, hx⟩ := ih m' hm s' h'
      exact ⟨x, hx.stp e⟩
    · exact ⟨y, Ev.done e⟩
/-! taking -/
def evA (V : WV) (c g : Nat) : WV := sx V c (upd (V.1 c) g (V.1 c g + 1))
def tkP (r : Nat) (m : Int32) (s : WV × Int32 × Nat) : (WV × Int32 × Nat) ⊕ (WV × Int32) :=
  if m ≤ s.2.1 then .inr (s.1, s.2.1) else if 4 ≤ s.2.2 then .inr (s.1, s.2.1) else
  match tkS s.1 r (s.2.2 / 2) (1 - s.2.2 % 2) (m - s.2.1) with
  | none => .inl (if s.2.2 = 1 then evA s.1 19 r else s.1, s.2.1, s.2.2 + 1)
  | some x => .inl (x.1, s.2.1 + x.2, s.2.2)
def DrnV (V : WV) (r : Nat) (V1 : WV) : Prop := ∃ t, V1 = sx (sx V 14 (noStk V r)) 15 t ∧ TotOK V1
def TkRes (V : WV) (r : Nat) (m : Int32) (x : WV × Int32) : Prop := ∃ V1, DrnV V r V1 ∧ Ev (tkP r m) (V1, stkF V r, 0) x
/-- what taking leaves as it is -/
def TkK (V V' : WV) : Prop := (∀ c, c ≠ 14 → c ≠ 15 → c ≠ 16 → c ≠ 19 → c ≠ 27 → c ≠ 28 → c ≠ 29 → V'.1 c = V.1 c) ∧ V'.2 = V.2
def TotLe (V V' : WV) : Prop := ∀ g, g < 12 → thV V g = true → (V'.1 15 g).toInt ≤ (V.1 15 g).toInt
theorem TkK.refl (V : WV) : TkK V V := ⟨fun _ _ _ _ _ _ _ _ => rfl, rfl⟩
theorem TkK.trans {V V' V'' : WV} (h : TkK V V') (h' : TkK V' V'') : TkK V V'' := ⟨fun c a1 a2 a3 a4 a5 a6 a7 => (h'.1 c a1 a2 a3 a4 a5 a6 a7).trans (h.1 c a1 a2 a3 a4 a5 a6 a7), h'.2.trans h.2⟩
theorem TkK.th {V V' : WV} (h : TkK V V') : thV V' = thV V := thV_same (h.1 2 (by decide) (by decide) (by decide) (by decide) (by decide) (by decide) (by decide))
theorem TotLe.trans {V V' V'' : WV} (h : TotLe V V') (hk : TkK V V') (h' : TotLe V' V'') : TotLe V V'' := fun g hg ht => Int.le_trans (h' g hg (by rw [hk.th]; exact ht)) (h g hg ht)
section TAKE
variable {V Q : WV} {n : Nat} {o : Nat → Nat} {w q b : Nat} {P : WV → WV → Hp}
theorem tot_I (h : Num V) (hT : TotOK V) {r : Nat} (hr : r < 12) (ht : thV V r = true) : (V.1 15 r).toInt = isum 12 (fun g => if thV V g && blw (pfV V) r g then (V.1 14 g).toInt else 0) + isum 16 (fun p => if phV V p && blw (pfV V) r (hom V p) then (V.1 27 p).toInt + (V.1 28 p).toInt else 0) := by
  obtain ⟨a1, a2, a3⟩ := stkF_I h r
  obtain ⟨b1, b2, b3⟩ := pgsF_I h r
  have h3 := h.2.2
  have h4 := h.stk0
  have h5 := h.pgs0
  rw [hT r hr ht]
  show (stkF V r + smI (List.range 16) (fun p => if decide (V.1 24 p ≠ -1) && blw (pfV V) r (V.1 24 p).toNatClampNeg then V.1 27 p + V.1 28 p else 0)).toInt = _
  rw [ti_add (by omega) (by omega), a1, b1]
theorem drn_post (h : TI V n o) {r : Nat} {V1 : WV} (hD : DrnV V r V1) : TI V1 n o ∧ TkK V V1 ∧ TotLe V V1 := by
  obtain ⟨hC, hN, hL, hS⟩ := h
  obtain ⟨t, rfl, hT⟩ := hD
  have hno : ∀ g, g < 12 → thV V g = true → 0 ≤ (noStk V r g).toInt ∧ (noStk V r g).toInt ≤ (V.1 14 g).toInt := fun g hg ht => by
    have := hN.1 g hg ht
    unfold noStk
    split
    · rw [ti_0]; omega
    · omega
  have hs : stkI (sx (sx V 14 (noStk V r)) 15 t) ≤ stkI V := isum_le 12 fun i hi => by
    show (if thV V i then (noStk V r i).toInt else 0) ≤ if thV V i then (V.1 14 i).toInt else 0
    cases ht : thV V i
    · simp
    · simp only [if_true]; exact (hno i hi ht).2
  have hN' : Num (sx (sx V 14 (noStk V r)) 15 t) := by
    refine ⟨fun g hg ht => (hno g hg ht).1, hN.2.1, ?_⟩
    have e : pgsI (sx (sx V 14 (noStk V r)) 15 t) = pgsI V := rfl
    have := hN.2.2
    rw [e]; omega
  refine ⟨⟨⟨hC.1, hC.2.1, hT, hC.2.2.2⟩, hN', hL, hS⟩, ⟨fun c a1 a2 _ _ _ _ _ => by rw [sx_1, up_n _ _ a2, sx_1, up_n _ _ a1], rfl⟩, fun g hg ht => ?_⟩
  rw [tot_I hN' hT hg ht, tot_I hN hC.2.2.1 hg ht]
  have : isum 12 (fun x => if thV V x && blw (pfV V) g x then (noStk V r x).toInt else 0) ≤ isum 12 (fun x => if thV V x && blw (pfV V) g x then (V.1 14 x).toInt else 0) := isum_le 12 fun i hi => by
    cases ht : thV V i
    · simp
    · cases blw (pfV V) g i
      · simp
      · simp only [Bool.and_self, if_true]; exact (hno i hi ht).2
  have e1 : isum 12 (fun x => if thV (sx (sx V 14 (noStk V r)) 15 t) x && blw (pfV (sx (sx V 14 (noStk V r)) 15 t)) g x then ((sx (sx V 14 (noStk V r)) 15 t).1 14 x).toInt else 0) = isum 12 (fun x => if thV V x && blw (pfV V) g x then (noStk V r x).toInt else 0) := rfl
  have e2 : isum 16 (fun p => if phV (sx (sx V 14 (noStk V r)) 15 t) p && blw (pfV (sx (sx V 14 (noStk V r)) 15 t)) g (hom (sx (sx V 14 (noStk V r)) 15 t) p) then ((sx (sx V 14 (noStk V r)) 15 t).1 27 p).toInt + ((sx (sx V 14 (noStk V r)) 15 t).1 28 p).toInt else 0) = isum 16 (fun p => if phV V p && blw (pfV V) g (hom V p) then (V.1 27 p).toInt + (V.1 28 p).toInt else 0) := rfl
  rw [e1, e2]; omega
theorem TI.ev {c : Nat} (h : TI V n o) (hc : 19 ≤ c) (hc2 : c < 23) (g : Nat) : TI (evA V c g) n o := by
  have h4 : c = 19 ∨ c = 20 ∨ c = 21 ∨ c = 22 := by omega
  rcases h4 with rfl | rfl | rfl | rfl <;> exact h
theorem tkV_tot (hC : Cor V n o) (hN : Num V) {p k : Nat} (hp : p < 16) (ht : phV V p = true) (hk : k < 2) {i : Int32} (h0 : 0 ≤ i.toInt) (h4 : i.toInt ≤ 999) : TkK V (tkV V p k i) ∧ TotLe V (tkV V p k i) := by
  obtain ⟨k1, k2, k3⟩ := hC.2.1.at hp ht
  have hk' : k = 0 ∨ k = 1 := by omega
  have e15 : (tkV V p k i).1 15 = addTo (V.1 15) (pth (pfV V) (hom V p)) (-i) := by rcases hk' with rfl | rfl <;> rfl
  refine ⟨⟨fun c a1 a2 a3 a4 a5 a6 a7 => ?_, by rcases hk' with rfl | rfl <;> rfl⟩, fun g hg htg => ?_⟩
  · rcases hk' with rfl | rfl
    · show (sx (sx (sx (sx V 27 _) 15 _) 29 _) 16 _).1 c = _
      rw [sx_1, up_n _ _ a3, sx_1, up_n _ _ a7, sx_1, up_n _ _ a2, sx_1, up_n _ _ a5]
    · show (sx (sx V 28 _) 15 _).1 c = _
      rw [sx_1, up_n _ _ a2, sx_1, up_n _ _ a6]
  · rw [e15, addTo_at _ _ (pth_nodup hC.1.tree k1 k2)]
    have hb := hN.tot hC.2.2.1 hg htg
    split
    · rw [ti_add (by rw [ti_neg (by omega)]; omega) (by rw [ti_neg (by omega)]; omega), ti_neg (by omega)]; omega
    · exact Int.le_refl _
/-- one step, and what it keeps -/
theorem tk_one (h : TI V n o) {r lv k : Nat} (hk : k < 2) {L : Int32} (hL : 0 < L.toInt) : ((nxtF V lv r k).1 = -1 ∧ tkS V r lv k L = none) ∨ ∃ g p, g < 12 ∧ thV V g = true ∧ blw (pfV V) r g = true ∧ (nxtF V lv r k).1 = nI g ∧ mstF V g k = some p ∧ (richF (fun p => decide (V.1 24 p = nI g)) (V.1 (27 + k)) (List.range 16)).1 = nI p ∧ p < 16 ∧ phV V p = true ∧ tkS V r lv k L = some (tkV V p k (itsF V lv r k g p L), itsF V lv r k g p L) ∧ 0 < (itsF V lv r k g p L).toInt ∧ (itsF V lv r k g p L).toInt ≤ L.toInt ∧ TI (tkV V p k (itsF V lv r k g p L)) n o ∧ TkK V (tkV V p k (itsF V lv r k g p L)) ∧ TotLe V (tkV V p k (itsF V lv r k g p L)) := by
  obtain ⟨hC, hN, hLi, hS⟩ := id h
  by_cases hx : (nxtF V lv r k).1 = -1
  · left; exact ⟨hx, by unfold tkS; rw [if_pos hx]⟩
  · right
    obtain ⟨g, p, a1, a2, a3, a4, a5, a6, a7, a8, a9, a10, a11⟩ := tk_some hN hk hx
    obtain ⟨b1, b2, b3, b4⟩ := its_bd (V := V) (lv := lv) (r := r) (k := k) (g := g) (p := p) a5 a11 hL
    have e : (nxtF V lv r k).1.toNatClampNeg = g := by rw [a4, nI_clamp (by omega)]
    have ht := tkV_tot hC hN a8 a9 hk (i := itsF V lv r k g p L) (by omega) (by omega)
    refine ⟨g, p, a1, a2, a3, a4, a6, a7, a8, a9, ?_, b1, b3, h.step a8 a9 hk (by omega) b4 (fun e => ?_), ht.1, ht.2⟩
    · unfold tkS
      rw [if_neg hx, e, a6]
    · subst e; exact its_sw hC hN hS
theorem c_takeStep (hP : L2 w q P) (h : TI V n o) {lv r k g p : Nat} (hk : k < 2) (hg : g < 12) (hp : p < 16) (ht : phV V p = true) (hri : (richF (fun p => decide (V.1 24 p = nI g)) (V.1 (27 + k)) (List.range 16)).1 = nI p) (hs : Q.1 2 g = sprF V lv r k g) (L : Int32) : F_X5_takeStep (P V Q) q w (nI g) (nI k) L = some (itsF V lv r k g p L, P (tkV V p k (itsF V lv r k g p L)) Q) := by
  obtain ⟨hC, hN, hLi⟩ := h
  have e1 : F_X0_richestIn (P V Q) (w + 23) (nI g) (nI k) = some (nI p) := by
    rw [← hri]; exact s_richestIn (P := fun V => P V Q) (hP.1 Q).lc (nI g) hk
  have e2 : mnI (mnI 4 (mnI L (sprF V lv r k g))) (V.1 (27 + k) p) = itsF V lv r k g p L := eq_of_le fun z => by
    unfold itsF
    simp only [le_mn, and_assoc]
  have e3 := s_addPages (P := fun V => P V Q) (hP.1 Q) hC.1 hC.2.1 hp ht hk (-itsF V lv r k g p L)
  have hc2 := hC.pages hp ht hk (-itsF V lv r k g p L)
  have hk' : k = 0 ∨ k = 1 := by omega
  have ht2 : phV (pgsA V p k (-itsF V lv r k g p L)) p = true := by rcases hk' with rfl | rfl <;> exact ht
  have e4 := s_swapOut (P := fun V => P V Q) (hP.1 Q) hc2.1 hc2.2.1 hp ht2 (itsF V lv r k g p L)
  have e3' : F_X8_addPages (P V Q) w (nI p) (nI k) (-itsF V lv r k g p L) = some (P (pgsA V p k (-itsF V lv r k g p L)) Q) := e3
  have e4' : F_X8_swapOut (P (pgsA V p k (-itsF V lv r k g p L)) Q) w (nI p) (itsF V lv r k g p L) = some (P (swpA (pgsA V p k (-itsF V lv r k g p L)) p (itsF V lv r k g p L)) Q) := e4
  unfold F_X5_takeStep
  simp only [fun Q => ol (hP.1 Q).lo, fun Q => cl (hP.1 Q).lc, fun V => ql (hP.2 V), Option.bind_some, e1, if_neg (nI_ne1 (show p < 2 ^ 31 by omega)), hg, hs, hk, hp, bl, e2, e3', e4']
  unfold tkV
  rcases hk' with rfl | rfl
  · rw [if_pos (show nI 0 = 0 from rfl), if_pos rfl]
  · rw [if_neg (show ¬ nI 1 = 0 by decide), if_neg (by decide)]
theorem tkP_none {r way : Nat} {m t : Int32} (h1 : ¬ m ≤ t) (h2 : way < 4) (e : tkS V r (way / 2) (1 - way % 2) (m - t) = none) : tkP r m (V, t, way) = .inl (if way = 1 then evA V 19 r else V, t, way + 1) := by
  unfold tkP
  simp only [if_neg h1, if_neg (Nat.not_le.mpr h2), e]
theorem tkP_some {r way : Nat} {m t : Int32} {x : WV × Int32} (h1 : ¬ m ≤ t) (h2 : way < 4) (e : tkS V r (way / 2) (1 - way % 2) (m - t) = some x) : tkP r m (V, t, way) = .inl (x.1, t + x.2, way) := by
  unfold tkP
  simp only [if_neg h1, if_neg (Nat.not_le.mpr h2), e]
theorem c_take (hP : L2 w q P) (h : TI V n o) {r : Nat} (hr : r < 12) (ht : thV V r = true) {m : Int32} (hm : m.toInt ≤ 999) (Q : WV) : ∃ V' t' Q', F_X5_takePages (P V Q) q w (nI r) m = some (t', P V' Q') ∧ TkRes V r m (V', t') ∧ TI V' n o ∧ TkK V V' ∧ TotLe V V' := by
  obtain ⟨hC, hN, hLi, hS⟩ := id h
  obtain ⟨t0, hE, hT⟩ := s_emptyStocks (P := fun V => P V Q) (hP.1 Q).lt hC.1 hC.2.2.1 (fun g hg htg => ti_le.mpr (by rw [ti_0]; exact hN.1 g hg htg)) hr ht
  obtain ⟨V1, hV1⟩ : ∃ V1, V1 = sx (sx V 14 (noStk V r)) 15 t0 := ⟨_, rfl⟩
  rw [← hV1] at hE hT
  have hD : DrnV V r V1 := ⟨t0, hV1, hT⟩
  obtain ⟨d1, d2, d3⟩ := drn_post h hD
  obtain ⟨s1, s2, s3⟩ := stkF_I hN r
  have hs9 : (stkF V r).toInt ≤ 999 := by have := hN.2.2; have := hN.pgs0; omega
  -- the loop
  obtain ⟨y, y1, V', t', Q', y2, y3, y4, y5, y6⟩ := loop_wH (st := fun x => F_X5_takePages_L16 q w (nI r) m x.1 x.2.1 x.2.2.1 x.2.2.2)
    (fun k x => ∃ (W R : WV) (t : Int32) (way st : Nat), x = (t, nI way, nI st, P W R) ∧ TI W n o ∧ TkK V W ∧ TotLe V W ∧ 0 ≤ t.toInt ∧ t.toInt ≤ 999 ∧ way ≤ 4 ∧ k = (m.toInt - t.toInt).toNat + (4 - way) ∧ st + k ≤ 1500 ∧ ∀ x, Ev (tkP r m) (W, t, way) x → Ev (tkP r m) (V1, stkF V r, 0) x)
    (fun y => ∃ V' t' Q', y = (t', P V' Q') ∧ TkRes V r m (V', t') ∧ TI V' n o ∧ TkK V V' ∧ TotLe V V')
    (fun k x hI => by
      obtain ⟨W, R, t, way, st, rfl, i1, i2, i3, i4, i5, i6, i7, i8, i9⟩ := hI
      have hrW : thV W r = true := by rw [i2.th]; exact ht
      by_cases c1 : m ≤ t
      · right
        refine ⟨(t, P W R), ?_, W, t, R, rfl, ⟨V1, hD, i9 _ (Ev.done (by unfold tkP; rw [if_pos c1]))⟩, i1, i2, i3⟩
        show F_X5_takePages_L16 q w (nI r) m t (nI way) (nI st) (P W R) = _
        unfold F_X5_takePages_L16
        rw [if_pos c1]
      · have c1' : t.toInt < m.toInt := Int.not_le.mp (fun z => c1 (ti_le.mpr z))
        by_cases c2 : 4 ≤ way
        · right
          refine ⟨(t, P W R), ?_, W, t, R, rfl, ⟨V1, hD, i9 _ (Ev.done (by unfold tkP; simp only [if_neg c1, if_pos c2]))⟩, i1, i2, i3⟩
          show F_X5_takePages_L16 q w (nI r) m t (nI way) (nI st) (P W R) = _
          unfold F_X5_takePages_L16
          rw [if_neg c1, h4I, if_pos (nI_le c2 (by omega))]
        · left
          have hw : way < 4 := by omega
          have hL : (m - t).toInt = m.toInt - t.toInt := ti_sub (by omega) (by omega)
          have hk2 : 1 - way % 2 < 2 := by omega
          have hlv : way / 2 < 2 := by omega
          obtain ⟨R1, r1, r2⟩ := c_spares (V := W) hP i1.1.1 i1.1.2.1 hr hrW hlv hk2 (fun g hg => (i1.2.1.pgs (by omega) hk2).2) R
          have r3 := c_rich (V := W) (V' := W) (r := r) (lv := way / 2) (k := 1 - way % 2) hP r2
          have hst : ¬ (2000 : Int32) ≤ nI st := by
            rw [show (2000 : Int32) = nI 2000 from rfl]; exact nI_ge (by omega) (by decide)
          rcases tk_one i1 (r := r) (lv := way / 2) hk2 (L := m - t) (by omega) with ⟨n1, n2⟩ | ⟨g, p, g1, g2, g3, g4, g5, g6, g7, g8, g9, g10, g11, g12, g13, g14⟩
          · have htk := tkP_none c1 hw n2
            have e0 : aR (P W R1) (w + 18) 15 0 = some (w + (19 + 0)) := (tl (hP.1 R1).lt).2.2.2.2.2.2.2.2.2.2.2.2.2.2.2.2.2.2.2.2.2.2.2.2.2.2.1 W 0 (by decide)
            have e1 : aI (P W R1) (w + (19 + 0)) (nI r) = some (W.1 19 r) := (tl (hP.1 R1).lt).2.2.2.2.2.2.2.2.2.2.2.2.2.2.2.2.2.2.2.2.2.2.2.2.2.2.2.1 W 0 r (by decide) hr
            have e2 : sI (P W R1) (w + (19 + 0)) (nI r) (W.1 19 r + 1) = some (P (evA W 19 r) R1) := (tl (hP.1 R1).lt).2.2.2.2.2.2.2.2.2.2.2.2.2.2.2.2.2.2.2.2.2.2.2.2.2.2.2.2 W 0 r _ (by decide) hr
            by_cases w1 : way = 1
            · subst w1
              refine ⟨(t, nI 2, nI (st + 1), P (evA W 19 r) R1), (m.toInt - t.toInt).toNat + (4 - 2), ?_, by omega, evA W 19 r, R1, t, 2, st + 1, rfl, i1.ev (by decide) (by decide) r, i2.trans ⟨fun c a1 a2 a3 a4 a5 a6 a7 => by unfold evA; rw [sx_1, up_n _ _ a4], rfl⟩, i3, i4, i5, by omega, rfl, by omega, fun x hx => i9 x (hx.stp htk)⟩
              show F_X5_takePages_L16 q w (nI r) m t (nI 1) (nI st) (P W R) = _
              unfold F_X5_takePages_L16
              rw [if_neg c1, h4I, if_neg (nI_ge hw (by decide)), if_neg hst]
              have eK' : rmI (nI 1) 2 = some 1 := by decide
              simp only [eK', Option.bind_some, if_neg (show ¬ (1 : Int32) = 0 by decide), if_neg (show ¬ (2 : Int32) ≤ nI 1 by decide)]
              have r1' : F_X5_measureSpares (P W R) q w (nI r) 0 0 = some (P W R1) := r1
              have r3' : F_X5_richestGroup (P W R1) q = some (-1) := by rw [← n1]; exact r3
              simp only [ql (hP.2 W), r1', Option.bind_some, r3', if_true, bl, nI_1, ol (hP.1 R1).lo, tl (hP.1 R1).lt, e0, e1, e2]
              rfl
            · refine ⟨(t, nI (way + 1), nI (st + 1), P W R1), (m.toInt - t.toInt).toNat + (4 - (way + 1)), ?_, by omega, W, R1, t, way + 1, st + 1, rfl, i1, i2, i3, i4, i5, by omega, rfl, by omega, fun x hx => i9 x (Ev.stp (by rw [htk, if_neg w1]) hx)⟩
              have hw2 : ¬ nI way + 1 = 2 := by
                rw [nI_1, h2I]
                intro z
                have := (nI_eq (by omega) (by decide)).mp z
                omega
              show F_X5_takePages_L16 q w (nI r) m t (nI way) (nI st) (P W R) = _
              unfold F_X5_takePages_L16
              rw [if_neg c1, h4I, if_neg (nI_ge hw (by decide)), if_neg hst]
              have r3' : F_X5_richestGroup (P W R1) q = some (-1) := by rw [← n1]; exact r3
              have h4 : way = 0 ∨ way = 2 ∨ way = 3 := by omega
              rcases h4 with rfl | rfl | rfl
              · have eK' : rmI (nI 0) 2 = some 0 := by decide
                have r1' : F_X5_measureSpares (P W R) q w (nI r) 0 1 = some (P W R1) := r1
                simp only [eK', Option.bind_some, if_true, if_neg (show ¬ (2 : Int32) ≤ nI 0 by decide), ql (hP.2 W), r1', r3', bl, if_neg hw2]
                simp only [nI_1]
              · have eK' : rmI (nI 2) 2 = some 0 := by decide
                have r1' : F_X5_measureSpares (P W R) q w (nI r) 1 1 = some (P W R1) := r1
                simp only [eK', Option.bind_some, if_true, if_pos (show (2 : Int32) ≤ nI 2 by decide), ql (hP.2 W), r1', r3', bl, if_neg hw2]
                simp only [nI_1]
              · have eK' : rmI (nI 3) 2 = some 1 := by decide
                have r1' : F_X5_measureSpares (P W R) q w (nI r) 1 0 = some (P W R1) := r1
                simp only [eK', Option.bind_some, if_true, if_neg (show ¬ (1 : Int32) = 0 by decide), if_pos (show (2 : Int32) ≤ nI 3 by decide), ql (hP.2 W), r1', r3', bl, if_neg hw2]
                simp only [nI_1]
          · have htk := tkP_some c1 hw g9
            have hts := c_takeStep hP i1 (lv := way / 2) (r := r) hk2 g1 g7 g8 g6 (Q := R1) (by rw [r2 g g1, g2, g3]; rfl) (m - t)
            obtain ⟨i, hi⟩ : ∃ i, i = itsF W (way / 2) r (1 - way % 2) g p (m - t) := ⟨_, rfl⟩
            rw [← hi] at htk hts g10 g11 g12 g13 g14
            have hti : (t + i).toInt = t.toInt + i.toInt := ti_add (by omega) (by omega)
            refine ⟨(t + i, nI way, nI (st + 1), P (tkV W p (1 - way % 2) i) R1), (m.toInt - (t + i).toInt).toNat + (4 - way), ?_, by omega, tkV W p (1 - way % 2) i, R1, t + i, way, st + 1, rfl, g12, i2.trans g13, i3.trans i2 g14, by omega, by omega, by omega, rfl, by omega, fun x hx => i9 x (hx.stp htk)⟩
            show F_X5_takePages_L16 q w (nI r) m t (nI way) (nI st) (P W R) = _
            unfold F_X5_takePages_L16
            rw [if_neg c1, h4I, if_neg (nI_ge hw (by decide)), if_neg hst]
            have r3' : F_X5_richestGroup (P W R1) q = some (nI g) := by rw [← g4]; exact r3
            have hg1 : ¬ nI g = -1 := nI_ne1 (by omega)
            have h4 : way = 0 ∨ way = 1 ∨ way = 2 ∨ way = 3 := by omega
            rcases h4 with rfl | rfl | rfl | rfl
            · have eK' : rmI (nI 0) 2 = some 0 := by decide
              have r1' : F_X5_measureSpares (P W R) q w (nI r) 0 1 = some (P W R1) := r1
              have hts' : F_X5_takeStep (P W R1) q w (nI g) 1 (m - t) = _ := hts
              simp only [eK', Option.bind_some, if_true, if_neg (show ¬ (2 : Int32) ≤ nI 0 by decide), ql (hP.2 W), r1', r3', bl, if_neg hg1, hts', un, nI_1]
            · have eK' : rmI (nI 1) 2 = some 1 := by decide
              have r1' : F_X5_measureSpares (P W R) q w (nI r) 0 0 = some (P W R1) := r1
              have hts' : F_X5_takeStep (P W R1) q w (nI g) 0 (m - t) = _ := hts
              simp only [eK', Option.bind_some, if_true, if_neg (show ¬ (1 : Int32) = 0 by decide), if_neg (show ¬ (2 : Int32) ≤ nI 1 by decide), ql (hP.2 W), r1', r3', bl, if_neg hg1, hts', un, nI_1]
            · have eK' : rmI (nI 2) 2 = some 0 := by decide
              have r1' : F_X5_measureSpares (P W R) q w (nI r) 1 1 = some (P W R1) := r1
              have hts' : F_X5_takeStep (P W R1) q w (nI g) 1 (m - t) = _ := hts
              simp only [eK', Option.bind_some, if_true, if_pos (show (2 : Int32) ≤ nI 2 by decide), ql (hP.2 W), r1', r3', bl, if_neg hg1, hts', un, nI_1]
            · have eK' : rmI (nI 3) 2 = some 1 := by decide
              have r1' : F_X5_measureSpares (P W R) q w (nI r) 1 0 = some (P W R1) := r1
              have hts' : F_X5_takeStep (P W R1) q w (nI g) 0 (m - t) = _ := hts
              simp only [eK', Option.bind_some, if_true, if_neg (show ¬ (1 : Int32) = 0 by decide), if_pos (show (2 : Int32) ≤ nI 3 by decide), ql (hP.2 W), r1', r3', bl, if_neg hg1, hts', un, nI_1])
    6000 ((m.toInt - (stkF V r).toInt).toNat + (4 - 0)) (stkF V r, 0, 0, P V1 Q) (by omega) ⟨V1, Q, stkF V r, 0, 0, rfl, d1, d2, d3, s2, hs9, by decide, rfl, by omega, fun x hx => hx⟩
  refine ⟨V', t', Q', ?_, y3, y4, y5, y6⟩
  unfold F_X5_takePages
  have hE' : F_X6_emptyStocks (P V Q) (w + 1) (nI r) = some (stkF V r, P V1 Q) := hE
  simp only [ol (hP.1 Q).lo, tl (hP.1 Q).lt, hE', Option.bind_some, un, y1, y2, bl]
end TAKE
