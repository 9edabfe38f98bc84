/-! calls that act: process, fork -/
variable {kt : Nat}
section PROC
variable {V : WV} {n s : Nat} {o : Nat → Nat} {M M' : Nat → Int32} {p g : Nat} {a : Int32}
theorem pp_c {c : Nat} (hc : c < 24 ∨ c = 26 ∨ 33 ≤ c) (x : Int32) : (putP V p x a).1 c = V.1 c := by
  unfold putP
  rw [sx_1, up_n _ _ (by omega), sx_1, up_n _ _ (by omega), sx_1, up_n _ _ (by omega), sx_1, up_n _ _ (by omega), sx_1, up_n _ _ (by omega), sx_1, up_n _ _ (by omega), sx_1, up_n _ _ (by omega), sx_1, up_n _ _ (by omega)]
theorem pp_24 (x : Int32) : (putP V p x a).1 24 = upd (V.1 24) p x := rfl
theorem pp_25 (x : Int32) : (putP V p x a).1 25 = upd (V.1 25) p a := rfl
theorem pp_27 (x : Int32) : (putP V p x a).1 27 = upd (V.1 27) p 0 := rfl
theorem pp_28 (x : Int32) : (putP V p x a).1 28 = upd (V.1 28) p 0 := rfl
theorem pp_29 (x : Int32) : (putP V p x a).1 29 = upd (V.1 29) p 0 := rfl
theorem pp_30 (x : Int32) : (putP V p x a).1 30 = upd (V.1 30) p 0 := rfl
theorem pp_31 (x : Int32) : (putP V p x a).1 31 = upd (V.1 31) p 0 := rfl
theorem pp_32 (x : Int32) : (putP V p x a).1 32 = upd (V.1 32) p 0 := rfl
theorem pp_ph {q : Nat} (hq : q ≠ p) (x : Int32) : phV (putP V p x a) q = phV V q := by
  unfold phV; rw [pp_24, upd_ne _ _ hq]
theorem pp_php (hg : g < 12) : phV (putP V p (nI g) a) p = true := by
  unfold phV; rw [pp_24, upd_s]; exact decide_eq_true (nI_ne1 (by omega))
theorem wok_born (hW : WOK kt V n o s) (hp : p < 16) (hd : phV V p = false) (hg : g < 12) (ht : thV V g = true) : WOK kt (putP V p (nI g) a) n o s := by
  obtain ⟨hC, hN, hL, hS⟩ := id hW.ti
  have c : ∀ c, (c < 24 ∨ c = 26 ∨ 33 ≤ c) → (putP V p (nI g) a).1 c = V.1 c := fun c hc => pp_c hc _
  have e2 := c 2 (by omega)
  have e0 := c 0 (by omega)
  have dead24 : decide (V.1 24 p ≠ -1) = false := hd
  have alive24 : decide ((putP V p (nI g) a).1 24 p ≠ -1) = true := pp_php hg
  have t27 : (putP V p (nI g) a).1 27 p + (putP V p (nI g) a).1 28 p = 0 := by rw [pp_27, pp_28, upd_s, upd_s]; rfl
  have t29 : (putP V p (nI g) a).1 29 p = 0 := by rw [pp_29, upd_s]
  have hT : TotOK (putP V p (nI g) a) := by
    refine hC.2.2.1.proc (dt := fun _ => 0) e2 (c 14 (by omega)) hp (fun q hq hne => ?_) (fun r hr htr => ?_) (fun r hr htr => ?_)
    · rw [pp_24, pp_27, pp_28, upd_ne _ _ hne, upd_ne _ _ hne, upd_ne _ _ hne]; exact ⟨rfl, rfl⟩
    · rw [c 15 (by omega), Int32.add_zero]
    · unfold pTerm
      dsimp only
      rw [t27, ite_self, dead24, Bool.false_and, if_neg (by decide), Int32.add_zero]
  have hOu : OutOK (putP V p (nI g) a) := by
    refine hC.2.2.2.proc (dt := fun _ => 0) e2 hp (fun q hq hne => ?_) (fun r hr htr => ?_) (fun r hr htr => ?_)
    · rw [pp_24, pp_29, upd_ne _ _ hne, upd_ne _ _ hne]; exact ⟨rfl, rfl⟩
    · rw [c 16 (by omega), Int32.add_zero]
    · unfold pTerm
      rw [t29, ite_self, dead24, Bool.false_and, if_neg (by decide), Int32.add_zero]
  have hH : HomOK (putP V p (nI g) a) := fun q hq hh => by
    by_cases e : q = p
    · exact ⟨g, hg, by rw [thV_same e2]; exact ht, by rw [e, pp_24, upd_s]⟩
    · rw [pp_ph e] at hh
      obtain ⟨x, x1, x2, x3⟩ := hC.2.1 q hq hh
      exact ⟨x, x1, by rw [thV_same e2]; exact x2, by rw [pp_24, upd_ne _ _ e]; exact x3⟩
  have sumE : ∀ (f f' : Nat → Int), (∀ q, q < 16 → q ≠ p → f' q = f q) → f' p = 0 → f p = 0 → isum 16 f' = isum 16 f := fun f f' h1 h2 h3 => isum_cg 16 fun q hq => by
    by_cases e : q = p
    · rw [e, h2, h3]
    · exact h1 q hq e
  have hph : ∀ q, q ≠ p → phV (putP V p (nI g) a) q = phV V q := fun q hq => pp_ph hq _
  refine ⟨⟨⟨hC.1.same (c 1 (by omega)) e2 (c 3 (by omega)), hH, hT, hOu⟩, ⟨?_, fun q hq hh => ?_, ?_⟩, ?_, ?_⟩, ?_, fun q hq hh => ?_, ?_, fun q hq hh => ?_, fun q hq hh => ?_, ?_, ?_, ?_⟩
  · rw [thV_same e2, c 14 (by omega)]; exact hN.1
  · rw [pp_27, pp_28, pp_29]
    by_cases e : q = p
    · rw [e, upd_s, upd_s, upd_s]; decide
    · rw [upd_ne _ _ e, upd_ne _ _ e, upd_ne _ _ e]
      exact hN.2.1 q hq (by rw [← hph q e]; exact hh)
  · have e1 : stkI (putP V p (nI g) a) = stkI V := by
      unfold stkI
      rw [thV_same e2, c 14 (by omega)]
    have e3 : pgsI (putP V p (nI g) a) = pgsI V := by
      refine sumE _ _ (fun q hq hne => ?_) ?_ ?_
      · rw [hph q hne, pp_27, pp_28, upd_ne _ _ hne, upd_ne _ _ hne]
      · rw [pp_27, pp_28, upd_s, upd_s, pp_php hg]; rfl
      · rw [hd]; rfl
    rw [e1, e3]; exact hN.2.2
  · have h := hL
    unfold LimR at h ⊢
    rw [thV_same e2, c 5 (by omega), c 6 (by omega), c 7 (by omega), c 8 (by omega), c 10 (by omega), c 11 (by omega), c 12 (by omega)]; exact h
  · have e3 : swpI (putP V p (nI g) a) = swpI V := by
      refine sumE _ _ (fun q hq hne => ?_) ?_ ?_
      · rw [hph q hne, pp_29, upd_ne _ _ hne]
      · rw [pp_29, upd_s, pp_php hg]; rfl
      · rw [hd]; rfl
    unfold SwN
    rw [e3, e0]; exact hS
  · have h := hW.mx
    unfold MaxOK at h ⊢
    rw [thV_same e2, c 15 (by omega), c 8 (by omega)]; exact h
  · have e : q ≠ p := fun z => by rw [z, pp_php hg] at hh; cases hh
    rw [hph q e] at hh
    rw [pp_27, pp_28, pp_31, upd_ne _ _ e, upd_ne _ _ e, upd_ne _ _ e]
    exact hW.dd q hq hh
  · have h := hW.tg
    unfold TrgN trg tww at h ⊢
    rw [c 52 (by omega), c 53 (by omega), c 54 (by omega), thV_same e2]; exact h
  · unfold StB
    rw [pp_30]
    by_cases e : q = p
    · rw [e, upd_s]; decide
    · rw [upd_ne _ _ e]; exact hW.st q hq (by rw [← hph q e]; exact hh)
  · rw [pp_31]
    by_cases e : q = p
    · rw [e, upd_s]; decide
    · rw [upd_ne _ _ e]; exact hW.td q hq (by rw [← hph q e]; exact hh)
  · rw [e0]; exact hW.bt
  · rw [e0]; exact hW.cap
  · rw [e0]; exact hW.tik
def lpF (x a : Int32) (f : Nat) : Int32 := if f = 1 then a else if f = 0 then x else 0
theorem pp_f (x : Int32) (f : Nat) (hf : f < 8) : (putP V p x a).1 (cp f) = upd (V.1 (cp f)) p (lpF x a f) := by
  have h : f = 0 ∨ f = 1 ∨ f = 2 ∨ f = 3 ∨ f = 4 ∨ f = 5 ∨ f = 6 ∨ f = 7 := by omega
  rcases h with rfl | rfl | rfl | rfl | rfl | rfl | rfl | rfl <;> rfl
theorem Rel.born (h : Rel V M) (hp : p < 16) (hg : g < 12) (h1 : M' 1 = M 1 ||| (1 <<< (nI p &&& 31))) (hrow : ∀ f, f < 8 → M' (415 + 8 * p + f) = lpF (nI g) a f) (hM : ∀ i, i ≠ 1 → (i < 415 + 8 * p ∨ 415 + 8 * p + 8 ≤ i) → M' i = M i) : Rel (putP V p (nI g) a) M' := by
  obtain ⟨⟨a0, a1, a2, a3, a4, a5, a6⟩, h2, h3, h4, h5⟩ := h
  have c : ∀ c, (c < 24 ∨ c = 26 ∨ 33 ≤ c) → (putP V p (nI g) a).1 c = V.1 c := fun c hc => pp_c hc _
  have t2 : thV (putP V p (nI g) a) = thV V := thV_same (c 2 (by omega))
  refine ⟨⟨?_, ?_, ?_, ?_, ?_, ?_, ?_⟩, ?_, ?_, ?_, ?_⟩
  · rw [hM 0 (by omega) (by omega), a0, t2]
  · rw [h1, a1]
    refine mkB_eq (by decide) fun i hi => ?_
    rw [b_or, bt_mkB (by decide) hi, bt_one (by omega) hi]
    by_cases e : i = p
    · subst e
      rw [pp_php hg]; simp [hp]
    · rw [pp_ph e]; simp [e]
  · rw [hM 2 (by omega) (by omega), a2, c 0 (by omega)]
  · rw [hM 3 (by omega) (by omega), a3, c 0 (by omega)]
  · rw [hM 4 (by omega) (by omega), a4, c 52 (by omega)]
  · rw [hM 5 (by omega) (by omega), a5, c 0 (by omega)]
  · rw [hM 6 (by omega) (by omega), a6, c 0 (by omega)]
  · intro x f hx ht hf hc
    rw [t2] at ht
    have hd := cg_dom f hf hc
    rw [hM _ (by omega) (by omega), c (cg f) (by omega)]
    exact h2 x f hx ht hf hc
  · intro x k hx ht hk
    rw [t2] at ht
    rw [hM _ (by omega) (by omega), hM _ (by omega) (by omega)]
    exact h3 x k hx ht hk
  · intro q f hq ht hf
    rw [pp_f _ f hf]
    by_cases e : q = p
    · rw [e, upd_s]; exact hrow f hf
    · rw [pp_ph e] at ht
      rw [upd_ne _ _ e, hM _ (by omega) (by omega)]
      exact h4 q f hq ht hf
  · intro i k hi hk
    rw [hM _ (by omega) (by omega), c (53 + k) (by omega)]
    exact h5 i k hi hk
theorem m_zeroP {P : WV → Hp} (hP : LM 756 P) (hp : p < 16) (z1 z2 : Int32) (U : WV) : ∃ M', loopF (fun x => F_X10_comes_L91 756 z1 z2 (nI p) x.1 x.2) 6000 (0, P U) = some (P (sx U 1 M')) ∧ (∀ f, f < 8 → M' (415 + 8 * p + f) = 0) ∧ ∀ i, (i < 415 + 8 * p ∨ 415 + 8 * p + 8 ≤ i) → M' i = U.1 1 i := by
  obtain ⟨a, ha, i1, i2⟩ := loop_inv (st := fun x => F_X10_comes_L91 756 z1 z2 (nI p) x.1 x.2) (fun k (a : Nat → Int32) => (nI k, P (sx U 1 a))) (fun a => P (sx U 1 a)) (fun m a => (∀ f, f < m → a (415 + 8 * p + f) = 0) ∧ ∀ i, (i < 415 + 8 * p ∨ 415 + 8 * p + m ≤ i) → a i = U.1 1 i) 8
    (fun m a hm hI => by
      obtain ⟨i1, i2⟩ := hI
      refine ⟨upd a (415 + 8 * p + m) 0, ?_, fun f hf => ?_, fun i hi => ?_⟩
      · show F_X10_comes_L91 756 z1 z2 (nI p) (nI m) (P (sx U 1 a)) = _
        unfold F_X10_comes_L91
        have e1 : ∀ f, (sx U 1 f).1 1 = f := fun f => rfl
        rw [show (8 : Int32) = nI 8 from rfl, if_neg (nI_ge hm (by decide))]
        simp only [ml hP, m_laysP hP hp hm, sx_sx, e1, Option.bind_some, bl, nI_1]
      · by_cases e : f = m
        · rw [e, upd_s]
        · rw [upd_ne _ _ (by omega)]; exact i1 f (by omega)
      · rw [upd_ne _ _ (by omega)]; exact i2 i (by omega))
    (fun a hI => by
      show F_X10_comes_L91 756 z1 z2 (nI p) (nI 8) (P (sx U 1 a)) = _
      unfold F_X10_comes_L91
      rw [show (8 : Int32) = nI 8 from rfl, if_pos (nI_le (Nat.le_refl _) (by decide))])
    8 0 6000 (U.1 1) (by omega) (by omega) ⟨fun f hf => absurd hf (Nat.not_lt_zero _), fun _ _ => rfl⟩
  refine ⟨a, ?_, i1, i2⟩
  rw [← ha]
  show _ = loopF _ 6000 (nI 0, P (sx U 1 (U.1 1)))
  rw [sx_id]; rfl
theorem m_comesL {P : WV → Hp} {U : WV} (hP : LM 756 P) (hR : Rel V (U.1 1)) (hO : OrdOK V n o) (hH : HomOK V) (hg : g < 12) (ht : thV V g = true) (z1 z2 z3 : Int32) (b : Bool) : loopF (fun x => F_X10_comes_L28 756 z1 z2 z3 x.1 x.2.1 x.2.2) 6000 (if b then 1 else 0, nI g, P U) = some (if b && !(pth (pfV V) g).any (fullV V) then 1 else 0, P U) := by
  have hT := hO.tree
  obtain ⟨y, y1, y2⟩ := loop_pH (st := fun x => F_X10_comes_L28 756 z1 z2 z3 x.1 x.2.1 x.2.2) (fun l (c : Bool) => (if c then 1 else 0, hd l, P U)) (fun l c => Sfx (thV V) (pfV V) l ∧ (c && !l.any (fullV V)) = (b && !(pth (pfV V) g).any (fullV V)))
    (fun y => y = (if b && !(pth (pfV V) g).any (fullV V) then 1 else 0, P U))
    (fun x l c hI => by
      obtain ⟨hs, hf⟩ := hI
      obtain ⟨hx, htx, hp, hs', hl⟩ := hs.cons hT
      left
      refine ⟨c && !fullV V x, ?_, hs', ?_⟩
      · show F_X10_comes_L28 756 z1 z2 z3 (if c then 1 else 0) (nI x) (P U) = _
        unfold F_X10_comes_L28
        rw [if_neg (nI_ne1 (by omega))]
        simp only [ml hP, m_isFull hP hR hO hH hx htx, Option.bind_some, un, m_parent hP hR hx htx, hO.hdv hs, bl]
        cases c <;> cases fullV V x <;> rfl
      · rw [← hf, List.any_cons]
        cases c <;> cases fullV V x <;> simp)
    (fun c hI => ⟨_, by
      show F_X10_comes_L28 756 z1 z2 z3 (if c then 1 else 0) (-1) (P U) = _
      unfold F_X10_comes_L28
      rw [if_pos rfl], by
      have := hI.2
      simp only [List.any_nil, Bool.not_false, Bool.and_true] at this
      rw [← this]⟩)
    (pth (pfV V) g) 6000 b (by have := pth_len (pfV V) g; omega) ⟨Sfx.pth hg ht, rfl⟩
  rw [← y2, ← y1]
  show _ = loopF _ 6000 (if b then 1 else 0, hd (pth (pfV V) g), P U)
  rw [pth_cons hT hg ht]; rfl
theorem pre_all (hO : OrdOK V n o) (hg : g < 12) (ht : thV V g = true) : pre (pfV V) g (-1) = pth (pfV V) g := by
  unfold pre
  have : ∀ l : List Nat, (∀ x ∈ l, x < 12) → l.takeWhile (fun x => decide (nI x ≠ -1)) = l := fun l => by
    induction l with
    | nil => intro _; rfl
    | cons x l ih =>
      intro h
      rw [List.takeWhile_cons, if_pos (decide_eq_true (nI_ne1 (by have := h x List.mem_cons_self; omega))), ih (fun y hy => h y (List.mem_cons_of_mem _ hy))]
  exact this _ fun x hx => (pth_mem hO.tree 12 g (pth_len _ _) hg ht x hx).1
theorem ff_some {N : Nat} {f : Nat → Bool} {p : Nat} (h : ffI N f = some p) : p < N ∧ f p = false := by
  unfold ffI at h
  have h1 := List.find?_some h
  have h2 := List.mem_of_find?_eq_some h
  exact ⟨List.mem_range.mp h2, by simpa using h1⟩
theorem core_start {im : Nat → Option Nat} {N z e : Nat} {G : WV} (hG : GI kt im N G z e) (hW : WOK kt (get 1 G) n o s) (hg : g < 12) (ht : thV (get 1 G) g = true) (a : Int32) :
    (F_X9_startProcess (PG im N G) 0 (nI g) a = some (-4, PG im N G) ∧ ∀ (P : WV → Hp) (U : WV), LM 756 P → Rel (get 1 G) (U.1 1) → F_X10_comes (P (thr U)) 756 (nI g) a = some (-4, P (thr U))) ∨
    (∃ told V' G3, F_X9_startProcess (PG im N G) 0 (nI g) a = some (told, PG im N G3) ∧ 0 ≤ told ∧ CAct G G3 V' z e ∧ WO (kt + 40) V' ∧ ∀ (P : WV → Hp) (U : WV), LM 756 P → Rel (get 1 G) (U.1 1) → U.1 0 8 = nI z → ∃ U3, F_X10_comes (P (thr U)) 756 (nI g) a = some (told, P U3) ∧ MAct U U3 V' z) := by
  have hN := hG.n
  have hO := hW.ti.1.1
  have hH := hW.ti.1.2.1
  have r1 : F_X0_firstFree (PG im N G) 24 = some (match ffI 16 (phV (get 1 G)) with | none => -1 | some g => nI g) := at_lv (F := fun h => F_X0_firstFree h 24) hN G fun P hX => s_pfirst hX.1.lc
  have r2 : F_X8_pidsFull (PG im N G) 1 (nI g) (-1) = some (if (pth (pfV (get 1 G)) g).any (fullV (get 1 G)) then 1 else 0) := by
    rw [← pre_all hO hg ht]
    exact at_lv (F := fun h => F_X8_pidsFull h 1 (nI g) (-1)) hN G fun P hX => s_pids hX.1 hO hH hg ht (-1)
  have fr : ∀ (P : WV → Hp) (U : WV), LM 756 P → Rel (get 1 G) (U.1 1) → F_X10_freeIn (P (thr U)) ((thr U).1 1 1) 16 = some (match ffI 16 (phV (get 1 G)) with | none => nI 16 | some g => nI g) := fun P U hP hR => by
    have e : (thr U).1 1 1 = mkB 16 (phV (get 1 G)) := hR.1.2.1
    rw [e]
    exact m_freeIn (P (thr U)) (N := 16) (by decide) (phV (get 1 G))
  have cl : ∀ (P : WV → Hp) (U : WV) (z1 z2 z3 : Int32) (b : Bool), LM 756 P → Rel (get 1 G) (U.1 1) → loopF (fun x => F_X10_comes_L28 756 z1 z2 z3 x.1 x.2.1 x.2.2) 6000 (if b then 1 else 0, nI g, P (thr U)) = some (if b && !(pth (pfV (get 1 G)) g).any (fullV (get 1 G)) then 1 else 0, P (thr U)) := fun P U z1 z2 z3 b hP hR => m_comesL hP (U := thr U) hR hO hH hg ht z1 z2 z3 b
  cases hff : ffI 16 (phV (get 1 G)) with
  | none =>
    rw [hff] at r1
    left
    refine ⟨?_, fun P U hP hR => ?_⟩
    · unfold F_X9_startProcess
      simp only [gl hN, gv hN, r1, Option.bind_some, if_true]
    · have f1 := fr P U hP hR
      rw [hff] at f1
      have f1' : F_X10_freeIn (P (thr U)) ((thr U).1 1 1) 16 = some (nI 16) := f1
      have c1 : loopF (fun x => F_X10_comes_L28 756 (nI g) a (nI 16) x.1 x.2.1 x.2.2) 6000 (0, nI g, P (thr U)) = some (0, P (thr U)) := by
        have := cl P U (nI g) a (nI 16) false hP hR
        rw [Bool.false_and] at this
        exact this
      unfold F_X10_comes
      simp only [ml hP, ml0 hP, f1', Option.bind_some, if_pos (show (16 : Int32) ≤ nI 16 by decide), c1, bl, if_true]
  | some p =>
    obtain ⟨hp, hd⟩ := ff_some hff
    rw [hff] at r1
    have np : ¬ nI p = -1 := nI_ne1 (by omega)
    have n16 : ¬ (16 : Int32) ≤ nI p := nI_ge hp (by decide)
    cases hfu : (pth (pfV (get 1 G)) g).any (fullV (get 1 G))
    · rw [hfu] at r2
      right
      obtain ⟨G1, V1, Q1, t1, t2, t3⟩ := c_try hG
      have hL2 := l2_at (im := im) (w1 N) hN G1
      have hW1 := t1.wok hW
      have htV : thV V1 g = true := by rw [t1.th hg]; exact ht
      have hdV : phV V1 p = false := by rw [t1.ph hp]; exact hd
      obtain ⟨G3, s1, s2⟩ := t3 (putP V1 p (nI g) a) Q1 (nI p)
      have h0 : 0 ≤ nI p := ti_nn (by rw [nI_toInt (by omega)]; omega)
      rw [if_pos h0] at s2
      have pu := s_putP (V := V1) (hL2.1 Q1).lc hp (nI g) a
      refine ⟨nI p, putP V1 p (nI g) a, G3, ?_, h0, s2, ⟨n, o, s, (wok_born hW1 hp hdV hg htV).mono (by omega)⟩, fun P U hP hR h8 => ?_⟩
      · unfold F_X9_startProcess
        simp only [gl hN, gv hN, r1, r2, Option.bind_some, if_neg np, Bool.false_eq_true, if_false, if_true, t2, g2 hN 1 G1, ol (hL2.1 Q1).lo, LB.co (hL2.1 Q1) (o := 23) (t := 0) (by decide) (by decide) rfl, pu, s1, un]
      · have f1 := fr P U hP hR
        rw [hff] at f1
        have f1' : F_X10_freeIn (P (thr U)) ((thr U).1 1 1) 16 = some (nI p) := f1
        have c1 : loopF (fun x => F_X10_comes_L28 756 (nI g) a (nI p) x.1 x.2.1 x.2.2) 6000 (1, nI g, P (thr U)) = some (1, P (thr U)) := by
          have := cl P U (nI g) a (nI p) true hP hR
          rw [hfu] at this
          exact this
        have hR1 : Rel V1 ((bgn (thr U)).1 1) := by rw [bgn_1]; exact t1.rel hR
        obtain ⟨B, hB⟩ : ∃ B, B = bgn (thr U) := ⟨_, rfl⟩
        rw [← hB] at hR1
        obtain ⟨C, hC⟩ : ∃ C, C = sx B 1 (upd (B.1 1) 1 (B.1 1 1 ||| (1 <<< (nI p &&& 31)))) := ⟨_, rfl⟩
        have c11 : C.1 1 = upd (B.1 1) 1 (B.1 1 1 ||| (1 <<< (nI p &&& 31))) := by rw [hC]; rfl
        obtain ⟨M1, q1, q2, q3⟩ := m_zeroP hP hp (nI g) a C
        have l1 : F_X10_laysProcess (P (sx C 1 M1)) 756 (nI p) 0 (nI g) = some (P (sx C 1 (upd M1 (415 + 8 * p + 0) (nI g)))) := by
          have := m_laysP (U := sx C 1 M1) (f := 0) hP hp (by decide) (nI g)
          rw [sx_sx] at this
          exact this
        have l2 : F_X10_laysProcess (P (sx C 1 (upd M1 (415 + 8 * p + 0) (nI g)))) 756 (nI p) 1 a = some (P (sx C 1 (upd (upd M1 (415 + 8 * p + 0) (nI g)) (415 + 8 * p + 1) a))) := by
          have := m_laysP (U := sx C 1 (upd M1 (415 + 8 * p + 0) (nI g))) (f := 1) hP hp (by decide) a
          rw [sx_sx] at this
          exact this
        obtain ⟨M2, hM2⟩ : ∃ M2, M2 = upd (upd M1 (415 + 8 * p + 0) (nI g)) (415 + 8 * p + 1) a := ⟨_, rfl⟩
        rw [← hM2] at l2
        have hR2 : Rel (putP V1 p (nI g) a) M2 := by
          refine hR1.born hp hg ?_ (fun f hf => ?_) (fun i hi h => ?_)
          · rw [hM2, upd_ne _ _ (by omega), upd_ne _ _ (by omega), q3 1 (by omega), c11, upd_s]
          · rw [hM2]
            unfold lpF
            by_cases e1 : f = 1
            · rw [e1, upd_s, if_pos rfl]
            · rw [upd_ne _ _ (by omega), if_neg e1]
              by_cases e0 : f = 0
              · rw [e0, upd_s, if_pos rfl]
              · rw [upd_ne _ _ (by omega), if_neg e0]; exact q2 f hf
          · rw [hM2, upd_ne _ _ (by omega), upd_ne _ _ (by omega), q3 i h, c11, upd_ne _ _ hi]
        have hk2 : Keep (bgn (thr U)) (sx C 1 M2) := by
          rw [← hB]
          have k1 : Keep B C := by rw [hC]; exact Keep.up B (by omega) _
          refine k1.trans (Keep.sx1 C fun i hi => ?_)
          rw [hM2, upd_ne _ _ (by omega), upd_ne _ _ (by omega), q3 i (by omega)]
        obtain ⟨U3, m1, m2⟩ := m_told hP (thr_same U) hG.2.1 h8 hk2 hR2 (nI p)
        refine ⟨U3, ?_, m2⟩
        unfold F_X10_comes
        simp only [ml hP, ml0 hP, f1', Option.bind_some, if_neg n16, c1, bl, if_neg i10, m_bgn hP, ← hB, ← hC, q1, l1, l2, m1, un]
    · rw [hfu] at r2
      left
      refine ⟨?_, fun P U hP hR => ?_⟩
      · unfold F_X9_startProcess
        simp only [gl hN, gv hN, r1, r2, Option.bind_some, if_neg np, if_true, if_neg i10]
      · have f1 := fr P U hP hR
        rw [hff] at f1
        have f1' : F_X10_freeIn (P (thr U)) ((thr U).1 1 1) 16 = some (nI p) := f1
        have c1 : loopF (fun x => F_X10_comes_L28 756 (nI g) a (nI p) x.1 x.2.1 x.2.2) 6000 (1, nI g, P (thr U)) = some (0, P (thr U)) := by
          have := cl P U (nI g) a (nI p) true hP hR
          rw [hfu] at this
          exact this
        unfold F_X10_comes
        simp only [ml hP, ml0 hP, f1', Option.bind_some, if_neg n16, c1, bl, if_true]
theorem T_process (g x : Int32) : TH (fun h => F_X9_process h 0 g x) (fun h => F_X10_process h 756 g x) := act fun im N G z e n o s hG hW => by
  have hN := hG.n
  have c1 : (-10 : Int64).toInt = -10 := rfl
  have c2 : (10 : Int64).toInt = 10 := rfl
  have d1 : (-10 : Int32).toInt = -10 := rfl
  have d2 : (10 : Int32).toInt = 10 := rfl
  rcases g_cs (get 1 G) g with hf | ⟨k, hk, rfl, ht⟩
  · left
    refine ⟨-2, ?_, fun P U hP _ hR => ⟨thr U, ?_, thr_same U⟩⟩
    · unfold F_X9_process
      simp only [gl hN, gv hN, g_has hN, hf, Bool.false_eq_true, if_false, if_true, Option.bind_some]
    · unfold F_X10_process
      simp only [m_thr hP, ml hP, Option.bind_some, m_isGroup hP (U := thr U) hR, hf, Bool.false_eq_true, if_false, if_true]
  · by_cases hx : -10 ≤ x.toInt ∧ x.toInt ≤ 10
    · rcases core_start hG hW hk ht x with ⟨a1, a2⟩ | ⟨told, V', G3, a1, a2, a3, a4, a5⟩
      · left
        refine ⟨-4, ?_, fun P U hP _ hR => ⟨thr U, ?_, thr_same U⟩⟩
        · unfold F_X9_process
          simp only [gl hN, gv hN, g_has' hN G hk, ht, if_true, if_neg i10, o_out, d1, d2, if_pos hx, Option.bind_some, a1, un]
        · unfold F_X10_process
          simp only [m_thr hP, ml hP, Option.bind_some, m_isGroup' hP (U := thr U) hR hk, ht, if_true, if_neg i10, m_within, c1, c2, if_pos hx, a2 P U hP hR, un]
      · right
        refine ⟨told, V', G3, ?_, by rw [if_pos a2]; exact ⟨a3, a4⟩, fun P U hP _ hR h8 => ?_⟩
        · unfold F_X9_process
          simp only [gl hN, gv hN, g_has' hN G hk, ht, if_true, if_neg i10, o_out, d1, d2, if_pos hx, Option.bind_some, a1, un]
        · obtain ⟨U3, m1, m2⟩ := a5 P U hP hR h8
          refine ⟨U3, ?_, by rw [if_pos a2]; exact m2⟩
          unfold F_X10_process
          simp only [m_thr hP, ml hP, Option.bind_some, m_isGroup' hP (U := thr U) hR hk, ht, if_true, if_neg i10, m_within, c1, c2, if_pos hx, m1, un]
    · left
      refine ⟨-3, ?_, fun P U hP _ hR => ⟨thr U, ?_, thr_same U⟩⟩
      · unfold F_X9_process
        simp only [gl hN, gv hN, g_has' hN G hk, ht, if_true, if_neg i10, o_out, d1, d2, if_neg hx, Option.bind_some]
      · unfold F_X10_process
        simp only [m_thr hP, ml hP, Option.bind_some, m_isGroup' hP (U := thr U) hR hk, ht, if_true, if_neg i10, m_within, c1, c2, if_neg hx]
theorem T_fork (p : Int32) : TH (fun h => F_X9_fork h 0 p) (fun h => F_X10_fork h 756 p) := act fun im N G z e n o s hG hW => by
  have hN := hG.n
  rcases p_cs (get 1 G) p with hf | ⟨a, ha, rfl, hta⟩
  · left
    refine ⟨-2, ?_, fun P U hP _ hR => ⟨thr U, ?_, thr_same U⟩⟩
    · unfold F_X9_fork
      simp only [gl hN, gv hN, g_phas hN, hf, Bool.false_eq_true, if_false, if_true, Option.bind_some]
    · unfold F_X10_fork
      simp only [m_thr hP, ml hP, Option.bind_some, m_isProc hP (U := thr U) hR, hf, Bool.false_eq_true, if_false, if_true]
  · obtain ⟨j1, j2, j3⟩ := hW.ti.1.2.1.at ha hta
    have r1 : gR (PG im N G) 24 0 0 = some 25 := at_lv (F := fun h => gR h 24 0 0) hN G fun P hX => (cl hX.1.lc).2.1 _
    have r2 : aI (PG im N G) 25 (nI a) = some (nI (hom (get 1 G) a)) := by
      rw [← j3]
      exact at_lv (F := fun h => aI h 25 (nI a)) hN G fun P hX => hX.1.ldi (V := get 1 G) (o := 24) (by decide) (by decide) rfl (by decide) ha
    have r3 : gR (PG im N G) 24 0 1 = some 26 := at_lv (F := fun h => gR h 24 0 1) hN G fun P hX => (cl hX.1.lc).2.2.1 _
    have r4 : aI (PG im N G) 26 (nI a) = some ((get 1 G).1 25 a) := at_lv (F := fun h => aI h 26 (nI a)) hN G fun P hX => hX.1.ldi (V := get 1 G) (o := 25) (by decide) (by decide) rfl (by decide) ha
    have f0 : ∀ (P : WV → Hp) (U : WV), LM 756 P → Rel (get 1 G) (U.1 1) → F_X10_groupOf (P (thr U)) 756 (nI a) = some (nI (hom (get 1 G) a), P (thr U)) := fun P U hP hR => by rw [m_home hP (U := thr U) hR ha hta, j3]
    have f1 : ∀ (P : WV → Hp) (U : WV), LM 756 P → Rel (get 1 G) (U.1 1) → F_X10_ofProcess (P (thr U)) 756 (nI a) 1 0 = some ((get 1 G).1 25 a, P (thr U)) := fun P U hP hR => m_pr hP (U := thr U) hR ha hta (f := 1) (by decide)
    rcases core_start hG hW j1 j2 ((get 1 G).1 25 a) with ⟨a1, a2⟩ | ⟨told, V', G3, a1, a2, a3, a4, a5⟩
    · left
      refine ⟨-4, ?_, fun P U hP _ hR => ⟨thr U, ?_, thr_same U⟩⟩
      · unfold F_X9_fork
        simp only [gl hN, gv hN, g_phas' hN G ha, hta, if_true, if_neg i10, Option.bind_some, r1, r2, r3, r4, a1, un]
      · unfold F_X10_fork
        simp only [m_thr hP, ml hP, Option.bind_some, m_isProc' hP (U := thr U) hR ha, hta, if_true, if_neg i10, f0 P U hP hR, f1 P U hP hR, a2 P U hP hR, un]
    · right
      refine ⟨told, V', G3, ?_, by rw [if_pos a2]; exact ⟨a3, a4⟩, fun P U hP _ hR h8 => ?_⟩
      · unfold F_X9_fork
        simp only [gl hN, gv hN, g_phas' hN G ha, hta, if_true, if_neg i10, Option.bind_some, r1, r2, r3, r4, a1, un]
      · obtain ⟨U3, m1, m2⟩ := a5 P U hP hR h8
        refine ⟨U3, ?_, by rw [if_pos a2]; exact m2⟩
        unfold F_X10_fork
        simp only [m_thr hP, ml hP, Option.bind_some, m_isProc' hP (U := thr U) hR ha, hta, if_true, if_neg i10, f0 P U hP hR, f1 P U hP hR, m1, un]
end PROC
