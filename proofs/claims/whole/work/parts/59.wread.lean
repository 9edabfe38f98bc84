/-! bits counted, sets; the World's reads -/
theorem tb_bt (x : Int32) (i : Nat) : (n32 x).testBit i = bt x i := by
  unfold n32 bt
  rw [BitVec.testBit_toNat]
theorem cnt_mkB {f : Nat → Bool} : cntN 32 (fun i => (n32 (mkB 16 f)).testBit i) = cntN 16 f := by
  have h : cntN 32 (fun i => (n32 (mkB 16 f)).testBit i) = cntN 32 (fun i => decide (i < 16) && f i) := cntN_cong fun i hi => by
    rw [tb_bt, bt_mkB (by decide) hi]
  have z : ∀ n, cntN n (fun _ => false) = 0 := fun n => by
    induction n with
    | zero => rfl
    | succ n ih => rw [cntN, ih]; rfl
  rw [h, show (32 : Nat) = 16 + 16 from rfl, cntN_add]
  have e1 : cntN 16 (fun i => decide (i < 16) && f i) = cntN 16 f := cntN_cong fun i hi => by simp [hi]
  have e2 : cntN 16 (fun i => decide (16 + i < 16) && f (16 + i)) = cntN 16 (fun _ => false) := cntN_cong fun i hi => by
    have : ¬ 16 + i < 16 := by omega
    simp [this]
  rw [e1, e2, z]
  rfl
theorem one_mkB {v : Nat} (hv : v < 16) : (1 : Int32) <<< (nI v &&& 31) = mkB 16 (fun p => decide (p = v)) := mkB_eq (by decide) fun i hi => by
  rw [bt_one (by omega) hi]
  by_cases e : i = v
  · subst e; simp [hv]
  · simp [e]
theorem mkB_0 : mkB 16 (fun _ => false) = 0 := (mkB_eq (by decide) fun i hi => by rw [b_0]; simp).symm
/-- processes below r -/
def prB (V : WV) (r p : Nat) : Bool := phV V p && blw (pfV V) r (hom V p)
/-- a group has as many processes below it as it may -/
def fullV (V : WV) (x : Nat) : Bool := decide (V.1 13 x ≤ nI (cntN 16 (prB V x)))
/-- the path of g ahead of e -/
def pre (pf : Nat → Option Nat) (g : Nat) (e : Int32) : List Nat := (pth pf g).takeWhile (fun x => decide (nI x ≠ e))
def tS (V : WV) (r : Nat) (a : Option Nat) (x : Nat) : Option Nat := if blw (pfV V) r x && decide (V.1 9 x = 1) then some x else a
section WREAD
variable {V : WV} {n : Nat} {o : Nat → Nat} {w : Nat} {P : WV → Hp}
theorem s_bitsP (hP : LW w P) (hO : OrdOK V n o) (hH : HomOK V) {r : Nat} (hr : r < 12) (ht : thV V r = true) : F_X8_bitsOfProcesses (P V) w (nI r) = some (mkB 16 (prB V r)) := by
  have h := loop_rng (st := fun x => F_X8_bitsOfProcesses_L14 (P V) w (mkB 12 (fun g => thV V g && blw (pfV V) r g)) x.1 x.2) (fun i (a : Int32) => (a, nI i)) (fun a p => a ||| (if prB V r p then 1 <<< (nI p &&& 31) else 0)) (fun a => a) 16
    (fun i a hi => by
      show F_X8_bitsOfProcesses_L14 (P V) w _ a (nI i) = _
      unfold F_X8_bitsOfProcesses_L14
      rw [h16I, if_neg (nI_ge hi (by decide))]
      simp only [ol hP.lo, cl hP.lc, hi, Option.bind_some]
      cases hq : phV V i
      · have e : V.1 24 i = -1 := by simpa [phV] using hq
        simp [e, bl, nI_1, prB, hq]
      · obtain ⟨k1, k2, k3⟩ := hH.at hi hq
        have e : ¬ V.1 24 i = -1 := by simpa [phV] using hq
        rw [if_neg e, k3]
        have hb : bt (mkB 12 (fun g => thV V g && blw (pfV V) r g)) (hom V i) = blw (pfV V) r (hom V i) := by
          rw [bt_mkB (by decide) (by omega)]; simp [k1, k2]
        cases hz : blw (pfV V) r (hom V i)
        · rw [if_neg (fun q => by rw [bit_iff (by omega), hb, hz] at q; cases q)]
          simp [bl, nI_1, prB, hq, hz]
        · rw [if_pos ((bit_iff (by omega)).mpr (hb.trans hz))]
          simp [bl, nI_1, prB, hq, hz])
    (fun a => by
      show F_X8_bitsOfProcesses_L14 (P V) w _ a (nI 16) = _
      unfold F_X8_bitsOfProcesses_L14
      rw [h16I, if_pos (nI_le (Nat.le_refl _) (by decide))])
    (n := 6000) (by decide) 0
  unfold F_X8_bitsOfProcesses
  have h' : loopF (fun x => F_X8_bitsOfProcesses_L14 (P V) w (mkB 12 (fun g => thV V g && blw (pfV V) r g)) x.1 x.2) 6000 (0, 0) = _ := h
  simp only [ol hP.lo, tl hP.lt, s_bits hP.lt hO hr ht, Option.bind_some, h']
  rfl
theorem s_victim (hP : LW w P) (hO : OrdOK V n o) (hH : HomOK V) {r : Nat} (hr : r < 12) (ht : thV V r = true) : F_X8_victimBelow (P V) w (nI r) = some (oI (vicF V r)) ∧ ∀ v, vicF V r = some v → v < 16 ∧ mor V r v = true := by
  have h := loop_cnt (st := fun x => F_X8_victimBelow_L11 (P V) w (mkB 16 (prB V r)) x.1 x.2) (fun i (a : Option Nat) => (oI a, nI i)) (vicS V r) (fun a => oI a) (fun i a => ∀ v, a = some v → v < 16 ∧ mor V r v = true) 16
    (fun i a hi hI => by
      refine ⟨?_, ?_⟩
      · show F_X8_victimBelow_L11 (P V) w _ (oI a) (nI i) = _
        unfold F_X8_victimBelow_L11
        rw [h16I, if_neg (nI_ge hi (by decide))]
        have hb : bt (mkB 16 (prB V r)) i = prB V r i := by rw [bt_mkB (by decide) (by omega)]; simp [hi]
        cases hq : prB V r i
        · have hm : mor V r i = false := by
            show (prB V r i && _) = false
            rw [hq]; rfl
          have hnb : ¬ ((mkB 16 (prB V r) >>> (nI i &&& 31)) &&& 1 = 1) := fun q => by
            rw [bit_iff (by omega), hb, hq] at q; cases q
          simp only [if_neg hnb, Option.bind_some, if_true]
          simp [bl, nI_1, vicS, hm]
        · simp only [if_pos ((bit_iff (by omega)).mpr (hb.trans hq) : (mkB 16 (prB V r) >>> (nI i &&& 31)) &&& 1 = 1), ol hP.lo, cl hP.lc, hi, Option.bind_some]
          by_cases h10 : V.1 25 i = -10
          · have hm : mor V r i = false := by
              show (prB V r i && _) = false
              rw [h10]; simp
            simp [h10, bl, nI_1, vicS, hm]
          · have hm : mor V r i = true := by
              show (prB V r i && _) = true
              rw [hq]; simp [h10]
            cases a with
            | none => simp [h10, bl, nI_1, vicS, hm, oI]
            | some q =>
              obtain ⟨q1, q2⟩ := hI q rfl
              have q4 : ¬ nI q = -1 := nI_ne1 (by omega)
              simp only [oI, bl, s_bad hP.lc hi, s_bad hP.lc q1, ol hP.lo, cl hP.lc, Option.bind_some, if_neg h10, if_neg q4, vicS, hm, if_true, if_neg (show ¬ (1 : Int32) = 0 by decide)]
              by_cases hle : badV V i ≤ badV V q
              · simp [hle, nI_1]
              · simp [hle, nI_1]
      · intro v hv
        unfold vicS at hv
        cases hm : mor V r i
        · rw [hm] at hv
          exact hI v hv
        · rw [hm] at hv
          cases a with
          | none => cases hv; exact ⟨hi, hm⟩
          | some q =>
            simp only [if_true] at hv
            split at hv
            · cases hv; exact hI _ rfl
            · cases hv; exact ⟨hi, hm⟩)
    (fun a hI => by
      show F_X8_victimBelow_L11 (P V) w _ (oI a) (nI 16) = _
      unfold F_X8_victimBelow_L11
      rw [h16I, if_pos (nI_le (Nat.le_refl _) (by decide))])
    16 0 6000 none (by decide) (by decide) (fun v hv => by cases hv)
  rw [← List.range_eq_range'] at h
  obtain ⟨h1, h2⟩ := h
  unfold F_X8_victimBelow
  have h' : loopF (fun x => F_X8_victimBelow_L11 (P V) w (mkB 16 (prB V r)) x.1 x.2) 6000 (-1, 0) = _ := h1
  simp only [ol hP.lo, s_bitsP hP hO hH hr ht, Option.bind_some, h']
  exact ⟨rfl, h2⟩
theorem s_mortal (hP : LW w P) (hO : OrdOK V n o) (hH : HomOK V) {r : Nat} (hr : r < 12) (ht : thV V r = true) : F_X8_mortalBelow (P V) w (nI r) = some (mkB 16 (mor V r)) := by
  obtain ⟨a, ha, hI⟩ := loop_inv (st := fun x => F_X8_mortalBelow_L8 (P V) w x.1 x.2) (fun i (a : Int32) => (a, nI i)) (fun a => a) (fun i a => ∀ j, j < 32 → bt a j = (decide (j < 16) && prB V r j && (decide (i ≤ j) || decide (V.1 25 j ≠ -10)))) 16
    (fun i a hi hI => by
      by_cases h10 : V.1 25 i = -10
      · refine ⟨a &&& ((1 <<< (nI i &&& 31)) ^^^ (-1)), ?_, fun j hj => ?_⟩
        · show F_X8_mortalBelow_L8 (P V) w a (nI i) = _
          unfold F_X8_mortalBelow_L8
          rw [h16I, if_neg (nI_ge hi (by decide))]
          simp only [ol hP.lo, cl hP.lc, hi, Option.bind_some, h10, if_true, bl, nI_1]
        · rw [b_and, b_xor, bt_one (by omega) hj, b_m1 j hj, hI j hj]
          by_cases e : j = i
          · subst e; simp [h10]
          · have : i + 1 ≤ j ↔ i ≤ j := by omega
            simp [e, this]
      · refine ⟨a, ?_, fun j hj => ?_⟩
        · show F_X8_mortalBelow_L8 (P V) w a (nI i) = _
          unfold F_X8_mortalBelow_L8
          rw [h16I, if_neg (nI_ge hi (by decide))]
          simp only [ol hP.lo, cl hP.lc, hi, Option.bind_some, if_neg h10, bl, nI_1]
        · rw [hI j hj]
          by_cases e : j = i
          · subst e; simp [h10]
          · have : i + 1 ≤ j ↔ i ≤ j := by omega
            simp [this])
    (fun a hI => by
      show F_X8_mortalBelow_L8 (P V) w a (nI 16) = _
      unfold F_X8_mortalBelow_L8
      rw [h16I, if_pos (nI_le (Nat.le_refl _) (by decide))])
    16 0 6000 (mkB 16 (prB V r)) (by decide) (by decide) (fun j hj => by rw [bt_mkB (by decide) hj]; simp)
  unfold F_X8_mortalBelow
  have h' : loopF (fun x => F_X8_mortalBelow_L8 (P V) w x.1 x.2) 6000 (mkB 16 (prB V r), 0) = _ := ha
  simp only [ol hP.lo, s_bitsP hP hO hH hr ht, Option.bind_some, h']
  congr 1
  refine mkB_eq (by decide) fun j hj => ?_
  rw [hI j hj]
  by_cases h16 : j < 16
  · have : ¬ 16 ≤ j := by omega
    simp [h16, this, mor, prB]
  · simp [h16]
theorem pth_up {r : Nat} (hO : OrdOK V n o) (hr : r < 12) (ht : thV V r = true) : ∀ x ∈ pth (pfV V) r, x ≠ r → blw (pfV V) r x = false := by
  intro x hx hne
  obtain ⟨rk, -, hk⟩ := hO.rank
  have h1 := pth_rk hk _ r (Nat.lt_succ_self _) hr ht x hx
  obtain ⟨x1, x2, -⟩ := pth_mem hO.tree _ r (Nat.le_refl _) hr ht x hx
  cases hb : blw (pfV V) r x with
  | false => rfl
  | true =>
    have h2 := pth_rk hk _ x (Nat.lt_succ_self _) x1 x2 r (of_decide_eq_true hb)
    rcases h1 with h1 | h1
    · exact absurd h1 hne
    · rcases h2 with h2 | h2
      · exact absurd h2.symm hne
      · omega
theorem s_top (hP : LW w P) (hO : OrdOK V n o) (hH : HomOK V) {r v : Nat} (hr : r < 12) (ht : thV V r = true) (hv : v < 16) (hm : mor V r v = true) (z : Int32) :
    loopF (fun x => F_X8_dyingBelow_L29 (P V) w (nI r) z x.1 x.2.1 x.2.2) 6000 (-1, V.1 24 v, 0) = some (oI (topF V r v)) ∧ ∀ t, topF V r v = some t → t < 12 ∧ thV V t = true := by
  have hph : phV V v = true := by simp only [mor, Bool.and_eq_true] at hm; exact hm.1.1
  have hbl : blw (pfV V) r (hom V v) = true := by simp only [mor, Bool.and_eq_true] at hm; exact hm.1.2
  obtain ⟨k1, k2, k3⟩ := hH.at hv hph
  have hT := hO.tree
  obtain ⟨q, h1, h2⟩ := loop_pH (st := fun x => F_X8_dyingBelow_L29 (P V) w (nI r) z x.1 x.2.1 x.2.2) (fun l (a : Option Nat × Nat) => (oI a.1, hd l, nI a.2))
    (fun l a => Sfx (thV V) (pfV V) l ∧ a.2 + l.length ≤ 12 ∧ topF V r v = l.foldl (tS V r) a.1 ∧ (∀ t, a.1 = some t → t < 12 ∧ thV V t = true) ∧ (r ∈ l ∨ (hd l = V.1 2 r ∧ ∀ x ∈ l, blw (pfV V) r x = false)))
    (fun q => q = oI (topF V r v) ∧ ∀ t, topF V r v = some t → t < 12 ∧ thV V t = true)
    (fun x l a hI => by
      obtain ⟨hs, hk, hf, hA, hc⟩ := hI
      obtain ⟨hx, htx, hp, hs', hl⟩ := hs.cons hT
      have hk12 : a.2 < 12 := by simp at hk; omega
      have hxr : V.1 2 x = hd l := hO.hdv hs
      rcases hc with hc | ⟨hc1, hc2⟩
      · left
        have hbx : blw (pfV V) r x = true := by unfold blw; rw [← hp]; exact decide_eq_true hc
        have hne : ¬ nI x = V.1 2 r := by
          intro e
          obtain ⟨rk, -, hk'⟩ := hO.rank
          have e1 := pth_rk hk' _ x (Nat.lt_succ_self _) hx htx r (of_decide_eq_true hbx)
          by_cases r0 : r = 0
          · rw [r0, hO.2.2.2.2.2.2.1] at e
            exact nI_ne1 (by omega) e
          · obtain ⟨y, hy1, hy2, hy3, hy4⟩ := hk'.2.2.2 r hr ht r0
            have : y = x := by
              have hh := hO.hdv (x := r) (l := pth (pfV V) y) (by
                have := pth_cons hT hr ht
                rw [hy1] at this
                rw [← this]; exact Sfx.pth hr ht)
              rw [hh, pth_cons hT hy2 hy3] at e
              exact ((nI_eq (by omega) (by omega)).mp e).symm
            subst this
            rcases e1 with e1 | e1
            · rw [e1] at hy4; omega
            · omega
        refine ⟨(tS V r a.1 x, a.2 + 1), ?_, hs', by simp at hk ⊢; omega, hf, ?_, ?_⟩
        · show F_X8_dyingBelow_L29 (P V) w (nI r) z (oI a.1) (nI x) (nI a.2) = _
          unfold F_X8_dyingBelow_L29
          rw [if_neg (nI_ne1 (by omega)), h12I, if_neg (nI_ge hk12 (by decide))]
          have e4 : aR (P V) (w + 4) 15 4 = some (w + (5 + 4)) := (tl hP.lt).2.2.2.2.2.2.2.2.2.2.2.2.2.2.2.2.2.2.2.2.2.2.2.1 V 4 (by decide)
          have e9 : aI (P V) (w + (5 + 4)) (nI x) = some (V.1 9 x) := by
            simp only [tl hP.lt, hx, (by decide : 4 < 9)]
          simp only [ol hP.lo, tl hP.lt, hr, hx, Option.bind_some, if_neg hne, e4, e9, bl, nI_1, hxr]
          by_cases hw : V.1 9 x = 1
          · simp [hw, tS, hbx, oI]
          · simp [hw, tS, hbx]
        · intro t htt
          unfold tS at htt
          split at htt
          · cases htt; exact ⟨hx, htx⟩
          · exact hA t htt
        · by_cases e : x = r
          · subst e
            right
            refine ⟨hxr.symm, fun y hy => ?_⟩
            have hnd := pth_nodup hT hx htx
            rw [← hp] at hnd
            refine pth_up hO hx htx y (by rw [← hp]; exact List.mem_cons_of_mem _ hy) ?_
            intro e; subst e
            exact (List.nodup_cons.mp hnd).1 hy
          · left
            rcases List.mem_cons.mp hc with hc | hc
            · exact absurd hc.symm e
            · exact hc
      · right
        have hfold : ∀ (l : List Nat) (a : Option Nat), (∀ x ∈ l, blw (pfV V) r x = false) → l.foldl (tS V r) a = a := by
          intro l
          induction l with
          | nil => intro a _; rfl
          | cons y l ih =>
            intro a hy
            rw [List.foldl_cons]
            have : tS V r a y = a := by unfold tS; rw [hy y List.mem_cons_self]; rfl
            rw [this]; exact ih a (fun x hx => hy x (List.mem_cons_of_mem _ hx))
        rw [hfold _ _ hc2] at hf
        refine ⟨oI a.1, ?_, by rw [hf], by rw [hf]; exact hA⟩
        have hc1' : nI x = V.1 2 r := hc1
        show F_X8_dyingBelow_L29 (P V) w (nI r) z (oI a.1) (nI x) (nI a.2) = _
        unfold F_X8_dyingBelow_L29
        rw [if_neg (nI_ne1 (by omega))]
        simp only [ol hP.lo, tl hP.lt, hr, Option.bind_some, hc1', if_true])
    (fun a hI => by
      obtain ⟨hs, hk, hf, hA, hc⟩ := hI
      have hf' : topF V r v = a.1 := hf
      refine ⟨oI a.1, ?_, by rw [hf'], by rw [hf']; exact hA⟩
      show F_X8_dyingBelow_L29 (P V) w (nI r) z (oI a.1) (-1) (nI a.2) = _
      unfold F_X8_dyingBelow_L29
      rw [if_pos rfl])
    (pth (pfV V) (hom V v)) 6000 (none, 0) (by have := pth_len (pfV V) (hom V v); omega)
    ⟨Sfx.pth k1 k2, by have := pth_len (pfV V) (hom V v); omega, rfl, (fun t ht => by cases ht), Or.inl (of_decide_eq_true hbl)⟩
  have e : V.1 24 v = hd (pth (pfV V) (hom V v)) := by rw [k3, pth_cons hT k1 k2]; rfl
  rw [e]
  have h1' : loopF (fun x => F_X8_dyingBelow_L29 (P V) w (nI r) z x.1 x.2.1 x.2.2) 6000 (-1, hd (pth (pfV V) (hom V v)), 0) = some q := h1
  rw [h1', h2.1]
  exact ⟨rfl, h2.2⟩
theorem s_dying (hP : LW w P) (hO : OrdOK V n o) (hH : HomOK V) {r : Nat} (hr : r < 12) (ht : thV V r = true) : F_X8_dyingBelow (P V) w (nI r) = some (mkB 16 (dyS V r)) := by
  obtain ⟨h1, h2⟩ := s_victim hP hO hH hr ht
  unfold F_X8_dyingBelow
  simp only [ol hP.lo, h1, Option.bind_some]
  unfold dyS
  cases hv : vicF V r with
  | none => simp [oI, mkB_0]
  | some v =>
    obtain ⟨v1, v2⟩ := h2 v hv
    obtain ⟨t1, t2⟩ := s_top hP hO hH hr ht v1 v2 (nI v)
    simp only [oI, if_neg (nI_ne1 (show v < 2 ^ 31 by omega)), cl hP.lc, v1, Option.bind_some, t1]
    cases hto : topF V r v with
    | none => simp [oI, one_mkB v1]
    | some t =>
      obtain ⟨a1, a2⟩ := t2 t hto
      simp only [oI, if_neg (nI_ne1 (show t < 2 ^ 31 by omega)), s_mortal hP hO hH a1 a2, Option.bind_some]
theorem s_pids (hP : LW w P) (hO : OrdOK V n o) (hH : HomOK V) {g : Nat} (hg : g < 12) (ht : thV V g = true) (e : Int32) : F_X8_pidsFull (P V) w (nI g) e = some (if (pre (pfV V) g e).any (fullV V) then 1 else 0) := by
  have hT := hO.tree
  obtain ⟨q, h1, h2⟩ := loop_pH (st := fun x => F_X8_pidsFull_L5 (P V) w e x.1 x.2) (fun l (k : Nat) => (hd l, nI k))
    (fun l k => Sfx (thV V) (pfV V) l ∧ k + l.length ≤ 12 ∧ (pre (pfV V) g e).any (fullV V) = (l.takeWhile (fun x => decide (nI x ≠ e))).any (fullV V))
    (fun q => q = if (pre (pfV V) g e).any (fullV V) then .inl 1 else .inr ())
    (fun x l k hI => by
      obtain ⟨hs, hk, hf⟩ := hI
      obtain ⟨hx, htx, hp, hs', hl⟩ := hs.cons hT
      have hk12 : k < 12 := by simp at hk; omega
      have hxr : V.1 2 x = hd l := hO.hdv hs
      by_cases he : nI x = e
      · right
        refine ⟨.inr (), ?_, ?_⟩
        · show F_X8_pidsFull_L5 (P V) w e (nI x) (nI k) = _
          unfold F_X8_pidsFull_L5
          rw [if_neg (nI_ne1 (by omega)), if_pos he]
        · rw [hf]; simp [he]
      · have e8 : aR (P V) (w + 4) 15 8 = some (w + (5 + 8)) := (tl hP.lt).2.2.2.2.2.2.2.2.2.2.2.2.2.2.2.2.2.2.2.2.2.2.2.1 V 8 (by decide)
        have e9 : aI (P V) (w + (5 + 8)) (nI x) = some (V.1 13 x) := by
          simp only [tl hP.lt, hx, (by decide : 8 < 9)]
        have hfl : fullV V x = true ↔ ¬ nI (cntN 16 (prB V x)) < V.1 13 x := by simp [fullV]
        by_cases hfu : nI (cntN 16 (prB V x)) < V.1 13 x
        · left
          refine ⟨k + 1, ?_, hs', by simp at hk; omega, ?_⟩
          · show F_X8_pidsFull_L5 (P V) w e (nI x) (nI k) = _
            unfold F_X8_pidsFull_L5
            rw [if_neg (nI_ne1 (by omega)), if_neg he, h12I, if_neg (nI_ge hk12 (by decide))]
            simp only [ol hP.lo, tl hP.lt, s_bitsP hP hO hH hx htx, s_bitI, cnt_mkB, hx, Option.bind_some, e8, e9, if_pos hfu, bl, nI_1, hxr]
          · rw [hf]
            have : fullV V x = false := by
              cases hz : fullV V x with
              | false => rfl
              | true => exact absurd hfu (hfl.mp hz)
            simp [he, this]
        · right
          refine ⟨.inl 1, ?_, ?_⟩
          · show F_X8_pidsFull_L5 (P V) w e (nI x) (nI k) = _
            unfold F_X8_pidsFull_L5
            rw [if_neg (nI_ne1 (by omega)), if_neg he, h12I, if_neg (nI_ge hk12 (by decide))]
            simp only [ol hP.lo, tl hP.lt, s_bitsP hP hO hH hx htx, s_bitI, cnt_mkB, hx, Option.bind_some, e8, e9, if_neg hfu]
          · rw [hf]; simp [he, hfl.mpr hfu])
    (fun k hI => by
      refine ⟨.inr (), ?_, ?_⟩
      · show F_X8_pidsFull_L5 (P V) w e (-1) (nI k) = _
        unfold F_X8_pidsFull_L5
        rw [if_pos rfl]
      · rw [hI.2.2]; rfl)
    (pth (pfV V) g) 6000 0 (by have := pth_len (pfV V) g; omega) ⟨Sfx.pth hg ht, by have := pth_len (pfV V) g; omega, rfl⟩
  unfold F_X8_pidsFull
  have h1' : loopF (fun x => F_X8_pidsFull_L5 (P V) w e x.1 x.2) 6000 (nI g, 0) = some q := by
    rw [← h1]
    show _ = loopF _ 6000 (hd (pth (pfV V) g), nI 0)
    rw [pth_cons hT hg ht]; rfl
  rw [h1', h2, Option.bind_some]
  cases (pre (pfV V) g e).any (fullV V) <;> rfl
end WREAD
