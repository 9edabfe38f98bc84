/-! who is stalled -/
def awB (V : WV) (p : Nat) : Bool := decide (V.1 30 p ≤ 0)
def wtB (V : WV) (p : Nat) : Bool := decide (V.1 30 p ≤ 0) && decide (¬ V.1 31 p ≤ 0)
def sSome (V : WV) (i g : Nat) : Bool := (List.range i).any (fun p => prB V g p && !awB V p)
def sAwk (V : WV) (i g : Nat) : Bool := (List.range i).any (fun p => prB V g p && awB V p)
def sWai (V : WV) (i g : Nat) : Bool := (List.range i).any (fun p => prB V g p && wtB V p)
/-- a group is stalled in some (0), in full (1), in work (2) -/
def STK (V : WV) (k g : Nat) : Bool := if k = 0 then sSome V 16 g else if k = 1 then sSome V 16 g && !sAwk V 16 g else sWai V 16 g
section STALLED
variable {V U : WV} {n : Nat} {o : Nat → Nat} {w b : Nat} {P : WV → Hp}
theorem mkB_or {m : Nat} (hm : m ≤ 32) (f g : Nat → Bool) : mkB m f ||| mkB m g = mkB m (fun x => f x || g x) := mkB_eq hm fun i hi => by
  rw [b_or, bt_mkB hm hi, bt_mkB hm hi]
  cases decide (i < m) <;> simp
theorem any_s (i : Nat) (f : Nat → Bool) : (List.range (i + 1)).any f = ((List.range i).any f || f i) := by
  rw [List.range_succ, List.any_append]; simp
theorem mkB_z {m : Nat} (hm : m ≤ 32) {f : Nat → Bool} (h : ∀ x, x < m → f x = false) : mkB m f = 0 := by
  have : (0 : Int32) = mkB m f := mkB_eq hm fun i hi => by
    rw [b_0]
    by_cases e : i < m
    · simp [h i e]
    · simp [e]
  exact this.symm
theorem s_masks (hP : LW w P) (hO : OrdOK V n o) (hH : HomOK V) : loopF (fun x => F_X8_noteStalls_L9 (P V) w x.1 x.2.1 x.2.2.1 x.2.2.2) 6000 (0, 0, 0, 0) = some (mkB 12 (sSome V 16), mkB 12 (sAwk V 16), mkB 12 (sWai V 16)) := by
  obtain ⟨a, ha, h1, h2, h3⟩ := loop_inv (st := fun x => F_X8_noteStalls_L9 (P V) w x.1 x.2.1 x.2.2.1 x.2.2.2) (fun i (a : Int32 × Int32 × Int32) => (a.1, a.2.1, a.2.2, nI i)) (fun a => a)
    (fun i a => a.1 = mkB 12 (sSome V i) ∧ a.2.1 = mkB 12 (sAwk V i) ∧ a.2.2 = mkB 12 (sWai V i)) 16
    (fun i a hi hI => by
      obtain ⟨i1, i2, i3⟩ := hI
      -- the path, as the class has it
      obtain ⟨f, hf, hpth⟩ : ∃ f : Nat → Bool, (∀ g, g < 12 → f g = prB V g i) ∧ (if V.1 24 i = -1 then some (0 : Int32) else (gR (P V) w 8 0).bind fun a12 => (gR (P V) w 8 1).bind fun a13 => (gR (P V) a13 0 0).bind fun a14 => (aI (P V) a14 (nI i)).bind fun v15 => (cO (P V) a12 6 (F_X6_pathBits (P V) a12 v15)).bind fun v16 => some (v16 : Int32)) = some (mkB 12 f) := by
        cases hq : phV V i
        · have e : V.1 24 i = -1 := by simpa [phV] using hq
          refine ⟨fun _ => false, fun g _ => by simp [prB, hq], ?_⟩
          rw [if_pos e, mkB_z (by decide) (fun _ _ => rfl)]
        · obtain ⟨k1, k2, k3⟩ := hH.at hi hq
          have e : ¬ V.1 24 i = -1 := by simpa [phV] using hq
          refine ⟨fun r => blw (pfV V) r (hom V i), fun g _ => by simp [prB, hq], ?_⟩
          rw [if_neg e]
          simp only [ol hP.lo, cl hP.lc, tl hP.lt, hi, k3, s_pathBits hP.lt hO k1 k2, Option.bind_some]
      have hgo : ∀ z, F_X8_noteStalls_L9 (P V) w a.1 a.2.1 a.2.2 (nI i) = z → (fun (x : Int32 × Int32 × Int32 × Int32) => F_X8_noteStalls_L9 (P V) w x.1 x.2.1 x.2.2.1 x.2.2.2) (a.1, a.2.1, a.2.2, nI i) = z := fun z hz => hz
      have hS : ∀ (u : Bool) (G : Nat → Nat → Bool), (∀ g, g < 12 → (G i g || (f g && u)) = G (i + 1) g) → mkB 12 (G i) ||| (if u then mkB 12 f else 0) = mkB 12 (G (i + 1)) := fun u G hG => by
        cases u
        · simp only [Bool.false_eq_true, if_false]
          rw [show mkB 12 (G i) ||| 0 = mkB 12 (G i) from by simp]
          exact mkB_cong (by decide) fun g hg => by rw [← hG g hg]; simp
        · simp only [if_true]
          rw [mkB_or (by decide)]
          exact mkB_cong (by decide) fun g hg => by rw [← hG g hg]; simp
      have hs : ∀ g, g < 12 → (sSome V i g || (f g && !awB V i)) = sSome V (i + 1) g := fun g hg => by unfold sSome; rw [any_s, hf g hg]
      have hw' : ∀ g, g < 12 → (sAwk V i g || (f g && awB V i)) = sAwk V (i + 1) g := fun g hg => by unfold sAwk; rw [any_s, hf g hg]
      have hv : ∀ g, g < 12 → (sWai V i g || (f g && wtB V i)) = sWai V (i + 1) g := fun g hg => by unfold sWai; rw [any_s, hf g hg]
      have m1 := hS _ (sSome V) hs
      have m2 := hS _ (sAwk V) hw'
      have m3 := hS _ (sWai V) hv
      by_cases c1 : V.1 30 i ≤ 0
      · have ha1 : awB V i = true := decide_eq_true c1
        rw [ha1] at m1 m2
        simp only [Bool.not_true, Bool.false_eq_true, if_false, if_true] at m1 m2
        have m1' : mkB 12 (sSome V i) = mkB 12 (sSome V (i + 1)) := by rw [← m1]; simp
        refine ⟨(mkB 12 (sSome V (i + 1)), mkB 12 (sAwk V (i + 1)), mkB 12 (sWai V (i + 1))), hgo _ ?_, rfl, rfl, rfl⟩
        unfold F_X8_noteStalls_L9
        rw [h16I, if_neg (nI_ge hi (by decide))]
        simp only [ol hP.lo, cl hP.lc, hi, Option.bind_some]
        simp only [ol hP.lo, cl hP.lc, hi, Option.bind_some] at hpth
        rw [hpth]
        simp only [Option.bind_some, if_pos c1, bl, i1, i2, i3, m2, nI_1, m1']
        by_cases c2 : V.1 31 i ≤ 0
        · have hz : wtB V i = false := by simp [wtB, c2]
          rw [hz] at m3
          simp only [Bool.false_eq_true, if_false] at m3
          simp only [if_pos c2, Option.bind_some, m3]
        · have hz : wtB V i = true := by simp [wtB, c1, c2]
          rw [hz] at m3
          simp only [if_true] at m3
          simp only [if_neg c2, Option.bind_some, m3]
      · have ha1 : awB V i = false := decide_eq_false c1
        have hz : wtB V i = false := by simp [wtB, c1]
        rw [ha1] at m1 m2
        rw [hz] at m3
        simp only [Bool.not_false, Bool.false_eq_true, if_false, if_true] at m1 m2 m3
        have m2' : mkB 12 (sAwk V i) = mkB 12 (sAwk V (i + 1)) := by rw [← m2]; simp
        have m3' : mkB 12 (sWai V i) = mkB 12 (sWai V (i + 1)) := by rw [← m3]; simp
        refine ⟨(mkB 12 (sSome V (i + 1)), mkB 12 (sAwk V (i + 1)), mkB 12 (sWai V (i + 1))), hgo _ ?_, rfl, rfl, rfl⟩
        unfold F_X8_noteStalls_L9
        rw [h16I, if_neg (nI_ge hi (by decide))]
        simp only [ol hP.lo, cl hP.lc, hi, Option.bind_some]
        simp only [ol hP.lo, cl hP.lc, hi, Option.bind_some] at hpth
        rw [hpth]
        simp only [Option.bind_some, if_neg c1, bl, i1, i2, i3, m1, nI_1, m2', m3'])
    (fun a hI => by
      show F_X8_noteStalls_L9 (P V) w a.1 a.2.1 a.2.2 (nI 16) = _
      unfold F_X8_noteStalls_L9
      rw [h16I, if_pos (nI_le (Nat.le_refl _) (by decide))])
    16 0 6000 (0, 0, 0) (by decide) (by decide) ⟨(mkB_z (by decide) (fun _ _ => rfl)).symm, (mkB_z (by decide) (fun _ _ => rfl)).symm, (mkB_z (by decide) (fun _ _ => rfl)).symm⟩
  have ha' : loopF (fun x => F_X8_noteStalls_L9 (P V) w x.1 x.2.1 x.2.2.1 x.2.2.2) 6000 (0, 0, 0, 0) = some a := ha
  rw [ha', ← h1, ← h2, ← h3]
theorem mkB_nz {f : Nat → Bool} : (mkB 16 f = 0) ↔ (List.range 16).any f = false := by
  constructor
  · intro h
    cases ha : (List.range 16).any f with
    | false => rfl
    | true =>
      obtain ⟨x, hx, hfx⟩ := List.any_eq_true.mp ha
      have hx' := List.mem_range.mp hx
      have := congrArg (fun z => bt z x) h
      simp only [bt_mkB (show 16 ≤ 32 by decide) (show x < 32 by omega), b_0, hfx, hx', decide_true, Bool.and_self] at this
      cases this
  · intro h
    refine mkB_z (by decide) fun x hx => ?_
    cases hf : f x with
    | false => rfl
    | true =>
      have : (List.range 16).any f = true := List.any_eq_true.mpr ⟨x, List.mem_range.mpr hx, hf⟩
      rw [h] at this; cases this
theorem mkB_inj {f g : Nat → Bool} : (mkB 16 f = mkB 16 g) ↔ ∀ x, x < 16 → f x = g x := by
  constructor
  · intro h x hx
    have := congrArg (fun z => bt z x) h
    simpa only [bt_mkB (show 16 ≤ 32 by decide) (show x < 32 by omega), hx, decide_true, Bool.true_and] using this
  · exact fun h => mkB_cong (by decide) h
theorem m_isStalled (hP : LM b P) (hR : Rel V (U.1 1)) (hO : OrdOK V n o) (hH : HomOK V) (hS : ∀ p, p < 16 → phV V p = true → 0 ≤ (V.1 30 p).toInt) {g k : Nat} (hg : g < 12) (hk : k < 3) : F_X10_isStalled (P U) b (nI g) (nI k) = some (if STK V k g then 1 else 0, P U) := by
  have e1 : F_X10_processesBelow (P U) b (nI g) = some (mkB 16 (prB V g), P U) := m_procsBelow hP hR hO hH hg
  have h := loop_rng (st := fun x => F_X10_isStalled_L15 b (nI k) (mkB 16 (prB V g)) x.1 x.2.1 x.2.2.1 x.2.2.2) (fun i (a : Int32 × Int32) => (a.1, a.2, nI i, P U)) (fun a p => (a.1 ||| (if prB V g p && !awB V p then 1 <<< (nI p &&& 31) else 0), a.2 ||| (if prB V g p && wtB V p then 1 <<< (nI p &&& 31) else 0))) (fun a => (a.1, a.2, P U)) 16
    (fun i a hi => by
      show F_X10_isStalled_L15 b (nI k) (mkB 16 (prB V g)) a.1 a.2 (nI i) (P U) = _
      unfold F_X10_isStalled_L15
      rw [h16I, if_neg (nI_ge hi (by decide))]
      have hb : bt (mkB 16 (prB V g)) i = prB V g i := by rw [bt_mkB (by decide) (by omega)]; simp [hi]
      simp only [m_has _ _ (show i < 31 by omega), hb, Option.bind_some]
      cases hq : prB V g i
      · simp [bl, nI_1]
      · have hph : phV V i = true := (Bool.and_eq_true_iff.mp hq).1
        have hs := hS i hi hph
        simp only [if_true, if_neg (show ¬ (1 : Int32) = 0 by decide), ml hP, mp hP V, hR, hi, hph, Option.bind_some, un]
        by_cases c1 : V.1 30 i ≤ 0
        · have c0 : V.1 30 i = 0 := Int32.le_antisymm c1 (ti_le.mpr (by rw [ti_0]; exact hs))
          have z0 : (0 : Int32) ≤ 0 := Int32.le_refl _
          by_cases c2 : V.1 31 i ≤ 0
          · simp [c0, c2, bl, nI_1, awB, wtB, ml hP, mp hP V, hR, hi, hph, un]
          · simp [c0, c2, bl, nI_1, awB, wtB, ml hP, mp hP V, hR, hi, hph, un]
        · have c0 : ¬ V.1 30 i = 0 := fun e => c1 (by rw [e]; exact Int32.le_refl _)
          simp [c1, c0, bl, nI_1, awB, wtB, ml hP, mp hP V, hR, hi, hph, un])
    (fun a => by
      show F_X10_isStalled_L15 b (nI k) (mkB 16 (prB V g)) a.1 a.2 (nI 16) (P U) = _
      unfold F_X10_isStalled_L15
      rw [h16I, if_pos (nI_le (Nat.le_refl _) (by decide))])
    (n := 6000) (by decide) (0, 0)
  have hpair : ∀ (l : List Nat) (x y : Int32) (f g' : Nat → Int32), l.foldl (fun (a : Int32 × Int32) p => (a.1 ||| f p, a.2 ||| g' p)) (x, y) = (l.foldl (fun a p => a ||| f p) x, l.foldl (fun a p => a ||| g' p) y) := by
    intro l
    induction l with
    | nil => intro x y f g'; rfl
    | cons z l ih => intro x y f g'; rw [List.foldl_cons, List.foldl_cons, List.foldl_cons, ih]
  rw [hpair] at h
  have h' : loopF (fun x => F_X10_isStalled_L15 b (nI k) (mkB 16 (prB V g)) x.1 x.2.1 x.2.2.1 x.2.2.2) 6000 (0, 0, 0, P U) = some (mkB 16 (fun p => prB V g p && !awB V p), mkB 16 (fun p => prB V g p && wtB V p), P U) := h
  unfold F_X10_isStalled
  simp only [ml hP, e1, Option.bind_some, un, h', bl]
  have n0 : nI k = 0 ↔ k = 0 := nI_eq (b := 0) (by omega) (by decide)
  have n2 : nI k = 2 ↔ k = 2 := nI_eq (b := 2) (by omega) (by decide)
  have hsome : (mkB 16 (fun p => prB V g p && !awB V p) = 0) ↔ sSome V 16 g = false := mkB_nz
  have hwai : (mkB 16 (fun p => prB V g p && wtB V p) = 0) ↔ sWai V 16 g = false := mkB_nz
  have hall : (mkB 16 (fun p => prB V g p && !awB V p) = mkB 16 (prB V g)) ↔ sAwk V 16 g = false := by
    rw [mkB_inj]
    unfold sAwk
    constructor
    · intro h
      cases ha : (List.range 16).any (fun p => prB V g p && awB V p) with
      | false => rfl
      | true =>
        obtain ⟨x, hx, hfx⟩ := List.any_eq_true.mp ha
        have := h x (List.mem_range.mp hx)
        obtain ⟨q1, q2⟩ := Bool.and_eq_true_iff.mp hfx
        rw [q1, q2] at this; cases this
    · intro h x hx
      have : ¬ (prB V g x && awB V x) = true := fun q => by
        have : (List.range 16).any (fun p => prB V g p && awB V p) = true := List.any_eq_true.mpr ⟨x, List.mem_range.mpr hx, q⟩
        rw [h] at this; cases this
      cases h1 : prB V g x <;> cases h2 : awB V x <;> simp_all
  unfold STK
  have hk3 : k = 0 ∨ k = 1 ∨ k = 2 := by omega
  rcases hk3 with rfl | rfl | rfl
  · simp only [if_neg (show ¬ nI 0 = 2 by decide), if_pos (show nI 0 = 0 from rfl), if_pos (show (0 : Nat) = 0 from rfl)]
    cases hs : sSome V 16 g
    · rw [if_pos (hsome.mpr hs)]; rfl
    · rw [if_neg (fun q => by rw [hsome.mp q] at hs; cases hs)]; rfl
  · simp only [if_neg (show ¬ nI 1 = 2 by decide), if_neg (show ¬ nI 1 = 0 by decide), if_neg (show ¬ (1 : Nat) = 0 by decide), if_pos (show (1 : Nat) = 1 from rfl)]
    cases hs : sSome V 16 g
    · rw [if_pos (hsome.mpr hs)]; rfl
    · rw [if_neg (fun q => by rw [hsome.mp q] at hs; cases hs)]
      cases hw2 : sAwk V 16 g
      · rw [if_pos (hall.mpr hw2)]; rfl
      · rw [if_neg (fun q => by rw [hall.mp q] at hw2; cases hw2)]; rfl
  · simp only [if_pos (show nI 2 = 2 from rfl), if_neg (show ¬ (2 : Nat) = 0 by decide), if_neg (show ¬ (2 : Nat) = 1 by decide)]
    cases hw2 : sWai V 16 g
    · rw [if_pos (hwai.mpr hw2)]; rfl
    · rw [if_neg (fun q => by rw [hwai.mp q] at hw2; cases hw2)]; rfl
end STALLED
