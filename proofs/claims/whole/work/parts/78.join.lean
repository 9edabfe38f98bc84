/-! may a process join a group -/
def swB (V : WV) (p x : Nat) : Bool := decide (¬ V.1 16 x + V.1 29 p ≤ V.1 10 x)
def jnB (V : WV) (p g : Nat) (e : Int32) : Bool := (pre (pfV V) g e).any (fullV V) || (decide (¬ V.1 29 p ≤ 0) && (pre (pfV V) g e).any (swB V p))
/-- the groups of the path of g that aren't of the path of r -/
def newP (pf : Nat → Option Nat) (g r : Nat) : List Nat := (pth pf g).takeWhile (fun x => !blw pf x r)
section JOIN
variable {V U : WV} {n : Nat} {o : Nat → Nat} {w b : Nat} {P : WV → Hp}
theorem tw_find {qf : Nat → Bool} : ∀ (l : List Nat), (∀ x ∈ l, x < 2 ^ 31) → (∃ x ∈ l, qf x = true) → l.takeWhile (fun x => decide (nI x ≠ nI ((l.find? qf).getD 0))) = l.takeWhile (fun x => !qf x)
  | [], _, h => by obtain ⟨x, hx, -⟩ := h; cases hx
  | x :: l, hl, h => by
    cases hq : qf x
    · have h' : ∃ y ∈ l, qf y = true := by
        obtain ⟨y, hy, hy2⟩ := h
        rcases List.mem_cons.mp hy with e | e
        · subst e; rw [hq] at hy2; cases hy2
        · exact ⟨y, e, hy2⟩
      have ih := tw_find l (fun y hy => hl y (List.mem_cons_of_mem _ hy)) h'
      rw [List.find?_cons, hq]
      obtain ⟨z, hz⟩ : ∃ z, l.find? qf = some z := by
        cases hf : l.find? qf with
        | some z => exact ⟨z, rfl⟩
        | none =>
          obtain ⟨y, hy, hy2⟩ := h'
          exact absurd hy2 (by simpa using List.find?_eq_none.mp hf y hy)
      rw [hz] at ih ⊢
      have hne : nI x ≠ nI z := fun e => by
        have hzl := List.mem_of_find?_eq_some hz
        have hzq := List.find?_some hz
        have := (nI_eq (hl x List.mem_cons_self) (hl z (List.mem_cons_of_mem _ hzl))).mp e
        rw [← this, hq] at hzq; cases hzq
      rw [List.takeWhile_cons, List.takeWhile_cons]
      simp only [hq, Bool.not_false, if_true, Option.getD_some] at ih ⊢
      rw [if_pos (decide_eq_true hne), ih]
    · rw [List.find?_cons, hq]
      rw [List.takeWhile_cons, List.takeWhile_cons]
      simp [hq]
theorem pre_new (hO : OrdOK V n o) {g r : Nat} (hg : g < 12) (ht : thV V g = true) (hr : r < 12) (htr : thV V r = true) : pre (pfV V) g (nI (lca (pfV V) g r)) = newP (pfV V) g r := by
  unfold pre newP lca
  refine tw_find _ (fun x hx => ?_) ⟨0, of_decide_eq_true (blw_root hO.tree hg ht), blw_root hO.tree hr htr⟩
  have := (pth_mem hO.tree _ g (Nat.le_refl _) hg ht x hx).1
  omega
theorem s_join (hP : LW w P) (hO : OrdOK V n o) (hH : HomOK V) {p g : Nat} (hp : p < 16) (hg : g < 12) (ht : thV V g = true) (a0 : Nat) (e : Int32) : F_X3_mayNotJoin (P V) a0 w (nI p) (nI g) e = some (if jnB V p g e then 1 else 0) := by
  have hT := hO.tree
  unfold F_X3_mayNotJoin
  simp only [ol hP.lo, s_pids hP hO hH hg ht e, Option.bind_some]
  cases hf : (pre (pfV V) g e).any (fullV V)
  · simp only [Bool.false_eq_true, if_false, if_true, ol hP.lo, cl hP.lc, hp, Option.bind_some]
    obtain ⟨y, h1, h2⟩ := loop_pH (st := fun x => F_X3_mayNotJoin_L29 (P V) w e (V.1 29 p) x.1 x.2) (fun l (k : Nat) => (hd l, nI k))
      (fun l k => Sfx (thV V) (pfV V) l ∧ k + l.length ≤ 12 ∧ (pre (pfV V) g e).any (swB V p) = (l.takeWhile (fun x => decide (nI x ≠ e))).any (swB V p))
      (fun y => y = if decide (¬ V.1 29 p ≤ 0) && (pre (pfV V) g e).any (swB V p) then .inl 1 else .inr ())
      (fun x l k hI => by
        obtain ⟨hs, hk, hf2⟩ := hI
        obtain ⟨hx, htx, hp', hs', hl⟩ := hs.cons hT
        have hk12 : k < 12 := by simp at hk; omega
        by_cases hz : V.1 29 p ≤ 0
        · right
          refine ⟨.inr (), ?_, by simp [hz]⟩
          show F_X3_mayNotJoin_L29 (P V) w e (V.1 29 p) (nI x) (nI k) = _
          unfold F_X3_mayNotJoin_L29
          rw [if_pos hz]
        · by_cases he : nI x = e
          · right
            refine ⟨.inr (), ?_, by rw [hf2]; simp [he]⟩
            show F_X3_mayNotJoin_L29 (P V) w e (V.1 29 p) (nI x) (nI k) = _
            unfold F_X3_mayNotJoin_L29
            rw [if_neg hz, if_neg (nI_ne1 (by omega)), if_pos he]
          · have e5 : aR (P V) (w + 4) 15 5 = some (w + (5 + 5)) := (tl hP.lt).2.2.2.2.2.2.2.2.2.2.2.2.2.2.2.2.2.2.2.2.2.2.2.1 V 5 (by decide)
            have e10 : aI (P V) (w + (5 + 5)) (nI x) = some (V.1 10 x) := (tl hP.lt).2.2.2.2.2.2.2.2.2.2.2.2.2.2.2.2.2.2.2.2.2.2.2.2.1 V 5 x (by decide) hx
            by_cases hc : V.1 16 x + V.1 29 p ≤ V.1 10 x
            · left
              refine ⟨k + 1, ?_, hs', by simp at hk; omega, by rw [hf2]; simp [he, swB, hc]⟩
              show F_X3_mayNotJoin_L29 (P V) w e (V.1 29 p) (nI x) (nI k) = _
              unfold F_X3_mayNotJoin_L29
              rw [if_neg hz, if_neg (nI_ne1 (by omega)), if_neg he, h12I, if_neg (nI_ge hk12 (by decide))]
              simp only [ol hP.lo, tl hP.lt, hx, Option.bind_some, e5, e10, if_pos hc, bl, nI_1, hO.hdv hs]
            · right
              refine ⟨.inl 1, ?_, by rw [hf2]; simp [he, swB, hc, hz]⟩
              show F_X3_mayNotJoin_L29 (P V) w e (V.1 29 p) (nI x) (nI k) = _
              unfold F_X3_mayNotJoin_L29
              rw [if_neg hz, if_neg (nI_ne1 (by omega)), if_neg he, h12I, if_neg (nI_ge hk12 (by decide))]
              simp only [ol hP.lo, tl hP.lt, hx, Option.bind_some, e5, e10, if_neg hc])
      (fun k hI => by
        refine ⟨.inr (), ?_, by rw [hI.2.2]; simp⟩
        show F_X3_mayNotJoin_L29 (P V) w e (V.1 29 p) (-1) (nI k) = _
        unfold F_X3_mayNotJoin_L29
        by_cases hz : V.1 29 p ≤ 0
        · rw [if_pos hz]
        · rw [if_neg hz, if_pos rfl])
      (pth (pfV V) g) 6000 0 (by have := pth_len (pfV V) g; omega) ⟨Sfx.pth hg ht, by have := pth_len (pfV V) g; omega, rfl⟩
    have h1' : loopF (fun x => F_X3_mayNotJoin_L29 (P V) w e (V.1 29 p) x.1 x.2) 6000 (nI g, 0) = some y := by
      rw [← h1]
      show _ = loopF _ 6000 (hd (pth (pfV V) g), nI 0)
      rw [pth_cons hT hg ht]; rfl
    rw [h1', Option.bind_some, h2]
    unfold jnB
    rw [hf]
    cases (decide (¬ V.1 29 p ≤ 0) && (pre (pfV V) g e).any (swB V p)) <;> rfl
  · simp only [if_true, if_neg (show ¬ (1 : Int32) = 0 by decide)]
    unfold jnB
    rw [hf]; rfl
theorem m_bits (h : Hp) (f : Nat → Bool) : F_X10_bits h (mkB 16 f) = some (nI (cntN 16 f)) := by
  obtain ⟨a, ha, hI⟩ := loop_inv (st := fun x => F_X10_bits_L4 h (mkB 16 f) x.1 x.2) (fun i (a : Int32) => (a, nI i)) (fun a => a) (fun i a => a = nI (cntN i f)) 16
    (fun i a hi hI => by
      have hb : bt (mkB 16 f) i = f i := by rw [bt_mkB (by decide) (by omega)]; simp [hi]
      refine ⟨nI (cntN (i + 1) f), ?_, rfl⟩
      show F_X10_bits_L4 h (mkB 16 f) a (nI i) = _
      unfold F_X10_bits_L4
      rw [h16I, if_neg (nI_ge hi (by decide)), hI, cntN_s]
      cases hf : f i
      · rw [(bit_no (by omega)).mpr (hb.trans hf)]
        simp [bl, nI_1]
      · rw [(bit_iff (by omega)).mpr (hb.trans hf)]
        simp [bl, nI_1])
    (fun a hI => by
      show F_X10_bits_L4 h (mkB 16 f) a (nI 16) = _
      unfold F_X10_bits_L4
      rw [h16I, if_pos (nI_le (Nat.le_refl _) (by decide))])
    16 0 6000 0 (by decide) (by decide) rfl
  unfold F_X10_bits
  have ha' : loopF (fun x => F_X10_bits_L4 h (mkB 16 f) x.1 x.2) 6000 (0, 0) = _ := ha
  rw [ha', hI]; rfl
theorem m_isFull (hP : LM b P) (hR : Rel V (U.1 1)) (hO : OrdOK V n o) (hH : HomOK V) {x : Nat} (hx : x < 12) (ht : thV V x = true) : F_X10_isFull (P U) b (nI x) = some (if fullV V x then 1 else 0, P U) := by
  have e1 : F_X10_processesBelow (P U) b (nI x) = some (mkB 16 (prB V x), P U) := m_procsBelow hP hR hO hH hx
  unfold F_X10_isFull
  simp only [ml hP, e1, m_bits, mo hP V, hR, hx, ht, Option.bind_some, un]
  unfold fullV
  by_cases hc : nI (cntN 16 (prB V x)) < V.1 13 x
  · have : ¬ V.1 13 x ≤ nI (cntN 16 (prB V x)) := fun z => by have := ti_le.mp z; have := ti_lt.mp hc; omega
    simp [hc, this]
  · have : V.1 13 x ≤ nI (cntN 16 (prB V x)) := Int32.not_lt.mp hc
    simp [hc, this]
/-- there is room in x for p -/
def rmB (V : WV) (p x : Nat) : Bool := !(fullV V x) && !(decide (¬ V.1 29 p ≤ 0) && swB V p x)
theorem m_hasRoom (hP : LM b P) (hR : Rel V (U.1 1)) (hC : Cor V n o) (hN : Num V) {p x : Nat} (hp : p < 16) (hph : phV V p = true) (hx : x < 12) (ht : thV V x = true) : ∃ U', F_X10_hasRoomFor (P U) b (nI x) (nI p) = some (if rmB V p x then 1 else 0, P U') ∧ KeepT U U' := by
  obtain ⟨U1, t1, t2, t3⟩ := m_laysTotals hP hR hC
  have hR1 := t2.rel hR
  refine ⟨U1, ?_, t2⟩
  have h29 := (hN.2.1 p hp hph).2.2
  unfold F_X10_hasRoomFor
  simp only [ml hP, mp hP V, hR, hp, hph, t1, m_isFull hP hR1 hC.1 hC.2.1 hx ht, Option.bind_some, un]
  unfold rmB
  cases hf : fullV V x
  · simp only [Bool.false_eq_true, if_false, if_true]
    by_cases hz : V.1 29 p = 0
    · rw [if_pos hz]
      have : V.1 29 p ≤ 0 := by rw [hz]; exact Int32.le_refl _
      simp [this]
    · rw [if_neg hz]
      have hz' : ¬ V.1 29 p ≤ 0 := fun z => hz (Int32.le_antisymm z (ti_le.mpr (by rw [ti_0]; exact h29)))
      simp only [ml hP, hx, (t3 x hx ht).2.2.2, mo hP V, hR1, ht, Option.bind_some, un]
      unfold swB
      by_cases hc : V.1 10 x < V.1 16 x + V.1 29 p
      · have hc' : ¬ V.1 16 x + V.1 29 p ≤ V.1 10 x := fun z => by have := ti_le.mp z; have := ti_lt.mp hc; omega
        simp only [if_pos hc, hz', hc', not_false_eq_true, decide_true, Bool.and_self, Bool.not_true, Bool.and_false, Bool.false_eq_true, if_false]
      · have hc' : V.1 16 x + V.1 29 p ≤ V.1 10 x := Int32.not_lt.mp hc
        simp only [if_neg hc, hz', hc', not_true_eq_false, not_false_eq_true, decide_true, decide_false, Bool.and_false, Bool.not_false, Bool.and_self, if_true]
  · simp
theorem jn_rm {l : List Nat} {p : Nat} : (l.any (fullV V) || (decide (¬ V.1 29 p ≤ 0) && l.any (swB V p))) = !(l.all (rmB V p)) := by
  induction l with
  | nil => simp
  | cons x l ih =>
    rw [List.any_cons, List.any_cons, List.all_cons]
    have hR : l.all (rmB V p) = !(l.any (fullV V) || (decide (¬ V.1 29 p ≤ 0) && l.any (swB V p))) := by rw [ih]; simp
    rw [hR]
    have hx : rmB V p x = (!(fullV V x) && !(decide (¬ V.1 29 p ≤ 0) && swB V p x)) := rfl
    rw [hx]
    generalize fullV V x = a
    generalize swB V p x = s
    generalize decide (¬ V.1 29 p ≤ 0) = z
    generalize l.any (fullV V) = A
    generalize l.any (swB V p) = B
    cases a <;> cases s <;> cases z <;> cases A <;> cases B <;> rfl
end JOIN
