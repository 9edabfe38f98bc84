section GLR2
variable {p : Program} {l : Launch} {e : Env} {R : Room} {s : State} {m : MethodId} {args : Array Value} {below : List Frame} {meth : Method} {c : Code} {H : Heap} {locs : List Loc} {cells slots : Nat} {Q : State → Prop}
variable {cc : ByteArray} {pc nL : Nat} {ls : Array Slot} {rest : List Value} {own : String} {G : GG} {B : Nat} {h : Hp} {α : Type} {y : α}
theorem r_sR (CX : Cxt p m c cc nL s args own G B) (P : Pic G B h s H locs) {K : Hp → Option α} {a x : Nat} {i : Int32} (hF : (sR h a i x).bind K = some y) (hdg : decode cc pc = .ok (.aastore, 1))
    (kk : ∀ h1 H1 locs1, Pic G B h1 s H1 locs1 → K h1 = some y → W p l e R s m args below meth c H1 locs1 cells slots Q (F0 m (pc + 1) ls rest)) : W p l e R s m args below meth c H locs cells slots Q (F0 m pc ls (.ref (B + x) :: .int i :: .ref (B + a) :: rest)) := by
  obtain ⟨h1, hx, hK1⟩ := bd_some hF
  unfold sR at hx
  split at hx
  case isFalse => cases hx
  case isTrue ho =>
    cases hx
    obtain ⟨ho, hw⟩ := Bool.and_eq_true_iff.mp ho
    obtain ⟨ho, hi⟩ := Bool.and_eq_true_iff.mp ho
    obtain ⟨hA, ha, hta⟩ := P.arr ho (by decide)
    obtain ⟨hxl, hxt⟩ := okT_i hw
    have hin := inb_i hi
    have hlt : i.toNatClampNeg < (mT h a).2 := Nat.not_le.mp fun q => hin (Or.inr q)
    have h0 : ¬ i < 0 := fun q => hin (Or.inl q)
    obtain ⟨r', hr', cellV, g1, g2, g3, -⟩ := P.1 x _ ((cel_at hxl).trans (by rw [ce_obj hxt (by decide)]))
    have hcls := (CX.2.1.1 8 (RX8, TX8, 8) rfl).2
    obtain ⟨kA, comp, k1, k2, k3, -⟩ := (CX.2.1.2 3 _ rfl).2
    have hcomp : comp = G.1.1 8 := Option.some.inj (k3.symm.trans hcls.1)
    subst hcomp
    obtain ⟨kC, hkC, -⟩ := hcls.2
    refine W.aast CX.1.1 CX.1.2.1 (P.1 a _ hA) (fun q h => by cases h) (fun h => by cases h) k1 k2 rfl hkC ⟨h0, by show _ < (arrV _ _ _).slots.size; rw [arrV_size]; exact hlt⟩ g1 (fun q h => by rw [g3] at h; cases h) (by rw [g2]; exact hkC) (by rw [g2]; exact va_assign hcls) rfl rfl hdg fun H1 e z oq => ?_
    refine kk _ H1 _ (P.put (h' := msZ h a (va_up (mZ h a) i.toNatClampNeg (some x))) ha (ce_arr hta (by decide)) rfl (ce_arr (t := 14) hta (by decide)) (fun b hb => ce_sZ hb) ?_ z oq) hK1
    show H1[B + a]? = some (vp_cell _ _)
    rw [e]
    show some (Cell.setSlot (vp_cell _ (_, .inr (.inr (.inr (.inr _))))) _ _) = some (vp_cell _ (_, .inr (.inr (.inr (.inr _)))))
    rw [vp_cell_q, vp_cell_q, arrV_store]
    congr 2
    funext q
    simp only [updV, mZ, msZ, va_up, if_pos]
    by_cases hq : q = i.toNatClampNeg
    · subst hq
      simp [va_rf]
    · simp [hq]
theorem gl_nn : ∀ z : Int32, ¬ z < 0 → z.toInt = (z.toNatClampNeg : Int) := by
  intro z hz
  obtain ⟨j, hj, rfl⟩ := nI_of hz
  rw [nI_clamp hj, nI_toInt hj]
theorem r_cpI (CX : Cxt p m c cc nL s args own G B) (P : Pic G B h s H locs) (hls : ls.size = nL) {K : Hp → Option α} {a0 a index : Nat} {sp dp n : Int32} (hF : (cpI h a0 sp a dp n).bind K = some y)
    (hlink : Cond.methodLink own index arraycopyName ∈ GW) (hnat : Cond.native arraycopyName ∈ GW) (hstat : Cond.static arraycopyName ∈ GW) (hini : Cond.initialized "java/lang/System" ∈ GW)
    (hframes : 1 ≤ R.frames) (hlocals : (rest.map fun v => v.category).sum + (nativeFrameWords "java/lang/System" "arraycopy" 5 + 11) ≤ R.locals) (hdg : decode cc pc = .ok (.invokestatic index, 3))
    (kk : ∀ h1 H1 locs1, Pic G B h1 s H1 locs1 → K h1 = some y → W p l e R s m args below meth c H1 locs1 cells slots Q (F0 m (pc + 3) ls rest)) : W p l e R s m args below meth c H locs cells slots Q (F0 m pc ls (.int n :: .int dp :: .ref (B + a) :: .int sp :: .ref (B + a0) :: rest)) := by
  obtain ⟨h1, hx, hK1⟩ := bd_some hF
  unfold cpI at hx
  split at hx
  case isFalse => cases hx
  case isTrue ho =>
    cases hx
    simp only [Bool.and_eq_true, decide_eq_true_eq] at ho
    obtain ⟨⟨⟨⟨⟨⟨ho0, ho⟩, g1⟩, g2⟩, g3⟩, g4⟩, g5⟩ := ho
    obtain ⟨hA0, ha0, hta0⟩ := P.arr ho0 (by decide)
    obtain ⟨hA, ha, hta⟩ := P.arr ho (by decide)
    obtain ⟨⟨hx0, hb, hml, hown, hts⟩, hK, hE⟩ := CX
    have hc0 : H[B + a0]? = some (vp_cell (G.2.1 11) ((mT h a0).2, .inl (mX h a0))) := P.1 a0 _ hA0
    have hc1 : H[B + a]? = some (vp_cell (G.2.1 11) ((mT h a).2, .inl (mX h a))) := P.1 a _ hA
    generalize hn0 : (mT h a0).2 = n0 at hc0 g4
    generalize hn1 : (mT h a).2 = n1 at hc1 g5
    generalize hf0 : mX h a0 = f at hc0
    generalize hg0 : mX h a = g at hc1
    generalize hcA : G.2.1 11 = cA at hc0 hc1
    have hAr : ArrOfT s cA .int := by rw [← hcA]; exact (hK.2 0 _ rfl).1
    intro T hT X
    obtain ⟨-, k0, hk0, cm0, hkk0⟩ := hAr n0 (fun j => Value.int (f j))
    obtain ⟨-, k1, hk1, cm1, hkk1⟩ := hAr n1 (fun j => Value.int (g j))
    obtain ⟨vm', X', step⟩ := X.arraycopy hx0 hown (hts _ hlink) (hts _ hnat) (hts _ hstat) (hts _ hini) (src := B + a0) (dst := B + a) (cs := vp_cell cA (n0, .inl f)) (cd := vp_cell cA (n1, .inl g)) (srcPos := sp) (destPos := dp) (n := n) (by rw [hT]; exact hc0) (by rw [hT]; exact hc1)
      (fun _ h => by cases h) (fun _ h => by cases h) (fun h => by cases h) (fun h => by cases h) hk0 hk1 hkk0 hkk1 (by decide) g1 g2 g3
      (by rw [gl_nn sp g1, gl_nn n g3]; show ¬ _ > ((arrV cA n0 (fun j => Value.int (f j))).slots.size : Int); rw [arrV_size]; omega)
      (by rw [gl_nn dp g2, gl_nn n g3]; show ¬ _ > ((arrV cA n1 (fun j => Value.int (g j))).slots.size : Int); rw [arrV_size]; omega)
      (fun vm₁ _ i hi => by
        have e : (vp_cell cA (n0, .inl f)).slots.getD (sp.toNatClampNeg + i) .null = Value.int (f (sp.toNatClampNeg + i)) := by
          show (arrV cA n0 (fun j => Value.int (f j))).slots.getD _ _ = _
          rw [Array.getD_eq_getD_getElem?, arrV_read _ _ (by omega)]
          rfl
        refine ⟨?_, ?_⟩
        · rw [e]; rfl
        · rw [e]; exact trivial)
      (g := F0 m pc ls (.int n :: .int dp :: .ref (B + a) :: .int sp :: .ref (B + a0) :: rest)) rfl (by rw [hml]; exact hls) (rest := rest) rfl (by rw [hb]; exact hdg) hframes (by show 2 * 0 + _ + _ ≤ _; omega)
    have e1 : copied (vp_cell cA (n0, .inl f)) (vp_cell cA (n1, .inl g)) sp dp n = vp_cell cA (n1, .inl (va_cpy f g sp.toNatClampNeg dp.toNatClampNeg n.toNatClampNeg)) := va_copied (fun z => Value.int z) cA cA f g g4
    rw [e1] at X' step
    have hl : B + a < H.size := (Array.getElem?_eq_some_iff.mp hc1).1
    have hheap : ((T.setVm vm').setCell (B + a) (vp_cell cA (n1, .inl (va_cpy f g sp.toNatClampNeg dp.toNatClampNeg n.toNatClampNeg)))).heap = H.setIfInBounds (B + a) (vp_cell cA (n1, .inl (va_cpy f g sp.toNatClampNeg dp.toNatClampNeg n.toNatClampNeg))) := by rw [← hT]; rfl
    have oq : ∀ q : Nat, q ≠ B + a → (H.setIfInBounds (B + a) (vp_cell cA (n1, .inl (va_cpy f g sp.toNatClampNeg dp.toNatClampNeg n.toNatClampNeg))))[q]? = H[q]? := fun q hq => by simp [Array.getElem?_setIfInBounds, Ne.symm hq]
    have PP := P.put (i := 0) (h' := msX h a (va_cpy (mX h a0) (mX h a) sp.toNatClampNeg dp.toNatClampNeg n.toNatClampNeg)) (H' := H.setIfInBounds (B + a) (vp_cell cA (n1, .inl (va_cpy f g sp.toNatClampNeg dp.toNatClampNeg n.toNatClampNeg)))) ha (ce_arr hta (by decide)) rfl (ce_arr (t := 11) hta (by decide)) (fun b hb => ce_sX hb) (by
      show (H.setIfInBounds (B + a) _)[B + a]? = some (vp_cell (G.2.1 11) ((mT h a).2, .inl _))
      rw [hn1, hcA]
      simp [Array.getElem?_setIfInBounds, hl, mX, msX, va_up, ← hf0, ← hg0]) (by simp) oq
    obtain ⟨t, a1, b1⟩ := kk _ _ _ ⟨PP.1, PP.2.1, ⟨PP.2.2.1.1, PP.2.2.1.2.1, fun q hq => by
        rcases List.mem_append.mp hq with h | h
        · exact P.2.2.1.2.2 q h
        · obtain ⟨z, -, hz⟩ := List.mem_map.mp h
          rw [← hz]
          exact Nat.le_add_right _ _⟩, PP.2.2.2⟩ hK1 _ hheap X'
    exact ⟨t, step t a1, b1⟩
theorem r_cpJ (CX : Cxt p m c cc nL s args own G B) (P : Pic G B h s H locs) (hls : ls.size = nL) {K : Hp → Option α} {a0 a index : Nat} {sp dp n : Int32} (hF : (cpJ h a0 sp a dp n).bind K = some y)
    (hlink : Cond.methodLink own index arraycopyName ∈ GW) (hnat : Cond.native arraycopyName ∈ GW) (hstat : Cond.static arraycopyName ∈ GW) (hini : Cond.initialized "java/lang/System" ∈ GW)
    (hframes : 1 ≤ R.frames) (hlocals : (rest.map fun v => v.category).sum + (nativeFrameWords "java/lang/System" "arraycopy" 5 + 11) ≤ R.locals) (hdg : decode cc pc = .ok (.invokestatic index, 3))
    (kk : ∀ h1 H1 locs1, Pic G B h1 s H1 locs1 → K h1 = some y → W p l e R s m args below meth c H1 locs1 cells slots Q (F0 m (pc + 3) ls rest)) : W p l e R s m args below meth c H locs cells slots Q (F0 m pc ls (.int n :: .int dp :: .ref (B + a) :: .int sp :: .ref (B + a0) :: rest)) := by
  obtain ⟨h1, hx, hK1⟩ := bd_some hF
  unfold cpJ at hx
  split at hx
  case isFalse => cases hx
  case isTrue ho =>
    cases hx
    simp only [Bool.and_eq_true, decide_eq_true_eq] at ho
    obtain ⟨⟨⟨⟨⟨⟨ho0, ho⟩, g1⟩, g2⟩, g3⟩, g4⟩, g5⟩ := ho
    obtain ⟨hA0, ha0, hta0⟩ := P.arr ho0 (by decide)
    obtain ⟨hA, ha, hta⟩ := P.arr ho (by decide)
    obtain ⟨⟨hx0, hb, hml, hown, hts⟩, hK, hE⟩ := CX
    have hc0 : H[B + a0]? = some (vp_cell (G.2.1 12) ((mT h a0).2, .inr (.inl (mY h a0)))) := P.1 a0 _ hA0
    have hc1 : H[B + a]? = some (vp_cell (G.2.1 12) ((mT h a).2, .inr (.inl (mY h a)))) := P.1 a _ hA
    generalize hn0 : (mT h a0).2 = n0 at hc0 g4
    generalize hn1 : (mT h a).2 = n1 at hc1 g5
    generalize hf0 : mY h a0 = f at hc0
    generalize hg0 : mY h a = g at hc1
    generalize hcA : G.2.1 12 = cA at hc0 hc1
    have hAr : ArrOfT s cA .long := by rw [← hcA]; exact (hK.2 1 _ rfl).1
    intro T hT X
    obtain ⟨-, k0, hk0, cm0, hkk0⟩ := hAr n0 (fun j => Value.long (f j))
    obtain ⟨-, k1, hk1, cm1, hkk1⟩ := hAr n1 (fun j => Value.long (g j))
    obtain ⟨vm', X', step⟩ := X.arraycopy hx0 hown (hts _ hlink) (hts _ hnat) (hts _ hstat) (hts _ hini) (src := B + a0) (dst := B + a) (cs := vp_cell cA (n0, .inr (.inl f))) (cd := vp_cell cA (n1, .inr (.inl g))) (srcPos := sp) (destPos := dp) (n := n) (by rw [hT]; exact hc0) (by rw [hT]; exact hc1)
      (fun _ h => by cases h) (fun _ h => by cases h) (fun h => by cases h) (fun h => by cases h) hk0 hk1 hkk0 hkk1 (by decide) g1 g2 g3
      (by rw [gl_nn sp g1, gl_nn n g3]; show ¬ _ > ((arrV cA n0 (fun j => Value.long (f j))).slots.size : Int); rw [arrV_size]; omega)
      (by rw [gl_nn dp g2, gl_nn n g3]; show ¬ _ > ((arrV cA n1 (fun j => Value.long (g j))).slots.size : Int); rw [arrV_size]; omega)
      (fun vm₁ _ i hi => by
        have e : (vp_cell cA (n0, .inr (.inl f))).slots.getD (sp.toNatClampNeg + i) .null = Value.long (f (sp.toNatClampNeg + i)) := by
          show (arrV cA n0 (fun j => Value.long (f j))).slots.getD _ _ = _
          rw [Array.getD_eq_getD_getElem?, arrV_read _ _ (by omega)]
          rfl
        refine ⟨?_, ?_⟩
        · rw [e]; rfl
        · rw [e]; exact trivial)
      (g := F0 m pc ls (.int n :: .int dp :: .ref (B + a) :: .int sp :: .ref (B + a0) :: rest)) rfl (by rw [hml]; exact hls) (rest := rest) rfl (by rw [hb]; exact hdg) hframes (by show 2 * 0 + _ + _ ≤ _; omega)
    have e1 : copied (vp_cell cA (n0, .inr (.inl f))) (vp_cell cA (n1, .inr (.inl g))) sp dp n = vp_cell cA (n1, .inr (.inl (va_cpy f g sp.toNatClampNeg dp.toNatClampNeg n.toNatClampNeg))) := va_copied (fun z => Value.long z) cA cA f g g4
    rw [e1] at X' step
    have hl : B + a < H.size := (Array.getElem?_eq_some_iff.mp hc1).1
    have hheap : ((T.setVm vm').setCell (B + a) (vp_cell cA (n1, .inr (.inl (va_cpy f g sp.toNatClampNeg dp.toNatClampNeg n.toNatClampNeg))))).heap = H.setIfInBounds (B + a) (vp_cell cA (n1, .inr (.inl (va_cpy f g sp.toNatClampNeg dp.toNatClampNeg n.toNatClampNeg)))) := by rw [← hT]; rfl
    have oq : ∀ q : Nat, q ≠ B + a → (H.setIfInBounds (B + a) (vp_cell cA (n1, .inr (.inl (va_cpy f g sp.toNatClampNeg dp.toNatClampNeg n.toNatClampNeg)))))[q]? = H[q]? := fun q hq => by simp [Array.getElem?_setIfInBounds, Ne.symm hq]
    have PP := P.put (i := 0) (h' := msY h a (va_cpy (mY h a0) (mY h a) sp.toNatClampNeg dp.toNatClampNeg n.toNatClampNeg)) (H' := H.setIfInBounds (B + a) (vp_cell cA (n1, .inr (.inl (va_cpy f g sp.toNatClampNeg dp.toNatClampNeg n.toNatClampNeg))))) ha (ce_arr hta (by decide)) rfl (ce_arr (t := 12) hta (by decide)) (fun b hb => ce_sY hb) (by
      show (H.setIfInBounds (B + a) _)[B + a]? = some (vp_cell (G.2.1 12) ((mT h a).2, .inr (.inl _)))
      rw [hn1, hcA]
      simp [Array.getElem?_setIfInBounds, hl, mY, msY, va_up, ← hf0, ← hg0]) (by simp) oq
    obtain ⟨t, a1, b1⟩ := kk _ _ _ ⟨PP.1, PP.2.1, ⟨PP.2.2.1.1, PP.2.2.1.2.1, fun q hq => by
        rcases List.mem_append.mp hq with h | h
        · exact P.2.2.1.2.2 q h
        · obtain ⟨z, -, hz⟩ := List.mem_map.mp h
          rw [← hz]
          exact Nat.le_add_right _ _⟩, PP.2.2.2⟩ hK1 _ hheap X'
    exact ⟨t, step t a1, b1⟩
theorem Pic.al {t : Nat × Nat} {z : Nat → Option Nat} {H1 : Heap} (P : Pic G B h s H locs) (hat : va_at G.1 vwCl (B + mN h, ce G B (mal h t z) (mN h)) H1) (hz : H1.size = H.size + 1) (oq : ∀ q : Nat, q < H.size → H1[q]? = H[q]?) : Pic G B (mal h t z) s H1 locs := by
  refine ⟨?_, by rw [hz, P.2.1]; rfl, ⟨Nat.le_trans P.2.2.1.1 (by omega), fun x h1 h2 => (oq x (Nat.lt_of_lt_of_le h1 P.2.2.1.1)).trans (P.2.2.1.2.1 x h1 h2), P.2.2.1.2.2⟩, P.2.2.2⟩
  rw [cel_push (h := h) (h' := mal h t z) rfl (fun b hb => ce_al hb)]
  refine (P.1.kept (fun k q hq => oq _ ((P.1 k q hq).lt))).app (fun k x hx => ?_)
  have hz : k < 1 := (List.getElem?_eq_some_iff.mp hx).1
  rw [show k = 0 by omega] at hx
  cases hx
  exact hat
theorem mal_T (t : Nat × Nat) (z : Nat → Option Nat) : mT (mal h t z) (mN h) = t := by simp [mT, mal, mN, va_up]
theorem mal_X (t : Nat × Nat) (z : Nat → Option Nat) : mX (mal h t z) (mN h) = fun _ => 0 := by simp [mX, mal, mN, va_up]
theorem mal_Y (t : Nat × Nat) (z : Nat → Option Nat) : mY (mal h t z) (mN h) = fun _ => 0 := by simp [mY, mal, mN, va_up]
theorem mal_Z (t : Nat × Nat) (z : Nat → Option Nat) : mZ (mal h t z) (mN h) = z := by simp [mZ, mal, mN, va_up]
/-- a class of which an object is made, by the entry of the constant pool that names it -/
def CLk (own : String) (idx t : Nat) (N : Nat) : Prop := ∃ (C : String) (T : u_T) (ty : Nat → FieldType), vwCl[t]? = some (C, T, N) ∧ (kd t).length = N ∧ t < 11 ∧ (∀ w ∈ u_ws C T N, w ∈ GW) ∧ Cond.classLink own idx C ∈ GW ∧ Cond.instantiable C N ∈ GW ∧ Cond.initialized C ∈ GW ∧ (∀ k, k < N → parseFieldDescriptor (T k).2.2.1 = some (ty k)) ∧
  (∀ k, k < N → (kd t)[k]? = some (decide (ty k = .int))) ∧ (∀ k, k < N → defaultValue (ty k) = if ty k = .int then .int 0 else .null)
theorem r_nwO (CX : Cxt p m c cc nL s args own G B) (P : Pic G B h s H locs) {K : Hp → Option α} {t idx N : Nat} (hF : bl (nwO h t) K = some y) (cl : CLk own idx t N) (hcells : cells + 1 ≤ R.cells) (hslots : slots + N ≤ R.slots) (hdg : decode cc pc = .ok (.new idx, 3))
    (kk : ∀ h1 H1, mN h1 = mN h + 1 → Pic G B h1 s H1 locs → K h1 = some y → W p l e R s m args below meth c H1 locs (cells + 1) (slots + N) Q (F0 m (pc + 3) ls (.ref (B + mN h) :: rest))) : W p l e R s m args below meth c H locs cells slots Q (F0 m pc ls rest) := by
  obtain ⟨⟨hx0, hb, hml, hown, hts⟩, hK, hE⟩ := CX
  obtain ⟨C, T, ty, hc, hkl, ht, hin, h1, h2, h3, hty, hkd, hdv⟩ := cl
  have hKn := hK.1 t _ hc
  refine W.newcK hx0 hb hown (hts _ h1) (hts _ h2) (hts _ h3) rfl hdg hcells hslots hKn.2.1 P.2.1 fun H1 kC hkC e1 z1 o1 => ?_
  refine kk _ H1 rfl (P.al (t := (t, 0)) (z := fun _ => none) ?_ (by rw [z1, P.2.1]) (by rw [P.2.1]; exact o1)) hF
  rw [ce_obj (t := t) (by rw [mal_T]) ht]
  refine ⟨_, hc, (u_born ty hts hin hKn hkC e1 hty).to (fun j hj => ?_)⟩
  have hj2 := fds_at (B := B) (h := mal h (t, 0) (fun _ => none)) (a := mN h) (hkd j hj)
  rw [hdv j hj]
  simp only [vp_V, List.getD_eq_getElem?_getD]
  rw [hj2]
  by_cases q : ty j = .int
  · simp [q, fv, mal_X]
  · simp [q, fv, mal_Z, va_rf]
theorem r_nwA (CX : Cxt p m c cc nL s args own G B) (P : Pic G B h s H locs) {K : Hp → Option α} {t N' : Nat} {n : Int32} {atype : ArrayType} (hF : (nwA h t n).bind K = some y) (hta : (t = 11 ∧ atype = .int) ∨ (t = 13 ∧ atype = .boolean)) (hw : Cond.arrayClass (newarray.typeOf atype) ∈ GW) (hN : n.toNatClampNeg = N') (hcells : cells + 1 ≤ R.cells) (hslots : slots + N' ≤ R.slots) (hdg : decode cc pc = .ok (.newarray atype, 2))
    (kk : ∀ h1 H1, mN h1 = mN h + 1 → Pic G B h1 s H1 locs → K h1 = some y → W p l e R s m args below meth c H1 locs (cells + 1) (slots + N') Q (F0 m (pc + 2) ls (.ref (B + mN h) :: rest))) : W p l e R s m args below meth c H locs cells slots Q (F0 m pc ls (.int n :: rest)) := by
  obtain ⟨h1, hx, hK1⟩ := bd_some hF
  unfold nwA at hx
  split at hx
  case isTrue => cases hx
  case isFalse ho =>
    cases hx
    have hn : ¬ n < 0 := fun q => ho (Or.inl q)
    have hbig : N' ≤ 100000 := by
      obtain ⟨j, hj, rfl⟩ := nI_of hn
      rw [← hN, nI_clamp hj]
      have h2 : ¬ (100000 : Int32) < nI j := fun q => ho (Or.inr q)
      rw [Int32.lt_iff_toInt_lt, nI_toInt hj] at h2
      have : (100000 : Int32).toInt = 100000 := by decide
      omega
    obtain ⟨⟨hx0, hb, hml, hown, hts⟩, hK, hE⟩ := CX
    have hcb : componentBytes (newarray.typeOf atype) ≤ 4 := by rcases hta with ⟨-, rfl⟩ | ⟨-, rfl⟩ <;> decide
    refine va_newaK hx0 hb (hts _ hw) rfl hdg rfl hn hN (Nat.le_trans (Nat.mul_le_mul hbig hcb) (by decide)) hcells hslots P.2.1 fun H1 cA e1 z1 o1 hAr hNm => ?_
    subst hN
    have hcA : cA = G.2.1 t := by
      rcases hta with ⟨rfl, rfl⟩ | ⟨rfl, rfl⟩
      · exact Option.some.inj (hNm.symm.trans (hK.2 0 _ rfl).2)
      · exact Option.some.inj (hNm.symm.trans (hK.2 2 _ rfl).2)
    refine kk _ H1 rfl (P.al (t := (t, n.toNatClampNeg)) (z := fun _ => none) ?_ (by rw [z1, P.2.1]) (by rw [P.2.1]; exact o1)) hK1
    rw [ce_arr (t := t) (by rw [mal_T]) (by rcases hta with ⟨rfl, -⟩ | ⟨rfl, -⟩ <;> decide)]
    show H1[B + mN h]? = some (vp_cell _ _)
    rw [e1, mal_T, hcA]
    rcases hta with ⟨rfl, rfl⟩ | ⟨rfl, rfl⟩
    · show _ = some (vp_cell _ (_, .inl _))
      rw [vp_cell_i, mal_X]; rfl
    · show _ = some (vp_cell _ (_, .inl _))
      rw [vp_cell_i, mal_X]; rfl
theorem r_nwW (CX : Cxt p m c cc nL s args own G B) (P : Pic G B h s H locs) {K : Hp → Option α} {N' index : Nat} {n : Int32} (hF : (nwA h 14 n).bind K = some y) (hcl : Cond.classLink own index RX8 ∈ GW) (hN : n.toNatClampNeg = N') (hcells : cells + 1 ≤ R.cells) (hslots : slots + N' ≤ R.slots) (hdg : decode cc pc = .ok (.anewarray index, 3))
    (kk : ∀ h1 H1, mN h1 = mN h + 1 → Pic G B h1 s H1 locs → K h1 = some y → W p l e R s m args below meth c H1 locs (cells + 1) (slots + N') Q (F0 m (pc + 3) ls (.ref (B + mN h) :: rest))) : W p l e R s m args below meth c H locs cells slots Q (F0 m pc ls (.int n :: rest)) := by
  obtain ⟨h1, hx, hK1⟩ := bd_some hF
  unfold nwA at hx
  split at hx
  case isTrue => cases hx
  case isFalse ho =>
    cases hx
    have hn : ¬ n < 0 := fun q => ho (Or.inl q)
    have hbig : n.toNatClampNeg ≤ 100000 := by
      obtain ⟨j, hj, rfl⟩ := nI_of hn
      rw [nI_clamp hj]
      have h2 : ¬ (100000 : Int32) < nI j := fun q => ho (Or.inr q)
      rw [Int32.lt_iff_toInt_lt, nI_toInt hj] at h2
      have : (100000 : Int32).toInt = 100000 := by decide
      omega
    subst hN
    obtain ⟨⟨hx0, hb, hml, hown, hts⟩, hK, hE⟩ := CX
    refine W.anew hx0 hb hown (hts _ hcl) (va_AO.use hE.2.1) rfl hdg rfl hn (by omega) hcells hslots fun cA kA comp f1 f2 f3 f4 => ?_
    generalize hH1 : H.push ({ cls := cA, slots := Array.replicate n.toNatClampNeg .null, vm := .none } : Cell) = H1
    have z1 : H1.size = H.size + 1 := by rw [← hH1, Array.size_push]
    have e1 : H1[H.size]? = some (arrV cA n.toNatClampNeg (fun _ => .null)) := by rw [← hH1, Array.getElem?_push_size, ← arrV_new]
    have o1 : ∀ q : Nat, q < H.size → H1[q]? = H[q]? := fun q hq => by rw [← hH1, Array.getElem?_push, if_neg (Nat.ne_of_lt hq)]
    obtain ⟨kA', comp', k1, k2, k3, k4⟩ := (hK.2 3 _ rfl).2
    have hcA : cA = G.2.1 14 := Option.some.inj (f1.symm.trans k4)
    rw [P.2.1] at e1
    have P1 : Pic G B (mal h (14, n.toNatClampNeg) (fun _ => none)) s H1 locs := by
      refine P.al ?_ z1 o1
      rw [ce_arr (t := 14) (by rw [mal_T]) (by decide)]
      show H1[B + mN h]? = some (vp_cell _ (_, .inr (.inr (.inr (.inr _)))))
      rw [e1, mal_T, hcA, vp_cell_q, mal_Z]
      rfl
    have K9 := kk _ H1 rfl P1 hK1
    rw [← P.2.1] at K9
    exact K9
end GLR2
