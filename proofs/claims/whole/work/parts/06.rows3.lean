section GLR3
variable {p : Program} {l : Launch} {e : Env} {R : Room} {s : State} {m : MethodId} {args : Array Value} {below : List Frame} {meth : Method} {c : Code} {H : Heap} {locs : List Loc} {cells slots : Nat} {Q : State → Prop}
variable {cc : ByteArray} {pc nL : Nat} {ls : Array Slot} {rest : List Value} {own : String} {G : GG} {B : Nat} {h : Hp} {α : Type} {y : α}
theorem nwRows_N (h : Hp) (t k : Nat) : ∀ i, mN (nwRows h t k i) = mN h + i
  | 0 => rfl
  | i + 1 => by show mN (nwRows h t k i) + 1 = _; rw [nwRows_N h t k i]; omega
theorem gl_outer (c : ClassId) (N h0 : Nat) : ∀ i : Nat, Jvm.Free.Multi.outerC c N h0 i = arrV c N (fun j => va_rf (if j < i then some (h0 + 1 + j) else none))
  | 0 => by
    show ({ cls := c, slots := Array.replicate N .null, vm := .none } : Cell) = _
    rw [arrV_new]
    refine congrArg (arrV c N) (funext fun j => ?_)
    simp [va_rf]
  | i + 1 => by
    show (Jvm.Free.Multi.outerC c N h0 i).setSlot i (.ref (h0 + 1 + i)) = _
    rw [gl_outer c N h0 i, arrV_store]
    refine congrArg (arrV c N) (funext fun j => ?_)
    by_cases e : j = i
    · subst e
      simp [updV, va_rf]
    · by_cases h : j < i
      · simp [updV, e, h, Nat.lt_succ_of_lt h]
      · simp [updV, e, h, show ¬ j < i + 1 by omega]
/-- rows that come one behind the other -/
theorem Pic.rows {t k : Nat} (ht : ¬ t < 11) {Hf : Heap} (hsz : B ≤ s.heap.size) : ∀ (i : Nat) (h0 : Hp) (hP : va_P G.1 vwCl (cel G B h0) Hf) (hr : ∀ j, j < i → Hf[B + mN h0 + j]? = some (vp_cell (G.2.1 t) (k, ct B (mal h0 (t, k) (fun _ => none)) (mN h0) t))), (∀ h9 : Hp, ct B (mal h9 (t, k) (fun _ => none)) (mN h9) t = ct B (mal h0 (t, k) (fun _ => none)) (mN h0) t) → va_P G.1 vwCl (cel G B (nwRows h0 t k i)) Hf
  | 0, _, hP, _, _ => hP
  | i + 1, h0, hP, hr, hc => by
    have ih := Pic.rows ht hsz i h0 hP (fun j hj => hr j (Nat.lt_succ_of_lt hj)) hc
    show va_P G.1 vwCl (cel G B (mal (nwRows h0 t k i) (t, k) (fun _ => none))) Hf
    rw [cel_push (h := nwRows h0 t k i) rfl (fun b hb => ce_al hb)]
    refine ih.app (fun k9 x hx => ?_)
    have hz : k9 < 1 := (List.getElem?_eq_some_iff.mp hx).1
    rw [show k9 = 0 by omega] at hx
    cases hx
    rw [ce_arr (t := t) (by rw [mal_T]) ht, mal_T, nwRows_N]
    show Hf[B + (mN h0 + i)]? = some (vp_cell _ _)
    rw [← Nat.add_assoc, hr i (Nat.lt_succ_self i), ← hc (nwRows h0 t k i), nwRows_N]
theorem r_nwM (CX : Cxt p m c cc nL s args own G B) (P : Pic G B h s H locs) {K : Hp → Option α} {t t1 index N' K' : Nat} {n k : Int32} {ty : FieldType} (hF : bl (nwM h t t1 N' K') K = some y) (hN : n.toNatClampNeg = N') (hM : k.toNatClampNeg = K') (hn : ¬ n < 0) (hk : ¬ k < 0) (hNb : N' ≤ 100) (hKb : K' ≤ 100) (hty : (t = 15 ∧ t1 = 11 ∧ ty = .int) ∨ (t = 16 ∧ t1 = 12 ∧ ty = .long))
    (hcl : Cond.classLink own index ("[" ++ (FieldType.array ty).toString) ∈ GW) (hac : Cond.arrayClass ty ∈ GW) (hcells : cells + (1 + N') ≤ R.cells) (hslots : slots + (N' + N' * K') ≤ R.slots) (hdg : decode cc pc = .ok (.multianewarray index 2, 4))
    (kk : ∀ h1 H1, mN h1 = mN h + 1 + N' → Pic G B h1 s H1 locs → K h1 = some y → W p l e R s m args below meth c H1 locs (cells + 1 + N') (slots + N' + N' * K') Q (F0 m (pc + 4) ls (.ref (B + mN h) :: rest))) : W p l e R s m args below meth c H locs cells slots Q (F0 m pc ls (.int k :: .int n :: rest)) := by
  subst hN
  subst hM
  obtain ⟨⟨hx0, hb, hml, hown, hts⟩, hK, hE⟩ := CX
  intro T hT Xs
  have hcb : componentBytes ty ≤ 8 := by rcases hty with ⟨-, -, rfl⟩ | ⟨-, -, rfl⟩ <;> decide
  obtain ⟨vm₁, cA, comp, -, fA, fC, hO, -, X', step⟩ := Xs.multianewarray2F hx0 hown (hts _ hcl) (AOA.use (by rcases hty with ⟨-, -, rfl⟩ | ⟨-, -, rfl⟩; exact hE.2.2.1; exact hE.2.2.2.1)) (hts _ hac) (g := F0 m pc ls (.int k :: .int n :: rest)) rfl (by rw [hb]; exact hdg) rfl hn hk (by omega) (Nat.le_trans (Nat.mul_le_mul hKb hcb) (by decide)) (by omega) (by rcases hty with ⟨-, -, rfl⟩ | ⟨-, -, rfl⟩ <;> rfl) (by rcases hty with ⟨-, -, rfl⟩ | ⟨-, -, rfl⟩ <;> rfl) hcells hslots
  have hTh : (T.setVm vm₁).heap = H := hT
  generalize hF9 : Jvm.Free.Multi.fill (T.setVm vm₁) cA comp n.toNatClampNeg k.toNatClampNeg (defaultValue ty) n.toNatClampNeg = F at X' step
  obtain ⟨f1, f2, -, -⟩ := Jvm.Free.Multi.fill_facts (T.setVm vm₁) cA comp n.toNatClampNeg k.toNatClampNeg (defaultValue ty) n.toNatClampNeg
  rw [hF9, hTh] at f1 f2
  have hold : ∀ x : Nat, x < H.size → F.heap[x]? = H[x]? := fun x hx => by
    have := Jvm.Free.Multi.fill_old (T.setVm vm₁) cA comp n.toNatClampNeg k.toNatClampNeg (defaultValue ty) (a := x) (by rw [hTh]; exact hx) n.toNatClampNeg
    rw [hF9, hTh] at this
    exact this
  have hin : ∀ j : Nat, j < n.toNatClampNeg → F.heap[H.size + 1 + j]? = some (Jvm.Free.Multi.innerC comp k.toNatClampNeg (defaultValue ty)) := fun j hj => by
    have := Jvm.Free.Multi.fill_inner (T.setVm vm₁) cA comp n.toNatClampNeg k.toNatClampNeg (defaultValue ty) n.toNatClampNeg j hj
    rw [hF9, hTh] at this
    exact this
  have hcA : cA = G.2.1 t := by
    rcases hty with ⟨rfl, -, rfl⟩ | ⟨rfl, -, rfl⟩
    · exact Option.some.inj (fA.symm.trans (hK.2 4 _ rfl).2)
    · exact Option.some.inj (fA.symm.trans (hK.2 5 _ rfl).2)
  have hcC : comp = G.2.1 t1 := by
    rcases hty with ⟨-, rfl, rfl⟩ | ⟨-, rfl, rfl⟩
    · exact Option.some.inj (fC.symm.trans (hK.2 0 _ rfl).2)
    · exact Option.some.inj (fC.symm.trans (hK.2 1 _ rfl).2)
  have ht11 : ¬ t < 11 := by rcases hty with ⟨rfl, -, -⟩ | ⟨rfl, -, -⟩ <;> decide
  have ht111 : ¬ t1 < 11 := by rcases hty with ⟨-, rfl, -⟩ | ⟨-, rfl, -⟩ <;> decide
  have hP1 : va_P G.1 vwCl (cel G B (mal h (t, n.toNatClampNeg) (fun i => if i < n.toNatClampNeg then some (mN h + 1 + i) else none))) F.heap := by
    rw [cel_push (h := h) rfl (fun b hb => ce_al hb)]
    refine (P.1.kept (fun k9 q hq => hold _ ((P.1 k9 q hq).lt))).app (fun k9 x hx => ?_)
    have hz : k9 < 1 := (List.getElem?_eq_some_iff.mp hx).1
    rw [show k9 = 0 by omega] at hx
    cases hx
    rw [ce_arr (t := t) (by rw [mal_T]) ht11, mal_T]
    have hct : ∀ h9 : Hp, ct B h9 (mN h) t = .inr (.inr (.inr (.inr (fun i => (mZ h9 (mN h) i).map (fun x => B + x))))) := by intro h9; rcases hty with ⟨rfl, -, -⟩ | ⟨rfl, -, -⟩ <;> rfl
    rw [hct]
    show F.heap[B + mN h]? = some (vp_cell _ (_, .inr (.inr (.inr (.inr _)))))
    rw [← P.2.1, f2, vp_cell_q, gl_outer, hcA, mal_Z]
    congr 2
    funext j
    by_cases hj : j < n.toNatClampNeg
    · simp [hj, va_rf, P.2.1, Nat.add_assoc]
    · simp [hj, va_rf]
  have hP2 : va_P G.1 vwCl (cel G B (nwM h t t1 n.toNatClampNeg k.toNatClampNeg)) F.heap := by
    refine Pic.rows (s := s) ht111 P.2.2.2 _ _ hP1 (fun j hj => ?_) (fun h9 => ?_)
    · show F.heap[B + (mN h + 1) + j]? = _
      rw [← Nat.add_assoc, ← P.2.1, hin j hj, hcC]
      rcases hty with ⟨-, rfl, rfl⟩ | ⟨-, rfl, rfl⟩
      · show some (Jvm.Free.Multi.innerC _ _ _) = some (vp_cell _ (_, .inl _))
        rw [mal_X, vp_cell_i]
        show some ({ cls := _, slots := Array.replicate _ _, vm := .none } : Cell) = _
        rw [arrV_new]; rfl
      · show some (Jvm.Free.Multi.innerC _ _ _) = some (vp_cell _ (_, .inr (.inl _)))
        rw [mal_Y, vp_cell_l]
        show some ({ cls := _, slots := Array.replicate _ _, vm := .none } : Cell) = _
        rw [arrV_new]; rfl
    · rcases hty with ⟨-, rfl, rfl⟩ | ⟨-, rfl, rfl⟩
      · show Sum.inl _ = Sum.inl _
        rw [mal_X, mal_X]
      · show Sum.inr (Sum.inl _) = Sum.inr (Sum.inl _)
        rw [mal_Y, mal_Y]
  have hN9 : mN (nwM h t t1 n.toNatClampNeg k.toNatClampNeg) = mN h + 1 + n.toNatClampNeg := by
    unfold nwM
    rw [nwRows_N]; rfl
  have PP : Pic G B (nwM h t t1 n.toNatClampNeg k.toNatClampNeg) s F.heap locs := ⟨hP2, by rw [f1, hN9, P.2.1]; omega, ⟨Nat.le_trans P.2.2.1.1 (by rw [f1]; omega), fun x h1 h2 => (hold x (Nat.lt_of_lt_of_le h1 P.2.2.1.1)).trans (P.2.2.1.2.1 x h1 h2), P.2.2.1.2.2⟩, P.2.2.2⟩
  obtain ⟨t9, a1, b1⟩ := kk _ F.heap hN9 PP hF F rfl X'
  refine ⟨t9, step t9 ?_, b1⟩
  have e9 : T.heap.size = B + mN h := by rw [hT, P.2.1]
  rw [e9]
  exact a1
/-- a static array: its name, which of them it is -/
def SN (k : Nat) : String := match k with
  | 0 => "LIMIT_AT_FIRST"
  | 1 => "LIMIT_LEAST"
  | 2 => "LIMIT_MOST"
  | _ => "AVERAGE_OVER"
theorem EXT.get {U : State} {H9 : Heap} (hE : EXT G B U H9) {k : Nat} (hk : k < 4) : EX1 G B U H9 (SN k) k := by
  obtain ⟨a, b, d, f⟩ := hE
  rcases k with _ | _ | _ | _ | k
  · exact a
  · exact b
  · exact d
  · exact f
  · omega
theorem r_gs (CX : Cxt p m c cc nL s args own G B) (P : Pic G B h s H locs) {k idx : Nat} (hk : k < 4) (hw : Cond.fieldLink own idx "GroupLimits" (SN k) "[I" ∈ GW ∨ (own, idx, SN k) ∈ nwF_) (hdg : decode cc pc = .ok (.getstatic idx, 3))
    (kk : W p l e R s m args below meth c H locs cells slots Q (F0 m (pc + 3) ls (.ref (G.2.2 k) :: rest))) : W p l e R s m args below meth c H locs cells slots Q (F0 m pc ls rest) := by
  obtain ⟨⟨hx0, hb, hml, hown, hts⟩, hK, hE⟩ := CX
  rcases hw with hw | hw
  · exact va_gets hx0 hb (hE.1.get hk).1 P.2.2.1 hown (hts _ hw) (fun _ q => q) hdg kk
  · exact va_getsN hx0 hb (hE.1.get hk).1 P.2.2.1 hown (va_Nw.use rfl (hE.2.2.2.2.2 _ hw)) (fun _ q => q) hdg kk
theorem r_sX (CX : Cxt p m c cc nL s args own G B) (P : Pic G B h s H locs) {K : Int32 → Option α} {k : Nat} {i : Int32} (hk : k < 4) (hF : (sX k i).bind K = some y) (hdg : decode cc pc = .ok (.iaload, 1))
    (kk : ∀ x, K x = some y → W p l e R s m args below meth c H locs cells slots Q (F0 m (pc + 1) ls (.int x :: rest))) : W p l e R s m args below meth c H locs cells slots Q (F0 m pc ls (.int i :: .ref (G.2.2 k) :: rest)) := by
  obtain ⟨x, hx, hK1⟩ := bd_some hF
  unfold sX at hx
  split at hx
  case isFalse => cases hx
  case isTrue ho =>
    cases hx
    exact va_ti CX.1.1 CX.1.2.1 (CX.2.2.1.get hk).2 P.2.2.1 (inb_i ho) rfl hdg (kk _ hK1)
theorem r_mn (CX : Cxt p m c cc nL s args own G B) (hls : ls.size = nL) {index : Nat} (hw : Cond.methodLink own index Lib.Math.min.name ∈ GW) (h2 : Cond.static Lib.Math.min.name ∈ GW) (h3 : Cond.initialized "java/lang/Math" ∈ GW) (h4 : Cond.code Lib.Math.min.name Lib.Math.min.code 2 (some .int) ∈ GW)
    (hframes : 1 ≤ R.frames) (hlocals : (rest.map fun v => v.category).sum + 13 ≤ R.locals) (hc : cells ≤ R.cells) (hs : slots ≤ R.slots) {x z : Int32} (hdg : decode cc pc = .ok (.invokestatic index, 3))
    (kk : W p l e R s m args below meth c H locs cells slots Q (F0 m (pc + 3) ls (.int (mnI x z) :: rest))) : W p l e R s m args below meth c H locs cells slots Q (F0 m pc ls (.int z :: .int x :: rest)) :=
  va_mmin CX.1.1 CX.1.2.1 (CX.1.2.2.1.trans hls.symm) CX.1.2.2.2.1 (CX.1.2.2.2.2 _ hw) (CX.1.2.2.2.2 _ h2) (CX.1.2.2.2.2 _ h3) (CX.1.2.2.2.2 _ h4) hframes hlocals hc hs hdg kk
theorem r_mx (CX : Cxt p m c cc nL s args own G B) (hls : ls.size = nL) {index : Nat} (hw : Cond.methodLink own index Lib.Math.max.name ∈ GW) (h2 : Cond.static Lib.Math.max.name ∈ GW) (h3 : Cond.initialized "java/lang/Math" ∈ GW) (h4 : Cond.code Lib.Math.max.name Lib.Math.max.code 2 (some .int) ∈ GW)
    (hframes : 1 ≤ R.frames) (hlocals : (rest.map fun v => v.category).sum + 13 ≤ R.locals) (hc : cells ≤ R.cells) (hs : slots ≤ R.slots) {x z : Int32} (hdg : decode cc pc = .ok (.invokestatic index, 3))
    (kk : W p l e R s m args below meth c H locs cells slots Q (F0 m (pc + 3) ls (.int (mxI x z) :: rest))) : W p l e R s m args below meth c H locs cells slots Q (F0 m pc ls (.int z :: .int x :: rest)) :=
  va_mmax CX.1.1 CX.1.2.1 (CX.1.2.2.1.trans hls.symm) CX.1.2.2.2.1 (CX.1.2.2.2.2 _ hw) (CX.1.2.2.2.2 _ h2) (CX.1.2.2.2.2 _ h3) (CX.1.2.2.2.2 _ h4) hframes hlocals hc hs hdg kk
theorem r_dv (hx : p.tables.exec = Jvm.exec) (hb : c.code = cc) {K : Int32 → Option α} {x z : Int32} (hF : (dvI x z).bind K = some y) (hdg : decode cc pc = .ok (.idiv, 1))
    (kk : ∀ r, K r = some y → W p l e R s m args below meth c H locs cells slots Q (F0 m (pc + 1) ls (.int r :: rest))) : W p l e R s m args below meth c H locs cells slots Q (F0 m pc ls (.int z :: .int x :: rest)) := by
  obtain ⟨r, hr, hK1⟩ := bd_some hF
  unfold dvI at hr
  split at hr
  case isTrue => cases hr
  case isFalse ho => cases hr; exact lv_idiv hx hb hdg ho (kk _ hK1)
theorem r_rm (hx : p.tables.exec = Jvm.exec) (hb : c.code = cc) {K : Int32 → Option α} {x z : Int32} (hF : (rmI x z).bind K = some y) (hdg : decode cc pc = .ok (.irem, 1))
    (kk : ∀ r, K r = some y → W p l e R s m args below meth c H locs cells slots Q (F0 m (pc + 1) ls (.int r :: rest))) : W p l e R s m args below meth c H locs cells slots Q (F0 m pc ls (.int z :: .int x :: rest)) := by
  obtain ⟨r, hr, hK1⟩ := bd_some hF
  unfold rmI at hr
  split at hr
  case isTrue => cases hr
  case isFalse ho => cases hr; exact lv_irem hx hb hdg ho (kk _ hK1)
end GLR3
