/-! words of the tables that a method must be handed: nest mates, arrays over a class -/
def nwM_ : List (String × Nat × MethodName) := [(RX9, 9, yX8_init), (RX8, 27, yX1_init), (RX8, 34, yX7_init), (RX4, 17, yX8_init), (RX9, 32, yX5_init), (RX9, 48, yX2_init), (RX3, 61, yX9_outlives), (RX3, 88, yX9_stallFor)]
def nwF_ : List (String × Nat × String) := [(RX6, 58, "LIMIT_AT_FIRST"), (RX1, 30, "AVERAGE_OVER")]
def AOA (t : FieldType) (U : State) : Prop := (Cond.arrayOver (.array t)).before #[] U = true
theorem AOA.use {t : FieldType} {A : Array Value} {U : State} (h : AOA t U) : (Cond.arrayOver (.array t)).before A U = true := h
theorem ao_spec {t : FieldType} {s : State} (h : AOA t s) : ∃ comp c k, s.vm.findClass (FieldType.array t).toString = some comp ∧ (s.vm.classes.findIdx? fun (x : Class) => match x.kind with | .array component _ => component == comp | _ => false) = some c ∧ s.vm.classes[c]? = some k ∧ k.kind = .array comp (.array t) ∧ s.vm.findClass ("[" ++ (FieldType.array t).toString) = some c := by
  unfold AOA Cond.before at h
  simp only [Cond.holds, Cond.value, beq_iff_eq] at h
  cases hc : s.vm.findClass (FieldType.array t).toString with
  | none => simp [hc] at h
  | some comp =>
    simp only [hc, Option.bind_some, Option.bind_eq_some_iff, Option.map_eq_some_iff] at h
    obtain ⟨c, hi, k, hk, hb⟩ := h
    obtain ⟨hlt, hp, -⟩ := Array.findIdx?_eq_some_iff_getElem.mp hi
    have hkk : s.vm.classes[c] = k := (Array.getElem?_eq_some_iff.mp hk).2
    rw [hkk] at hp
    cases hkind : k.kind with
    | array component ty =>
      rw [hkind] at hb hp
      simp at hb hp
      exact ⟨comp, c, k, rfl, hi, hk, by rw [hkind, hp, hb.1], hb.2⟩
    | _ => rw [hkind] at hb; simp at hb
theorem AOA.moved {t : FieldType} {u U : State} (hvm : u.vm.Alike U.vm) (h : AOA t u) : AOA t U := by
  obtain ⟨comp, c, k, h1, h2, h3, h4, h5⟩ := ao_spec h
  obtain ⟨k', hk', he⟩ := hvm.2.2 _ _ h3
  have hi : (U.vm.classes.findIdx? fun (x : Class) => match x.kind with | .array component _ => component == comp | _ => false) = some c := by
    refine Eq.trans (va_idx_bare U.vm comp).symm ?_
    first | rw [hvm.bare_eq] | rw [← hvm.bare_eq]
    exact (va_idx_bare u.vm comp).trans h2
  have hkind : k'.kind = .array comp (.array t) := by rw [he]; exact h4
  have f1 : U.vm.findClass (FieldType.array t).toString = some comp := by rw [hvm.findClass]; exact h1
  have f2 : U.vm.findClass ("[" ++ (FieldType.array t).toString) = some c := by rw [hvm.findClass]; exact h5
  unfold AOA Cond.before Cond.holds
  simp only [Cond.value]
  rw [f1, Option.bind_some]
  refine (congrArg (fun o : Option Nat => (o.bind (fun c => (U.vm.classes[c]?).map fun (k : Class) => match k.kind with | .array _ ty => decide (ty = FieldType.array t) && decide (U.vm.findClass ("[" ++ (FieldType.array t).toString) = some c) | _ => false) == some true)) hi).trans ?_
  simp [hk', hkind, f2]
def NW (U : State) : Prop := va_AO RX8 U ∧ AOA .int U ∧ AOA .long U ∧ (∀ q ∈ nwM_, va_Nw (.methodLinkNest q.1 q.2.1 q.2.2 "GroupLimits") U) ∧ ∀ q ∈ nwF_, va_Nw (.fieldLinkNest q.1 q.2.1 "GroupLimits" q.2.2 "[I" "GroupLimits") U
theorem NW.warm {s U : State} (hW : s.WarmedH U.vm) (h : NW s) : NW U :=
  ⟨h.1.moved hW.alike, h.2.1.moved hW.alike, h.2.2.1.moved hW.alike, fun q hq => (h.2.2.2.1 q hq).warmM hW, fun q hq => (h.2.2.2.2 q hq).warmF hW⟩
theorem NW.same {s U : State} (hv : s.vm = U.vm) (h : NW s) : NW U :=
  ⟨h.1.moved (by rw [hv]; exact Vm.Alike.refl _), h.2.1.moved (by rw [hv]; exact Vm.Alike.refl _), h.2.2.1.moved (by rw [hv]; exact Vm.Alike.refl _), fun q hq => (h.2.2.2.1 q hq).same rfl hv, fun q hq => (h.2.2.2.2 q hq).same rfl hv⟩
/-! what a walk stands on -/
def EX1 (G : GG) (B : Nat) (U : State) (H : Heap) (n : String) (k : Nat) : Prop :=
  va_Z "GroupLimits" n "[I" (.ref (G.2.2 k)) (fun q => B ≤ q) U H ∧ va_T .int (G.2.2 k) (stt k).length (fun j => .int ((stt k).getD j 0)) (fun q => B ≤ q) U H
def EXT (G : GG) (B : Nat) (U : State) (H : Heap) : Prop :=
  EX1 G B U H "LIMIT_AT_FIRST" 0 ∧ EX1 G B U H "LIMIT_LEAST" 1 ∧ EX1 G B U H "LIMIT_MOST" 2 ∧ EX1 G B U H "AVERAGE_OVER" 3
theorem EX1.on {G : GG} {B : Nat} {u U : State} {H H1 : Heap} {n : String} {k : Nat} (h : EX1 G B u H n k) (hvm : u.vm.Alike U.vm) (hq : ∀ a : Nat, a < H.size → ¬ B ≤ a → H1[a]? = H[a]?) : EX1 G B U H1 n k :=
  ⟨(h.1.moved hvm).kept hq, (h.2.moved hvm).kept hq⟩
theorem EXT.on {G : GG} {B : Nat} {u U : State} {H H1 : Heap} (h : EXT G B u H) (hvm : u.vm.Alike U.vm) (hq : ∀ a : Nat, a < H.size → ¬ B ≤ a → H1[a]? = H[a]?) : EXT G B U H1 :=
  ⟨h.1.on hvm hq, h.2.1.on hvm hq, h.2.2.1.on hvm hq, h.2.2.2.on hvm hq⟩
def Cxt (p : Program) (m : MethodId) (c : Code) (cc : ByteArray) (nL : Nat) (s : State) (args : Array Value) (own : String) (G : GG) (B : Nat) : Prop :=
  CallFix p m c cc nL s args GW own ∧ va_K G.1 vwCl (tyl G) s ∧ EXT G B s s.heap ∧ NW s
def Pic (G : GG) (B : Nat) (h : Hp) (s : State) (H : Heap) (locs : List Loc) : Prop :=
  va_P G.1 vwCl (cel G B h) H ∧ H.size = B + mN h ∧ va_S (fun q => B ≤ q) s.heap H locs ∧ B ≤ s.heap.size
def PS (G : GG) (B : Nat) (h : Hp) (U : State) : Prop :=
  va_P G.1 vwCl (cel G B h) U.heap ∧ U.heap.size = B + mN h ∧ va_K G.1 vwCl (tyl G) U ∧ EXT G B U U.heap ∧ NW U
/-- a field, by the entry of the constant pool that names it -/
def FL (own : String) (idx t k : Nat) (b : Bool) : Prop := ∃ (C : String) (T : u_T) (N : Nat) (ty : Nat → FieldType), vwCl[t]? = some (C, T, N) ∧ k < N ∧ (kd t)[k]? = some b ∧ (∀ w ∈ u_ws C T N, w ∈ GW) ∧ Cond.fieldLink own idx (T k).1 (T k).2.1 (T k).2.2.1 ∈ GW ∧
  (∀ k, k < N → parseFieldDescriptor (T k).2.2.1 = some (ty k)) ∧ (∀ a, a < N → ∀ b, b < N → a ≠ b → (T a).2.1 ≠ (T b).2.1) ∧ t < 11 ∧ (T k).2.2.2 = !b ∧ cond b (ty k = .int) ((ty k).isReference = true) ∧ (b = false → (T k).1 = C)
theorem gl_fits {t : FieldType} (h : t.isReference = true) (a : Nat) : fits t (.ref a) = true ∧ narrow t (.ref a) = .ref a := by
  cases t <;> simp [FieldType.isReference] at h <;> exact ⟨rfl, rfl⟩
section GLR
variable {p : Program} {l : Launch} {e : Env} {R : Room} {s : State} {m : MethodId} {args : Array Value} {below : List Frame} {meth : Method} {c : Code} {H : Heap} {locs : List Loc} {cells slots : Nat} {Q : State → Prop}
variable {cc : ByteArray} {pc nL : Nat} {ls : Array Slot} {rest : List Value} {own : String} {G : GG} {B : Nat} {h : Hp} {α : Type} {y : α}
theorem r_gI (CX : Cxt p m c cc nL s args own G B) (P : Pic G B h s H locs) {K : Int32 → Option α} {a t k idx : Nat} (hF : (gI h a t k).bind K = some y) (fl : FL own idx t k true) (hdg : decode cc pc = .ok (.getfield idx, 3))
    (kk : ∀ x, K x = some y → W p l e R s m args below meth c H locs cells slots Q (F0 m (pc + 3) ls (.int x :: rest))) : W p l e R s m args below meth c H locs cells slots Q (F0 m pc ls (.ref (B + a) :: rest)) := by
  obtain ⟨x, hx, hK1⟩ := bd_some hF
  unfold gI at hx
  split at hx
  case isFalse => cases hx
  case isTrue ho =>
    cases hx
    obtain ⟨ha, hta⟩ := okT_i ho
    obtain ⟨⟨hx, hb, hml, hown, hts⟩, hK, hE⟩ := CX
    obtain ⟨C, T, N, ty, hc, hk, hkd, hin, hlink, hty, hnm, ht, -⟩ := fl
    exact va_get (D := G.1) (ci := t) (v := .int (mX h a k)) hx hb hts hin hown hK P.1 a ((cel_at ha).trans (by rw [ce_obj hta ht])) hc k hk (hts _ hlink) (fun _ q => q) (fds_at hkd) hdg (kk _ hK1)
theorem r_gR (CX : Cxt p m c cc nL s args own G B) (P : Pic G B h s H locs) {K : Nat → Option α} {a t k idx : Nat} (hF : (gR h a t k).bind K = some y) (fl : FL own idx t k false) (hdg : decode cc pc = .ok (.getfield idx, 3))
    (kk : ∀ x, K x = some y → W p l e R s m args below meth c H locs cells slots Q (F0 m (pc + 3) ls (.ref (B + x) :: rest))) : W p l e R s m args below meth c H locs cells slots Q (F0 m pc ls (.ref (B + a) :: rest)) := by
  obtain ⟨x, hx, hK1⟩ := bd_some hF
  unfold gR at hx
  split at hx
  case isFalse => cases hx
  case isTrue ho =>
    obtain ⟨ha, hta⟩ := okT_i ho
    obtain ⟨⟨hx0, hb, hml, hown, hts⟩, hK, hE⟩ := CX
    obtain ⟨C, T, N, ty, hc, hk, hkd, hin, hlink, hty, hnm, ht, -⟩ := fl
    exact va_get (D := G.1) (ci := t) (v := .ref (B + x)) hx0 hb hts hin hown hK P.1 a ((cel_at ha).trans (by rw [ce_obj hta ht])) hc k hk (hts _ hlink) (fun _ q => q) ((fds_at hkd).trans (by simp [fv, hx, va_rf])) hdg (kk _ hK1)
theorem Pic.put {a i : Nat} {h' : Hp} {H' : Heap} {e0 e1 : va_E} (P : Pic G B h s H locs) (ha : a < mN h) (he : ce G B h a = e0) (hn : mN h' = mN h) (he1 : ce G B h' a = e1) (ho : ∀ b, b ≠ a → ce G B h' b = ce G B h b) (hat : va_at G.1 vwCl (B + a, e1) H') (hz : H'.size = H.size) (oq : ∀ q : Nat, q ≠ B + a → H'[q]? = H[q]?) : Pic G B h' s H' (locs ++ [⟨B + a, i⟩]) := by
  refine ⟨?_, by rw [hz, P.2.1, hn], P.2.2.1.put hz oq (Nat.le_add_right _ _), P.2.2.2⟩
  rw [← cel_set hn he1 ho]
  exact P.1.set (cel_D G B h) ((cel_at ha).trans (by rw [he])) hat oq
theorem r_pI (CX : Cxt p m c cc nL s args own G B) (P : Pic G B h s H locs) {K : Hp → Option α} {a t k idx : Nat} {x : Int32} (hF : (pI h a t k x).bind K = some y) (fl : FL own idx t k true) (hdg : decode cc pc = .ok (.putfield idx, 3))
    (kk : ∀ h1 H1 locs1, Pic G B h1 s H1 locs1 → K h1 = some y → W p l e R s m args below meth c H1 locs1 cells slots Q (F0 m (pc + 3) ls rest)) : W p l e R s m args below meth c H locs cells slots Q (F0 m pc ls (.int x :: .ref (B + a) :: rest)) := by
  obtain ⟨h1, hx, hK1⟩ := bd_some hF
  unfold pI at hx
  split at hx
  case isFalse => cases hx
  case isTrue ho =>
    cases hx
    obtain ⟨ha, hta⟩ := okT_i ho
    obtain ⟨⟨hx0, hb, hml, hown, hts⟩, hK, hE⟩ := CX
    obtain ⟨C, T, N, ty, hc, hk, hkd, hin, hlink, hty, hnm, ht, hfin, htk, -⟩ := fl
    have hfin : (T k).2.2.2 = false := hfin
    have htk : ty k = .int := by simpa using htk
    have hap := va_apart (own := own) hts hin ty hty hnm hK hc
    have he := (cel_at (G := G) (B := B) ha).trans (by rw [ce_obj hta ht])
    obtain ⟨r, g1, cell, q1, q2, q3, q4⟩ := P.1 a _ he
    have hr : r = (C, T, N) := Option.some.inj (g1.symm.trans hc)
    subst hr
    obtain ⟨hS, hfc, kC, hkC, hkind⟩ := hK.1 t _ hc
    obtain ⟨cf, kf, fi, f, hi, hsl⟩ := hS k hk
    have hlay := hts _ (hin _ (u_in_lay hk))
    unfold u_lay at hlay
    rw [if_neg (by rw [hfin]; decide)] at hlay
    have hst := (u_facts hfc hkC (u_lays hts hin hk) hi).1
    have h6 := u_store (v := .int x) hfc hkC hkind hlay hi (hty k hk) (by rw [htk]; rfl) (by rw [htk]; rfl)
    refine W.putK hx0 hb (f := f) ⟨hown, hts _ hlink, ⟨_, _, _, hi⟩, hst⟩ (by rw [q2]; exact h6) q1 q3 (by rw [hsl]; exact k2_hasslot (q4 k hk)) rfl rfl hdg fun H' e1 e2 e3 => ?_
    rw [hsl] at e1
    have hl : k < (fds B h a t).length := (List.getElem?_eq_some_iff.mp (fds_at (B := B) (h := h) (a := a) hkd)).1
    refine kk _ H' _ (P.put (h' := msX h a (upd (mX h a) k x)) ha (ce_obj hta ht) rfl (ce_obj (t := t) hta ht) (fun b hb => ce_sX hb) ?_ e2 e3) hK1
    rw [← fds_setX hkd]
    exact ⟨_, hc, t_OB.to (V := updV (vp_V (fds B h a t)) k (.int x)) ⟨_, e1, q2, q3, t_set q4 hap hk _⟩ (fun j _ => vp_updV_set hl _ j)⟩
theorem r_pR (CX : Cxt p m c cc nL s args own G B) (P : Pic G B h s H locs) (hini : meth.name = "<init>") {K : Hp → Option α} {a t k idx x : Nat} (hF : (pR h a t k x).bind K = some y) (fl : FL own idx t k false) (hcl : ∀ q, vwCl[t]? = some q → q.1 = own) (hdg : decode cc pc = .ok (.putfield idx, 3))
    (kk : ∀ h1 H1 locs1, Pic G B h1 s H1 locs1 → K h1 = some y → W p l e R s m args below meth c H1 locs1 cells slots Q (F0 m (pc + 3) ls rest)) : W p l e R s m args below meth c H locs cells slots Q (F0 m pc ls (.ref (B + x) :: .ref (B + a) :: rest)) := by
  obtain ⟨h1, hx, hK1⟩ := bd_some hF
  unfold pR at hx
  split at hx
  case isFalse => cases hx
  case isTrue ho =>
    cases hx
    obtain ⟨ha, hta⟩ := okT_i ho
    obtain ⟨⟨hx0, hb, hml, hown, hts⟩, hK, hE⟩ := CX
    obtain ⟨C, T, N, ty, hc, hk, hkd, hin, hlink, hty, hnm, ht, hfin, htk, hCC⟩ := fl
    have hfin : (T k).2.2.2 = true := hfin
    have htk : (ty k).isReference = true := by simpa using htk
    have hap := va_apart (own := own) hts hin ty hty hnm hK hc
    have he := (cel_at (G := G) (B := B) ha).trans (by rw [ce_obj hta ht])
    obtain ⟨r, g1, cell, q1, q2, q3, q4⟩ := P.1 a _ he
    have hr : r = (C, T, N) := Option.some.inj (g1.symm.trans hc)
    subst hr
    obtain ⟨hS, hfc, kC, hkC, hkind⟩ := hK.1 t _ hc
    obtain ⟨cf, kf, fi, f, hi, hsl⟩ := hS k hk
    have hlay := hts _ (hin _ (u_in_lay hk))
    unfold u_lay at hlay
    rw [if_pos hfin] at hlay
    have hst := (u_facts hfc hkC (u_lays hts hin hk) hi).1
    have hdecl : (T k).1 = own := (hCC rfl).trans (hcl _ hc)
    have hcf : m.cls = cf := by
      obtain ⟨_, _, c', _, _, _, -, -, hf', -, -, -, hown2, -⟩ := Cond.laysFinal_spec hlay
      have e1 : c' = cf := by have := hi.symm.trans hf'; simp at this; exact this.1.symm
      rw [hdecl] at hown2
      rw [← e1]; exact Option.some.inj (hown.symm.trans hown2)
    have h6 := u_fits (v := .ref (B + x)) hfc hkC hkind (Or.inr hlay) hi (hty k hk) (gl_fits htk _).2 (gl_fits htk _).1
    refine W.putFinK hx0 hb hown (hts _ hlink) hi hst hcf hini (by rw [q2]; exact h6) q1 q3 (by rw [hsl]; exact k2_hasslot (q4 k hk)) rfl rfl hdg fun H' e1 e2 e3 => ?_
    rw [hsl] at e1
    have hl : k < (fds B h a t).length := (List.getElem?_eq_some_iff.mp (fds_at (B := B) (h := h) (a := a) hkd)).1
    refine kk _ H' _ (P.put (h' := msZ h a (va_up (mZ h a) k (some x))) ha (ce_obj hta ht) rfl (ce_obj (t := t) hta ht) (fun b hb => ce_sZ hb) ?_ e2 e3) hK1
    rw [← fds_setZ hkd]
    exact ⟨_, hc, t_OB.to (V := updV (vp_V (fds B h a t)) k (.ref (B + x))) ⟨_, e1, q2, q3, t_set q4 hap hk _⟩ (fun j _ => vp_updV_set hl _ j)⟩
theorem Pic.arr (P : Pic G B h s H locs) {a t : Nat} (ho : okT h a t = true) (ht : ¬ t < 11) : (cel G B h)[a]? = some (B + a, .inl (G.2.1 t, (mT h a).2, ct B h a t)) ∧ a < mN h ∧ (mT h a).1 = t := by
  obtain ⟨ha, hta⟩ := okT_i ho
  exact ⟨(cel_at ha).trans (by rw [ce_arr hta ht]), ha, hta⟩
theorem r_aI (CX : Cxt p m c cc nL s args own G B) (P : Pic G B h s H locs) {K : Int32 → Option α} {a : Nat} {i : Int32} (hF : (aI h a i).bind K = some y) (hdg : decode cc pc = .ok (.iaload, 1))
    (kk : ∀ x, K x = some y → W p l e R s m args below meth c H locs cells slots Q (F0 m (pc + 1) ls (.int x :: rest))) : W p l e R s m args below meth c H locs cells slots Q (F0 m pc ls (.int i :: .ref (B + a) :: rest)) := by
  obtain ⟨x, hx, hK1⟩ := bd_some hF
  unfold aI at hx
  split at hx
  case isFalse => cases hx
  case isTrue ho =>
    cases hx
    obtain ⟨ho, hi⟩ := Bool.and_eq_true_iff.mp ho
    exact va_iald (D := G.1) CX.1.1 CX.1.2.1 CX.2.1 P.1 a 0 (P.arr ho (by decide)).1 rfl (inb_i hi) hdg (kk _ hK1)
theorem r_aB (CX : Cxt p m c cc nL s args own G B) (P : Pic G B h s H locs) {K : Int32 → Option α} {a : Nat} {i : Int32} (hF : (aB h a i).bind K = some y) (hdg : decode cc pc = .ok (.baload, 1))
    (kk : ∀ x, K x = some y → W p l e R s m args below meth c H locs cells slots Q (F0 m (pc + 1) ls (.int x :: rest))) : W p l e R s m args below meth c H locs cells slots Q (F0 m pc ls (.int i :: .ref (B + a) :: rest)) := by
  obtain ⟨x, hx, hK1⟩ := bd_some hF
  unfold aB at hx
  split at hx
  case isFalse => cases hx
  case isTrue ho =>
    cases hx
    obtain ⟨ho, hi⟩ := Bool.and_eq_true_iff.mp ho
    exact va_zald (D := G.1) CX.1.1 CX.1.2.1 CX.2.1 P.1 a 2 (P.arr ho (by decide)).1 rfl (inb_i hi) hdg (kk _ hK1)
theorem r_aJ (CX : Cxt p m c cc nL s args own G B) (P : Pic G B h s H locs) {K : Int64 → Option α} {a : Nat} {i : Int32} (hF : (aJ h a i).bind K = some y) (hdg : decode cc pc = .ok (.laload, 1))
    (kk : ∀ x, K x = some y → W p l e R s m args below meth c H locs cells slots Q (F0 m (pc + 1) ls (.long x :: rest))) : W p l e R s m args below meth c H locs cells slots Q (F0 m pc ls (.int i :: .ref (B + a) :: rest)) := by
  obtain ⟨x, hx, hK1⟩ := bd_some hF
  unfold aJ at hx
  split at hx
  case isFalse => cases hx
  case isTrue ho =>
    cases hx
    obtain ⟨ho, hi⟩ := Bool.and_eq_true_iff.mp ho
    exact va_lald (D := G.1) CX.1.1 CX.1.2.1 CX.2.1 P.1 a 1 (P.arr ho (by decide)).1 rfl (inb_i hi) hdg (kk _ hK1)
theorem r_ald (CX : Cxt p m c cc nL s args own G B) (P : Pic G B h s H locs) {a t : Nat} {i : Int32} (ho : okT h a t = true) (ht : t = 14 ∨ t = 15 ∨ t = 16) (hi : inb i (mT h a).2 = true) (hdg : decode cc pc = .ok (.aaload, 1))
    (kk : W p l e R s m args below meth c H locs cells slots Q (F0 m (pc + 1) ls (va_rf ((mZ h a i.toNatClampNeg).map (fun x => B + x)) :: rest))) : W p l e R s m args below meth c H locs cells slots Q (F0 m pc ls (.int i :: .ref (B + a) :: rest)) := by
  have hin := inb_i hi
  have hlt : i.toNatClampNeg < (mT h a).2 := Nat.not_le.mp fun q => hin (Or.inr q)
  have hA := (P.arr ho (by rcases ht with rfl | rfl | rfl <;> decide)).1
  have hct : ct B h a t = .inr (.inr (.inr (.inr (fun i => (mZ h a i).map (fun x => B + x))))) := by rcases ht with rfl | rfl | rfl <;> rfl
  rw [hct] at hA
  have key : ∀ ty : FieldType, (∃ k : Nat, (tyl G)[k]? = some (G.2.1 t, ty)) → ty.isReference = true → W p l e R s m args below meth c H locs cells slots Q (F0 m pc ls (.int i :: .ref (B + a) :: rest)) := by
    intro ty hk hr
    obtain ⟨k, hk⟩ := hk
    exact W.aald (v := va_rf ((mZ h a i.toNatClampNeg).map (fun x => B + x))) (ty := ty) CX.1.1 CX.1.2.1 (P.1 a _ hA) ((CX.2.1.2 k _ hk).1 _ (fun j => va_rf ((mZ h a j).map (fun x => B + x)))) hr (fun q => by cases q) (by show ¬ (i < 0 ∨ (arrV _ _ _).slots.size ≤ _); rw [arrV_size]; exact hin) (by show (arrV _ _ _).slots[_]? = _; rw [arrV_read _ _ hlt]) rfl rfl hdg kk
  rcases ht with rfl | rfl | rfl
  · exact key _ ⟨3, rfl⟩ rfl
  · exact key _ ⟨4, rfl⟩ rfl
  · exact key _ ⟨5, rfl⟩ rfl
theorem r_aR (CX : Cxt p m c cc nL s args own G B) (P : Pic G B h s H locs) {K : Nat → Option α} {a t : Nat} {i : Int32} (hF : (aR h a t i).bind K = some y) (ht : t = 14 ∨ t = 15 ∨ t = 16) (hdg : decode cc pc = .ok (.aaload, 1))
    (kk : ∀ x, K x = some y → W p l e R s m args below meth c H locs cells slots Q (F0 m (pc + 1) ls (.ref (B + x) :: rest))) : W p l e R s m args below meth c H locs cells slots Q (F0 m pc ls (.int i :: .ref (B + a) :: rest)) := by
  obtain ⟨x, hx, hK1⟩ := bd_some hF
  unfold aR at hx
  split at hx
  case isFalse => cases hx
  case isTrue ho =>
    obtain ⟨ho, hi⟩ := Bool.and_eq_true_iff.mp ho
    refine r_ald CX P ho ht hi hdg ?_
    rw [hx]
    exact kk _ hK1
theorem r_aQ (CX : Cxt p m c cc nL s args own G B) (P : Pic G B h s H locs) {K : Option Nat → Option α} {a t : Nat} {i : Int32} (hF : (aQ h a t i).bind K = some y) (ht : t = 14 ∨ t = 15 ∨ t = 16) (hdg : decode cc pc = .ok (.aaload, 1))
    (kk : ∀ x, K x = some y → W p l e R s m args below meth c H locs cells slots Q (F0 m (pc + 1) ls (va_rf (x.map (fun x => B + x)) :: rest))) : W p l e R s m args below meth c H locs cells slots Q (F0 m pc ls (.int i :: .ref (B + a) :: rest)) := by
  obtain ⟨x, hx, hK1⟩ := bd_some hF
  unfold aQ at hx
  split at hx
  case isFalse => cases hx
  case isTrue ho =>
    cases hx
    obtain ⟨ho, hi⟩ := Bool.and_eq_true_iff.mp ho
    exact r_ald CX P ho ht hi hdg (kk _ hK1)
theorem r_sI (CX : Cxt p m c cc nL s args own G B) (P : Pic G B h s H locs) {K : Hp → Option α} {a : Nat} {i x : Int32} (hF : (sI h a i x).bind K = some y) (hdg : decode cc pc = .ok (.iastore, 1))
    (kk : ∀ h1 H1 locs1, Pic G B h1 s H1 locs1 → K h1 = some y → W p l e R s m args below meth c H1 locs1 cells slots Q (F0 m (pc + 1) ls rest)) : W p l e R s m args below meth c H locs cells slots Q (F0 m pc ls (.int x :: .int i :: .ref (B + a) :: rest)) := by
  obtain ⟨h1, hx, hK1⟩ := bd_some hF
  unfold sI at hx
  split at hx
  case isFalse => cases hx
  case isTrue ho =>
    cases hx
    obtain ⟨ho, hi⟩ := Bool.and_eq_true_iff.mp ho
    obtain ⟨hA, ha, hta⟩ := P.arr ho (by decide)
    refine W.iast CX.1.1 CX.1.2.1 (P.1 a _ hA) ((CX.2.1.2 0 _ rfl).1 _ (fun j => .int (mX h a j))) (fun q => by cases q) (by show ¬ (i < 0 ∨ (arrV _ _ _).slots.size ≤ _); rw [arrV_size]; exact inb_i hi) rfl rfl hdg fun H1 e z oq => ?_
    refine kk _ H1 _ (P.put (h' := msX h a (upd (mX h a) i.toNatClampNeg x)) ha (ce_arr hta (by decide)) rfl (ce_arr (t := 11) hta (by decide)) (fun b hb => ce_sX hb) ?_ z oq) hK1
    show H1[B + a]? = some (vp_cell _ _)
    rw [e]
    show some (Cell.setSlot (vp_cell _ (_, .inl (mX h a))) _ _) = some (vp_cell _ (_, .inl _))
    rw [vp_cell_i, vp_cell_i, arrV_store]
    congr 2
    funext q
    simp only [updV, mX, msX, va_up, if_pos]
    by_cases hq : q = i.toNatClampNeg
    · subst hq
      simp [upd]
    · simp [upd, hq]
theorem r_sB (CX : Cxt p m c cc nL s args own G B) (P : Pic G B h s H locs) {K : Hp → Option α} {a : Nat} {i x : Int32} (hF : (sB h a i x).bind K = some y) (hdg : decode cc pc = .ok (.bastore, 1))
    (kk : ∀ h1 H1 locs1, Pic G B h1 s H1 locs1 → K h1 = some y → W p l e R s m args below meth c H1 locs1 cells slots Q (F0 m (pc + 1) ls rest)) : W p l e R s m args below meth c H locs cells slots Q (F0 m pc ls (.int x :: .int i :: .ref (B + a) :: rest)) := by
  obtain ⟨h1, hx, hK1⟩ := bd_some hF
  unfold sB at hx
  split at hx
  case isFalse => cases hx
  case isTrue ho =>
    cases hx
    obtain ⟨ho, hi⟩ := Bool.and_eq_true_iff.mp ho
    obtain ⟨hA, ha, hta⟩ := P.arr ho (by decide)
    refine W.zast CX.1.1 CX.1.2.1 (P.1 a _ hA) ((CX.2.1.2 2 _ rfl).1 _ (fun j => .int (mX h a j))) (fun q => by cases q) (by show ¬ (i < 0 ∨ (arrV _ _ _).slots.size ≤ _); rw [arrV_size]; exact inb_i hi) rfl rfl hdg fun H1 e z oq => ?_
    refine kk _ H1 _ (P.put (h' := msX h a (upd (mX h a) i.toNatClampNeg (vp_nar .boolean x))) ha (ce_arr hta (by decide)) rfl (ce_arr (t := 13) hta (by decide)) (fun b hb => ce_sX hb) ?_ z oq) hK1
    show H1[B + a]? = some (vp_cell _ _)
    rw [e]
    show some (Cell.setSlot (vp_cell _ (_, .inl (mX h a))) _ _) = some (vp_cell _ (_, .inl _))
    rw [vp_cell_i, vp_cell_i, arrV_store]
    congr 2
    funext q
    simp only [updV, mX, msX, va_up, if_pos]
    by_cases hq : q = i.toNatClampNeg
    · subst hq
      simp [upd]
      rfl
    · simp [upd, hq]
theorem r_sJ (CX : Cxt p m c cc nL s args own G B) (P : Pic G B h s H locs) {K : Hp → Option α} {a : Nat} {i : Int32} {x : Int64} (hF : (sJ h a i x).bind K = some y) (hdg : decode cc pc = .ok (.lastore, 1))
    (kk : ∀ h1 H1 locs1, Pic G B h1 s H1 locs1 → K h1 = some y → W p l e R s m args below meth c H1 locs1 cells slots Q (F0 m (pc + 1) ls rest)) : W p l e R s m args below meth c H locs cells slots Q (F0 m pc ls (.long x :: .int i :: .ref (B + a) :: rest)) := by
  obtain ⟨h1, hx, hK1⟩ := bd_some hF
  unfold sJ at hx
  split at hx
  case isFalse => cases hx
  case isTrue ho =>
    cases hx
    obtain ⟨ho, hi⟩ := Bool.and_eq_true_iff.mp ho
    obtain ⟨hA, ha, hta⟩ := P.arr ho (by decide)
    refine W.last CX.1.1 CX.1.2.1 (P.1 a _ hA) ((CX.2.1.2 1 _ rfl).1 _ (fun j => .long (mY h a j))) (fun q => by cases q) (by show ¬ (i < 0 ∨ (arrV _ _ _).slots.size ≤ _); rw [arrV_size]; exact inb_i hi) rfl rfl hdg fun H1 e z oq => ?_
    refine kk _ H1 _ (P.put (h' := msY h a (vp_updL (mY h a) i.toNatClampNeg x)) ha (ce_arr hta (by decide)) rfl (ce_arr (t := 12) hta (by decide)) (fun b hb => ce_sY hb) ?_ z oq) hK1
    show H1[B + a]? = some (vp_cell _ _)
    rw [e]
    show some (Cell.setSlot (vp_cell _ (_, .inr (.inl (mY h a)))) _ _) = some (vp_cell _ (_, .inr (.inl _)))
    rw [vp_cell_l, vp_cell_l, arrV_store]
    congr 2
    funext q
    simp only [updV, mY, msY, va_up, if_pos]
    by_cases hq : q = i.toNatClampNeg
    · subst hq
      simp [vp_updL]
    · simp [vp_updL, hq]
end GLR
