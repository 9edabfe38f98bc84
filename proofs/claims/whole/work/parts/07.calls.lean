theorem lw_goodIn {ws : List Cond} (h : ∀ w ∈ ws, w ∈ GW) : GoodIn GW ws := fun w hw => ⟨h w hw, good_of_word (List.mem_filter.mp (h w hw)).2⟩
def wsM (y : MethodName) (cc : ByteArray) (n : Nat) (r : Option FieldType) : List Cond := .code y cc n r :: GW
def rmM (fr lo mc ms : Nat) : Room := { frames := fr, cells := mc, slots := ms, locals := lo }
def cO {α : Type} (h : Hp) (a t : Nat) (x : Option α) : Option α := if okT h a t then x else none
section GLC
variable (l : Launch) (y : MethodName) (cc : ByteArray) (nL : Nat) (rt : FieldType) (fr lo mc ms : Nat) (G : GG) (B : Nat) (h : Hp) (av : List Value)
def CI (r : Int32) (h' : Hp) : Prop := Met l y (wsM y cc nL (some rt)) (rmM fr lo mc ms) (va_Pc av (PS G B h)) (va_Qi (fun (x : Int32) (_ : Unit) => x = r) (fun _ t => PS G B h' t) (fun q => B ≤ q)) mc ms (fun q => B ≤ q)
def CL (r : Int64) (h' : Hp) : Prop := Met l y (wsM y cc nL (some rt)) (rmM fr lo mc ms) (va_Pc av (PS G B h)) (va_Ql (fun (x : Int64) (_ : Unit) => x = r) (fun _ t => PS G B h' t) (fun q => B ≤ q)) mc ms (fun q => B ≤ q)
def CR (r : Nat) (h' : Hp) : Prop := Met l y (wsM y cc nL (some rt)) (rmM fr lo mc ms) (va_Pc av (PS G B h)) (va_Qr (fun (_ : Unit) => True) (fun _ a t => a = B + r ∧ PS G B h' t) (fun q => B ≤ q)) mc ms (fun q => B ≤ q)
def CV (h' : Hp) : Prop := Met l y (wsM y cc nL none) (rmM fr lo mc ms) (va_Pc av (PS G B h)) (va_Qv (fun (_ : Unit) => True) (fun _ t => PS G B h' t) (fun q => B ≤ q)) mc ms (fun q => B ≤ q)
end GLC
/-- the words of a call: of an object's method, of a static one, of a constructor, of a nest mate's -/
def okM (y : MethodName) (n : Nat) : Prop := y.cls ≠ "java/lang/invoke/MethodHandle" ∧ y.cls ≠ "java/lang/invoke/VarHandle" ∧ (parseMethodDescriptor y.desc).map (fun d => d.parameters.length) = some n
def KV (own : String) (idx t : Nat) (y : MethodName) (cc : ByteArray) (nL : Nat) (ret : Option FieldType) (n : Nat) : Prop := ∃ q, vwCl[t]? = some q ∧ t < 11 ∧ y.cls = q.1 ∧ okM y n ∧ Cond.methodLink own idx y ∈ GW ∧ Cond.instanceMethod y ∈ GW ∧ Cond.selects y.cls y y ∈ GW ∧ Cond.initialized y.cls ∈ GW ∧ Cond.code y cc nL ret ∈ GW
def KS (own : String) (idx : Nat) (y : MethodName) (cc : ByteArray) (nL : Nat) (ret : Option FieldType) (n : Nat) : Prop := okM y n ∧ Cond.methodLink own idx y ∈ GW ∧ Cond.static y ∈ GW ∧ Cond.initialized y.cls ∈ GW ∧ Cond.code y cc nL ret ∈ GW
def KO (own : String) (idx : Nat) (y : MethodName) (cc : ByteArray) (nL : Nat) (n : Nat) : Prop := okM y n ∧ y.name = "<init>" ∧ (Cond.methodLink own idx y ∈ GW ∨ (own, idx, y) ∈ nwM_) ∧ Cond.instanceMethod y ∈ GW ∧ Cond.initialized y.cls ∈ GW ∧ Cond.code y cc nL none ∈ GW
section GLM
variable {p : Program} {l : Launch} {e : Env} {R : Room} {s : State} {m : MethodId} {args : Array Value} {below : List Frame} {meth : Method} {c : Code} {H : Heap} {locs : List Loc} {cells slots : Nat} {Q : State → Prop}
variable {cc : ByteArray} {pc nL : Nat} {ls : Array Slot} {rest : List Value} {own : String} {G : GG} {B : Nat} {h : Hp} {α : Type} {y : α}
theorem PS.of (CX : Cxt p m c cc nL s args own G B) (P : Pic G B h s H locs) {U : State} (hU : U.heap = H) (hW : s.WarmedH U.vm) : PS G B h U := by
  refine ⟨by rw [hU]; exact P.1, by rw [hU]; exact P.2.1, va_K.moved hW.alike CX.2.1, ?_, CX.2.2.2.warm hW⟩
  rw [hU]
  exact CX.2.2.1.on hW.alike P.2.2.1.2.1
theorem blind_PS {av : List Value} : FrameBlind (va_Pc av (PS G B h)) := by
  intro a U g mk q
  obtain ⟨q0, qP, qz, qK, qE, qN⟩ := q
  exact ⟨q0, qP, qz, va_K.moved (u := U) (U := U.calling g mk a) (Vm.Alike.refl U.vm) qK, qE.on (U := U.calling g mk a) (Vm.Alike.refl U.vm) (fun _ _ _ => rfl), qN.same (U := U.calling g mk a) rfl⟩
theorem ent {yn : MethodName} {ret : Option FieldType} {fr lo mc ms : Nat} {av : List Value} {Qc : Array Value → State → Outcome → State → Prop} (hy : plainName yn.cls = true) (hnl : (lg_sl av).length ≤ nL)
    (body : ∀ p e s m below meth c ls, Cxt p m c cc nL s av.toArray yn.cls G B → meth.sig.returnType = ret → meth.locks = false → meth.name = yn.name → Pic G B h s s.heap [] → lv_has ls nL (lv_args 0 av) →
      W p l e (rmM fr lo mc ms) s m av.toArray below meth c s.heap [] 0 0 (MQ below Qc av.toArray s mc ms (fun q => B ≤ q)) (F0 m 0 ls [])) : Met l yn (wsM yn cc nL ret) (rmM fr lo mc ms) (va_Pc av (PS G B h)) Qc mc ms (fun q => B ≤ q) := by
  refine Met.ofW (cc := cc) (maxL := nL) (ret := ret) hy rfl ?_
  intro p e s m args below meth c s₁ Bd hml hv
  obtain ⟨rfl, hP, hz, hK, hE, hN⟩ := hv
  have hts := atoms_spec (ws := wsM yn cc nL ret) Bd.pre
  have hown : s.vm.findClass yn.cls = some m.cls := findClass_of_methodNamed Bd.named
  rw [lg_entry_eq]
  exact body p e s m below meth c _ ⟨⟨Bd.exec, Bd.bytes, hml, hown, fun w hw => hts w (List.mem_cons_of_mem _ hw)⟩, hK, hE, hN⟩ Bd.returns Bd.notSynchronized (name_of_methodNamed Bd.named Bd.method).1 ⟨hP, hz, va_S.rf, by omega⟩ (lv_entry av hnl)
theorem r_ri (CX : Cxt p m c cc nL s args own G B) (P : Pic G B h s H locs) {rt : FieldType} (hr : meth.sig.returnType = some rt) (hk : meth.locks = false) {r : Int32} (hn : narrow rt (.int r) = .int r) (hdg : decode cc pc = .ok (.ireturn, 1)) :
    W p l e R s m args below meth c H locs cells slots (MQ below (va_Qi (fun (x : Int32) (_ : Unit) => x = r) (fun _ t => PS G B h t) (fun q => B ≤ q)) args s cells slots (fun q => B ≤ q)) (F0 m pc ls [.int r]) :=
  W.zret CX.1.1 CX.1.2.1 hr hn (fun t ht hW => ⟨⟨r, (), rfl, rfl, PS.of CX P ht hW⟩, P.2.2.1.F ht⟩) P.2.2.1.2.2 hdg hk
theorem r_rl (CX : Cxt p m c cc nL s args own G B) (P : Pic G B h s H locs) (hr : meth.sig.returnType = some .long) (hk : meth.locks = false) {r : Int64} (hdg : decode cc pc = .ok (.lreturn, 1)) :
    W p l e R s m args below meth c H locs cells slots (MQ below (va_Ql (fun (x : Int64) (_ : Unit) => x = r) (fun _ t => PS G B h t) (fun q => B ≤ q)) args s cells slots (fun q => B ≤ q)) (F0 m pc ls [.long r]) :=
  W.lret CX.1.1 CX.1.2.1 hr (fun t ht hW => ⟨⟨r, (), rfl, rfl, PS.of CX P ht hW⟩, P.2.2.1.F ht⟩) P.2.2.1.2.2 hdg hk
theorem r_rr (CX : Cxt p m c cc nL s args own G B) (P : Pic G B h s H locs) {n : String} (hr : meth.sig.returnType = some (.object n)) (hk : meth.locks = false) {r : Nat} (hdg : decode cc pc = .ok (.areturn, 1)) :
    W p l e R s m args below meth c H locs cells slots (MQ below (va_Qr (fun (_ : Unit) => True) (fun _ a t => a = B + r ∧ PS G B h t) (fun q => B ≤ q)) args s cells slots (fun q => B ≤ q)) (F0 m pc ls [.ref (B + r)]) :=
  W.aret CX.1.1 CX.1.2.1 hr (Or.inl ⟨n, rfl⟩) (Or.inr ⟨_, rfl⟩) (fun t ht hW => ⟨⟨(), B + r, rfl, trivial, rfl, PS.of CX P ht hW⟩, P.2.2.1.F ht⟩) P.2.2.1.2.2 hdg hk
theorem r_rv (CX : Cxt p m c cc nL s args own G B) (P : Pic G B h s H locs) (hr : meth.sig.returnType = none) (hk : meth.locks = false) (hdg : decode cc pc = .ok (.return_, 1)) :
    W p l e R s m args below meth c H locs cells slots (MQ below (va_Qv (fun (_ : Unit) => True) (fun _ t => PS G B h t) (fun q => B ≤ q)) args s cells slots (fun q => B ≤ q)) (F0 m pc ls []) :=
  W.vret CX.1.1 CX.1.2.1 hr (fun t ht hW => ⟨⟨(), rfl, trivial, PS.of CX P ht hW⟩, P.2.2.1.F ht⟩) P.2.2.1.2.2 hdg hk
theorem r_obj (CX : Cxt p m c cc nL s args own G B) (hls : ls.size = nL) {idx : Nat} (h1 : Cond.methodLink own idx Lib.objectInit ∈ GW) (h2 : Cond.instanceMethod Lib.objectInit ∈ GW) (h3 : Cond.code Lib.objectInit ⟨#[0xb1]⟩ 1 none ∈ GW) {a : Nat} (hf : 1 ≤ R.frames) (hlo : (rest.map fun v => v.category).sum + 12 ≤ R.locals) (hdg : decode cc pc = .ok (.invokespecial idx, 3))
    (kk : W p l e R s m args below meth c H locs cells slots Q (F0 m (pc + 3) ls rest)) : W p l e R s m args below meth c H locs cells slots Q (F0 m pc ls (.ref a :: rest)) :=
  W.objInit CX.1.1 CX.1.2.1 CX.1.2.2.2.1 (CX.1.2.2.2.2 _ h1) (CX.1.2.2.2.2 _ h2) (CX.1.2.2.2.2 _ h3) rfl (hls.trans CX.1.2.2.1.symm) rfl hdg hf (by show 2 * 0 + _ + 12 ≤ _; omega) kk
section
variable {yn : MethodName} {bytes : ByteArray} {maxL fr lo mc ms n idx a t : Nat} {rt : FieldType} {As : List Value}
theorem gw_V {ret : Option FieldType} (CX : Cxt p m c cc nL s args own G B) (k : KV own idx t yn bytes maxL ret n) (hR : fr + 1 ≤ R.frames ∧ 8 + (maxL + 11) + lo ≤ R.locals) : CallW R s args own yn.cls idx yn bytes maxL ret (wsM yn bytes maxL ret) (rmM fr lo mc ms) mc ms n := by
  obtain ⟨q, -, -, -, ⟨k1, k2, k3⟩, w1, w2, w3, w4, w5⟩ := k
  refine cwV n CX.1.2.2.2.2 (lw_goodIn (fun w hw => ?_)) rfl rfl rfl ⟨rfl, k1, k2, k3⟩ hR
  unfold wsV at hw
  rcases List.mem_append.mp hw with hw | hw
  · simp only [List.mem_cons, List.not_mem_nil, or_false] at hw
    rcases hw with rfl | rfl | rfl | rfl <;> assumption
  · rcases List.mem_cons.mp hw with rfl | hw
    · exact w5
    · exact hw
theorem gw_B {ret : Option FieldType} (CX : Cxt p m c cc nL s args own G B) (k1 : okM yn n) (w1 : Cond.methodLink own idx yn ∈ GW) (w4 : Cond.initialized yn.cls ∈ GW) (w5 : Cond.code yn bytes maxL ret ∈ GW) (hR : fr + 1 ≤ R.frames ∧ 8 + (maxL + 11) + lo ≤ R.locals) : CallB R s args own idx yn bytes maxL ret (wsM yn bytes maxL ret) (rmM fr lo mc ms) mc ms n := by
  obtain ⟨k1, k2, k3⟩ := k1
  have hG : GoodIn GW (wsM yn bytes maxL ret) := lw_goodIn (fun w hw => by
    rcases List.mem_cons.mp hw with rfl | hw
    · exact w5
    · exact hw)
  have hts := CX.1.2.2.2.2
  refine ⟨rfl, rfl, hR.1, hR.2, fun w hw a' U hW => word_at hW (hG w hw).2 (hts w (hG w hw).1), List.mem_cons_self, hts _ w5, hts _ w4, ⟨k1, k2⟩, fun sig hs => ?_, hts _ w1⟩
  rw [hs] at k3
  exact (Option.some.inj k3).symm
theorem pre_V (CX : Cxt p m c cc nL s args own G B) (P : Pic G B h s H locs) (ho : okT h a t = true) {q : vw_C} (hc : vwCl[t]? = some q) (ht : t < 11) (he : yn.cls = q.1) : PreV s H yn.cls (B + a) (va_Pc (.ref (B + a) :: As) (PS G B h)) As := by
  obtain ⟨ha, hta⟩ := okT_i ho
  refine ⟨blind_PS, ?_, fun U hU hW => ⟨rfl, PS.of CX P hU hW⟩⟩
  rw [he]
  exact va_recv (D := G.1) CX.2.1 P.1 (q0 := a) hc ((cel_at ha).trans (by rw [ce_obj hta ht]))
theorem r_cVi (CX : Cxt p m c cc nL s args own G B) (P : Pic G B h s H locs) (hls : ls.size = nL) {X : Option (Int32 × Hp)} {K : Int32 × Hp → Option α} (hF : (cO h a t X).bind K = some y) (k : KV own idx t yn bytes maxL (some rt) n) (hM : ∀ r h1, X = some (r, h1) → CI l yn bytes maxL rt fr lo mc ms G B h (.ref (B + a) :: As) r h1) (hn : As.length = n) {st : List Value} (hst : st = As.reverse ++ .ref (B + a) :: rest)
    (hR : fr + 1 ≤ R.frames ∧ 8 + (maxL + 11) + lo ≤ R.locals) (hrm : (rest.map fun v => v.category).sum ≤ 8) (hf : cells + mc ≤ R.cells ∧ slots + ms ≤ R.slots) (hdg : decode cc pc = .ok (.invokevirtual idx, 3))
    (kk : ∀ r h1 H1 locs1, Pic G B h1 s H1 locs1 → K (r, h1) = some y → W p l e R s m args below meth c H1 locs1 (cells + mc) (slots + ms) Q (F0 m (pc + 3) ls (.int r :: rest))) : W p l e R s m args below meth c H locs cells slots Q (F0 m pc ls st) := by
  obtain ⟨⟨r, h1⟩, hX, hK1⟩ := bd_some hF
  unfold cO at hX
  split at hX
  case isFalse => cases hX
  case isTrue ho =>
    obtain ⟨q, hc, ht, he, -⟩ := id k
    refine va_calli (va_runV (As := As) (rest := rest) CX.1 (hM r h1 hX) (gw_V CX k hR) (pre_V CX P ho hc ht he) rfl hn hls hst (lv_room hrm) hdg hf) P.2.2.1 (fun q _ z => z) (fun q z => z) (fun r' u t9 H1 locs1 e1 hvm hp hB hz1 hk1 hS => ?_)
    subst hp
    exact kk _ h1 H1 locs1 ⟨by rw [← e1]; exact hB.1, by rw [← e1]; exact hB.2.1, hS, P.2.2.2⟩ hK1
theorem r_cVp (CX : Cxt p m c cc nL s args own G B) (P : Pic G B h s H locs) (hls : ls.size = nL) {X : Option Int32} {K : Int32 → Option α} (hF : (cO h a t X).bind K = some y) (k : KV own idx t yn bytes maxL (some rt) n) (hM : ∀ r, X = some r → CI l yn bytes maxL rt fr lo mc ms G B h (.ref (B + a) :: As) r h) (hn : As.length = n) {st : List Value} (hst : st = As.reverse ++ .ref (B + a) :: rest)
    (hR : fr + 1 ≤ R.frames ∧ 8 + (maxL + 11) + lo ≤ R.locals) (hrm : (rest.map fun v => v.category).sum ≤ 8) (hf : cells + mc ≤ R.cells ∧ slots + ms ≤ R.slots) (hdg : decode cc pc = .ok (.invokevirtual idx, 3))
    (kk : ∀ r H1 locs1, Pic G B h s H1 locs1 → K r = some y → W p l e R s m args below meth c H1 locs1 (cells + mc) (slots + ms) Q (F0 m (pc + 3) ls (.int r :: rest))) : W p l e R s m args below meth c H locs cells slots Q (F0 m pc ls st) := by
  obtain ⟨r, hX, hK1⟩ := bd_some hF
  unfold cO at hX
  split at hX
  case isFalse => cases hX
  case isTrue ho =>
    obtain ⟨q, hc, ht, he, -⟩ := id k
    refine va_calli (va_runV (As := As) (rest := rest) CX.1 (hM r hX) (gw_V CX k hR) (pre_V CX P ho hc ht he) rfl hn hls hst (lv_room hrm) hdg hf) P.2.2.1 (fun q _ z => z) (fun q z => z) (fun r' u t9 H1 locs1 e1 hvm hp hB hz1 hk1 hS => ?_)
    subst hp
    exact kk _ H1 locs1 ⟨by rw [← e1]; exact hB.1, by rw [← e1]; exact hB.2.1, hS, P.2.2.2⟩ hK1
theorem r_cVl (CX : Cxt p m c cc nL s args own G B) (P : Pic G B h s H locs) (hls : ls.size = nL) {X : Option (Int64 × Hp)} {K : Int64 × Hp → Option α} (hF : (cO h a t X).bind K = some y) (k : KV own idx t yn bytes maxL (some rt) n) (hM : ∀ r h1, X = some (r, h1) → CL l yn bytes maxL rt fr lo mc ms G B h (.ref (B + a) :: As) r h1) (hn : As.length = n) {st : List Value} (hst : st = As.reverse ++ .ref (B + a) :: rest)
    (hR : fr + 1 ≤ R.frames ∧ 8 + (maxL + 11) + lo ≤ R.locals) (hrm : (rest.map fun v => v.category).sum ≤ 8) (hf : cells + mc ≤ R.cells ∧ slots + ms ≤ R.slots) (hdg : decode cc pc = .ok (.invokevirtual idx, 3))
    (kk : ∀ r h1 H1 locs1, Pic G B h1 s H1 locs1 → K (r, h1) = some y → W p l e R s m args below meth c H1 locs1 (cells + mc) (slots + ms) Q (F0 m (pc + 3) ls (.long r :: rest))) : W p l e R s m args below meth c H locs cells slots Q (F0 m pc ls st) := by
  obtain ⟨⟨r, h1⟩, hX, hK1⟩ := bd_some hF
  unfold cO at hX
  split at hX
  case isFalse => cases hX
  case isTrue ho =>
    obtain ⟨q, hc, ht, he, -⟩ := id k
    refine va_calll (va_runV (As := As) (rest := rest) CX.1 (hM r h1 hX) (gw_V CX k hR) (pre_V CX P ho hc ht he) rfl hn hls hst (lv_room hrm) hdg hf) P.2.2.1 (fun q _ z => z) (fun q z => z) (fun r' u t9 H1 locs1 e1 hvm hp hB hz1 hk1 hS => ?_)
    subst hp
    exact kk _ h1 H1 locs1 ⟨by rw [← e1]; exact hB.1, by rw [← e1]; exact hB.2.1, hS, P.2.2.2⟩ hK1
theorem r_cVr (CX : Cxt p m c cc nL s args own G B) (P : Pic G B h s H locs) (hls : ls.size = nL) {X : Option Nat} {K : Nat → Option α} (hF : (cO h a t X).bind K = some y) (k : KV own idx t yn bytes maxL (some rt) n) (hM : ∀ r, X = some r → CR l yn bytes maxL rt fr lo mc ms G B h (.ref (B + a) :: As) r h) (hn : As.length = n) {st : List Value} (hst : st = As.reverse ++ .ref (B + a) :: rest)
    (hR : fr + 1 ≤ R.frames ∧ 8 + (maxL + 11) + lo ≤ R.locals) (hrm : (rest.map fun v => v.category).sum ≤ 8) (hf : cells + mc ≤ R.cells ∧ slots + ms ≤ R.slots) (hdg : decode cc pc = .ok (.invokevirtual idx, 3))
    (kk : ∀ r H1 locs1, Pic G B h s H1 locs1 → K r = some y → W p l e R s m args below meth c H1 locs1 (cells + mc) (slots + ms) Q (F0 m (pc + 3) ls (.ref (B + r) :: rest))) : W p l e R s m args below meth c H locs cells slots Q (F0 m pc ls st) := by
  obtain ⟨r, hX, hK1⟩ := bd_some hF
  unfold cO at hX
  split at hX
  case isFalse => cases hX
  case isTrue ho =>
    obtain ⟨q, hc, ht, he, -⟩ := id k
    refine va_callr (va_runV (As := As) (rest := rest) CX.1 (hM r hX) (gw_V CX k hR) (pre_V CX P ho hc ht he) rfl hn hls hst (lv_room hrm) hdg hf) P.2.2.1 (fun q _ z => z) (fun q z => z) (fun u ra t9 H1 locs1 e1 hvm hp hB hz1 hk1 hS => ?_)
    obtain ⟨rfl, hB⟩ := hB
    exact kk _ H1 locs1 ⟨by rw [← e1]; exact hB.1, by rw [← e1]; exact hB.2.1, hS, P.2.2.2⟩ hK1
theorem r_cVv (CX : Cxt p m c cc nL s args own G B) (P : Pic G B h s H locs) (hls : ls.size = nL) {X : Option Hp} {K : Hp → Option α} (hF : (cO h a t X).bind K = some y) (k : KV own idx t yn bytes maxL none n) (hM : ∀ h1, X = some h1 → CV l yn bytes maxL fr lo mc ms G B h (.ref (B + a) :: As) h1) (hn : As.length = n) {st : List Value} (hst : st = As.reverse ++ .ref (B + a) :: rest)
    (hR : fr + 1 ≤ R.frames ∧ 8 + (maxL + 11) + lo ≤ R.locals) (hrm : (rest.map fun v => v.category).sum ≤ 8) (hf : cells + mc ≤ R.cells ∧ slots + ms ≤ R.slots) (hdg : decode cc pc = .ok (.invokevirtual idx, 3))
    (kk : ∀ h1 H1 locs1, Pic G B h1 s H1 locs1 → K h1 = some y → W p l e R s m args below meth c H1 locs1 (cells + mc) (slots + ms) Q (F0 m (pc + 3) ls rest)) : W p l e R s m args below meth c H locs cells slots Q (F0 m pc ls st) := by
  obtain ⟨h1, hX, hK1⟩ := bd_some hF
  unfold cO at hX
  split at hX
  case isFalse => cases hX
  case isTrue ho =>
    obtain ⟨q, hc, ht, he, -⟩ := id k
    refine va_callv (va_runV (As := As) (rest := rest) CX.1 (hM h1 hX) (gw_V CX k hR) (pre_V CX P ho hc ht he) rfl hn hls hst (lv_room hrm) hdg hf) P.2.2.1 (fun q _ z => z) (fun q z => z) (fun u t9 H1 locs1 e1 hvm hp hB hz1 hk1 hS => ?_)
    exact kk h1 H1 locs1 ⟨by rw [← e1]; exact hB.1, by rw [← e1]; exact hB.2.1, hS, P.2.2.2⟩ hK1
theorem r_cSp (CX : Cxt p m c cc nL s args own G B) (P : Pic G B h s H locs) (hls : ls.size = nL) {X : Option Int32} {K : Int32 → Option α} (hF : X.bind K = some y) (k : KS own idx yn bytes maxL (some rt) n) (hM : ∀ r, X = some r → CI l yn bytes maxL rt fr lo mc ms G B h As r h) (hn : As.length = n) {st : List Value} (hst : st = As.reverse ++ rest)
    (hR : fr + 1 ≤ R.frames ∧ 8 + (maxL + 11) + lo ≤ R.locals) (hrm : (rest.map fun v => v.category).sum ≤ 8) (hf : cells + mc ≤ R.cells ∧ slots + ms ≤ R.slots) (hdg : decode cc pc = .ok (.invokestatic idx, 3))
    (kk : ∀ r H1 locs1, Pic G B h s H1 locs1 → K r = some y → W p l e R s m args below meth c H1 locs1 (cells + mc) (slots + ms) Q (F0 m (pc + 3) ls (.int r :: rest))) : W p l e R s m args below meth c H locs cells slots Q (F0 m pc ls st) := by
  obtain ⟨r, hX, hK1⟩ := bd_some hF
  obtain ⟨k1, w1, w2, w3, w4⟩ := k
  refine va_calli (va_runS (As := As) (rest := rest) CX.1 (hM r hX) ⟨gw_B CX k1 w1 w3 w4 hR, CX.1.2.2.2.2 _ w2⟩ ⟨blind_PS, fun U hU hW => ⟨rfl, PS.of CX P hU hW⟩⟩ rfl hn hls hst (lv_room hrm) hdg hf) P.2.2.1 (fun q _ z => z) (fun q z => z) (fun r' u t9 H1 locs1 e1 hvm hp hB hz1 hk1 hS => ?_)
  subst hp
  exact kk _ H1 locs1 ⟨by rw [← e1]; exact hB.1, by rw [← e1]; exact hB.2.1, hS, P.2.2.2⟩ hK1
theorem r_cSi (CX : Cxt p m c cc nL s args own G B) (P : Pic G B h s H locs) (hls : ls.size = nL) {X : Option (Int32 × Hp)} {K : Int32 × Hp → Option α} (hF : X.bind K = some y) (k : KS own idx yn bytes maxL (some rt) n) (hM : ∀ r h1, X = some (r, h1) → CI l yn bytes maxL rt fr lo mc ms G B h As r h1) (hn : As.length = n) {st : List Value} (hst : st = As.reverse ++ rest)
    (hR : fr + 1 ≤ R.frames ∧ 8 + (maxL + 11) + lo ≤ R.locals) (hrm : (rest.map fun v => v.category).sum ≤ 8) (hf : cells + mc ≤ R.cells ∧ slots + ms ≤ R.slots) (hdg : decode cc pc = .ok (.invokestatic idx, 3))
    (kk : ∀ r h1 H1 locs1, Pic G B h1 s H1 locs1 → K (r, h1) = some y → W p l e R s m args below meth c H1 locs1 (cells + mc) (slots + ms) Q (F0 m (pc + 3) ls (.int r :: rest))) : W p l e R s m args below meth c H locs cells slots Q (F0 m pc ls st) := by
  obtain ⟨⟨r, h1⟩, hX, hK1⟩ := bd_some hF
  obtain ⟨k1, w1, w2, w3, w4⟩ := k
  refine va_calli (va_runS (As := As) (rest := rest) CX.1 (hM r h1 hX) ⟨gw_B CX k1 w1 w3 w4 hR, CX.1.2.2.2.2 _ w2⟩ ⟨blind_PS, fun U hU hW => ⟨rfl, PS.of CX P hU hW⟩⟩ rfl hn hls hst (lv_room hrm) hdg hf) P.2.2.1 (fun q _ z => z) (fun q z => z) (fun r' u t9 H1 locs1 e1 hvm hp hB hz1 hk1 hS => ?_)
  subst hp
  exact kk _ h1 H1 locs1 ⟨by rw [← e1]; exact hB.1, by rw [← e1]; exact hB.2.1, hS, P.2.2.2⟩ hK1
theorem r_cSl (CX : Cxt p m c cc nL s args own G B) (P : Pic G B h s H locs) (hls : ls.size = nL) {X : Option Int64} {K : Int64 → Option α} (hF : X.bind K = some y) (k : KS own idx yn bytes maxL (some rt) n) (hM : ∀ r, X = some r → CL l yn bytes maxL rt fr lo mc ms G B h As r h) (hn : As.length = n) {st : List Value} (hst : st = As.reverse ++ rest)
    (hR : fr + 1 ≤ R.frames ∧ 8 + (maxL + 11) + lo ≤ R.locals) (hrm : (rest.map fun v => v.category).sum ≤ 8) (hf : cells + mc ≤ R.cells ∧ slots + ms ≤ R.slots) (hdg : decode cc pc = .ok (.invokestatic idx, 3))
    (kk : ∀ r H1 locs1, Pic G B h s H1 locs1 → K r = some y → W p l e R s m args below meth c H1 locs1 (cells + mc) (slots + ms) Q (F0 m (pc + 3) ls (.long r :: rest))) : W p l e R s m args below meth c H locs cells slots Q (F0 m pc ls st) := by
  obtain ⟨r, hX, hK1⟩ := bd_some hF
  obtain ⟨k1, w1, w2, w3, w4⟩ := k
  refine va_calll (va_runS (As := As) (rest := rest) CX.1 (hM r hX) ⟨gw_B CX k1 w1 w3 w4 hR, CX.1.2.2.2.2 _ w2⟩ ⟨blind_PS, fun U hU hW => ⟨rfl, PS.of CX P hU hW⟩⟩ rfl hn hls hst (lv_room hrm) hdg hf) P.2.2.1 (fun q _ z => z) (fun q z => z) (fun r' u t9 H1 locs1 e1 hvm hp hB hz1 hk1 hS => ?_)
  subst hp
  exact kk _ H1 locs1 ⟨by rw [← e1]; exact hB.1, by rw [← e1]; exact hB.2.1, hS, P.2.2.2⟩ hK1
theorem r_cSv (CX : Cxt p m c cc nL s args own G B) (P : Pic G B h s H locs) (hls : ls.size = nL) {X : Option Hp} {K : Hp → Option α} (hF : X.bind K = some y) (k : KS own idx yn bytes maxL none n) (hM : ∀ h1, X = some h1 → CV l yn bytes maxL fr lo mc ms G B h As h1) (hn : As.length = n) {st : List Value} (hst : st = As.reverse ++ rest)
    (hR : fr + 1 ≤ R.frames ∧ 8 + (maxL + 11) + lo ≤ R.locals) (hrm : (rest.map fun v => v.category).sum ≤ 8) (hf : cells + mc ≤ R.cells ∧ slots + ms ≤ R.slots) (hdg : decode cc pc = .ok (.invokestatic idx, 3))
    (kk : ∀ h1 H1 locs1, Pic G B h1 s H1 locs1 → K h1 = some y → W p l e R s m args below meth c H1 locs1 (cells + mc) (slots + ms) Q (F0 m (pc + 3) ls rest)) : W p l e R s m args below meth c H locs cells slots Q (F0 m pc ls st) := by
  obtain ⟨h1, hX, hK1⟩ := bd_some hF
  obtain ⟨k1, w1, w2, w3, w4⟩ := k
  refine va_callv (va_runS (As := As) (rest := rest) CX.1 (hM h1 hX) ⟨gw_B CX k1 w1 w3 w4 hR, CX.1.2.2.2.2 _ w2⟩ ⟨blind_PS, fun U hU hW => ⟨rfl, PS.of CX P hU hW⟩⟩ rfl hn hls hst (lv_room hrm) hdg hf) P.2.2.1 (fun q _ z => z) (fun q z => z) (fun u t9 H1 locs1 e1 hvm hp hB hz1 hk1 hS => ?_)
  exact kk h1 H1 locs1 ⟨by rw [← e1]; exact hB.1, by rw [← e1]; exact hB.2.1, hS, P.2.2.2⟩ hK1
end
end GLM
