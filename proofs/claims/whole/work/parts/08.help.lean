theorem bl_e {α β : Type} {a v : α} {f : α → Option β} {y : β} (h : bl a f = some y) (e : v = a) : f v = some y := by subst e; exact h
theorem bl_o {α β : Type} {a : α} {f : α → Option β} {y : β} (h : bl a f = some y) : ∃ v, a = v ∧ f v = some y := ⟨a, rfl, h⟩
def un {α β γ : Type} (f : α → β → γ) (x : α × β) : γ := f x.1 x.2
theorem un_i {α β γ : Type} {f : α → β → Option γ} {a : α} {b : β} {y : γ} (h : un f (a, b) = some y) : f a b = some y := h
def sE {α β γ : Type} (f : α → γ) (g : β → γ) : α ⊕ β → γ
  | .inl a => f a
  | .inr b => g b
theorem sE_li {α β γ : Type} {f : α → Option γ} {g : β → Option γ} {a : α} {y : γ} (h : sE f g (.inl a) = some y) : f a = some y := h
theorem sE_ri {α β γ : Type} {f : α → Option γ} {g : β → Option γ} {a : β} {y : γ} (h : sE f g (.inr a) = some y) : g a = some y := h
def oE {α γ : Type} (c : γ) (f : α → γ) : Option α → γ
  | none => c
  | some a => f a
theorem loop_some {σ ρ : Type} {st : σ → Option (σ ⊕ ρ)} {n : Nat} {x : σ} {r : ρ} (h : loopF st (n + 1) x = some r) : ∃ z, st x = some z ∧ (∀ x', z = .inl x' → loopF st n x' = some r) ∧ (∀ r', z = .inr r' → r' = r) := by
  obtain ⟨z, h1, h2⟩ := bd_some h
  refine ⟨z, h1, fun x' e => ?_, fun r' e => ?_⟩
  · subst e
    exact h2
  · subst e
    exact Option.some.inj h2
theorem nz_i {x z : Int32} (h : nzI x = some z) : narrow .boolean (.int x) = .int x ∧ z = x := by
  unfold nzI at h
  split at h
  case isFalse => cases h
  case isTrue ho =>
    cases h
    rcases ho with rfl | rfl
    · exact ⟨rfl, rfl⟩
    · exact ⟨rfl, rfl⟩
def aL (h : Hp) (a : Nat) : Option Int32 := if okT h a 11 then some (Int32.ofNat (mT h a).2) else none
/-- a nest mate's static method -/
def KN (own : String) (idx : Nat) (y : MethodName) (cc : ByteArray) (nL : Nat) (ret : Option FieldType) (n : Nat) : Prop := okM y n ∧ (own, idx, y) ∈ nwM_ ∧ Cond.static y ∈ GW ∧ Cond.initialized y.cls ∈ GW ∧ Cond.code y cc nL ret ∈ GW
section GLH
variable {p : Program} {l : Launch} {e : Env} {R : Room} {s : State} {m : MethodId} {args : Array Value} {below : List Frame} {meth : Method} {c : Code} {H : Heap} {locs : List Loc} {cells slots : Nat} {Q : State → Prop}
variable {cc : ByteArray} {pc nL : Nat} {ls : Array Slot} {rest : List Value} {own : String} {G : GG} {B : Nat} {h : Hp} {α : Type} {y : α}
theorem r_aL (CX : Cxt p m c cc nL s args own G B) (P : Pic G B h s H locs) {K : Int32 → Option α} {a : Nat} (hF : (aL h a).bind K = some y) (hdg : decode cc pc = .ok (.arraylength, 1))
    (kk : ∀ x, K x = some y → W p l e R s m args below meth c H locs cells slots Q (F0 m (pc + 1) ls (.int x :: rest))) : W p l e R s m args below meth c H locs cells slots Q (F0 m pc ls (.ref (B + a) :: rest)) := by
  obtain ⟨x, hx, hK1⟩ := bd_some hF
  unfold aL at hx
  split at hx
  case isFalse => cases hx
  case isTrue ho =>
    cases hx
    exact va_alen (D := G.1) CX.1.1 CX.1.2.1 CX.2.1 P.1 a 0 (P.arr ho (by decide)).1 (ty := .int) rfl rfl hdg (kk _ hK1)
def SCr (b L : Nat) (xs : Nat → Int32) (s : State) (B : Nat) : Prop := va_X b L xs s s.heap ∧ b < s.heap.size ∧ ¬ B ≤ b
def scX (L : Nat) (xs : Nat → Int32) (i : Int32) : Option Int32 := if inb i L then some (xs i.toNatClampNeg) else none
theorem r_sc {b L : Nat} {xs : Nat → Int32} (CX : Cxt p m c cc nL s args own G B) (P : Pic G B h s H locs) (SC : SCr b L xs s B) {K : Int32 → Option α} {i : Int32} (hF : (scX L xs i).bind K = some y) (hdg : decode cc pc = .ok (.iaload, 1))
    (kk : ∀ x, K x = some y → W p l e R s m args below meth c H locs cells slots Q (F0 m (pc + 1) ls (.int x :: rest))) : W p l e R s m args below meth c H locs cells slots Q (F0 m pc ls (.int i :: .ref b :: rest)) := by
  obtain ⟨x, hx, hK1⟩ := bd_some hF
  unfold scX at hx
  split at hx
  case isFalse => cases hx
  case isTrue ho =>
    cases hx
    exact va_sld CX.1.1 CX.1.2.1 SC.1 SC.2.1 SC.2.2 P.2.2.1 (inb_i ho) hdg (kk _ hK1)
theorem r_sl {b L : Nat} {xs : Nat → Int32} (CX : Cxt p m c cc nL s args own G B) (P : Pic G B h s H locs) (SC : SCr b L xs s B) (hdg : decode cc pc = .ok (.arraylength, 1))
    (kk : W p l e R s m args below meth c H locs cells slots Q (F0 m (pc + 1) ls (.int (Int32.ofNat L) :: rest))) : W p l e R s m args below meth c H locs cells slots Q (F0 m pc ls (.ref b :: rest)) :=
  va_slen CX.1.1 CX.1.2.1 SC.1 SC.2.1 SC.2.2 P.2.2.1 hdg kk
theorem law_n (j : Nat) : nI (5 * j) + 5 = nI (5 * (j + 1)) := by
  have e : (5 : Int32) = nI 5 := by decide
  rw [e, nI_add]
  congr 1
theorem law_j {L j : Nat} {v : Int32} (hL : L ≤ 2560) (ev : v = nI (5 * j)) (hj : j ≤ 512) (hc : ¬ Int32.ofNat L - 5 < v) : j < 512 := by
  subst ev
  have e : (5 : Int32) = nI 5 := by decide
  have e2 : Int32.ofNat L = nI L := rfl
  rw [e, e2, Int32.lt_iff_toInt_lt, pk_sub_toInt (by omega) (by omega), nI_toInt (by omega)] at hc
  omega
variable {yn : MethodName} {bytes : ByteArray} {maxL fr lo mc ms n idx a t : Nat} {rt : FieldType} {As av : List Value} {h' : Hp}
theorem r_cO (CX : Cxt p m c cc nL s args own G B) (P : Pic G B h s H locs) (hls : ls.size = nL) {X : Option Hp} {K : Hp → Option α} (hF : X.bind K = some y) (k : KO own idx yn bytes maxL n) (hM : ∀ h1, X = some h1 → CV l yn bytes maxL fr lo mc ms G B h (.ref (B + a) :: As) h1) (hn : As.length = n) {st : List Value} (hst : st = As.reverse ++ .ref (B + a) :: rest)
    (hR : fr + 1 ≤ R.frames ∧ 8 + (maxL + 11) + lo ≤ R.locals) (hrm : (rest.map fun v => v.category).sum ≤ 8) (hf : cells + mc ≤ R.cells ∧ slots + ms ≤ R.slots) (hdg : decode cc pc = .ok (.invokespecial idx, 3))
    (kk : ∀ h1 H1 locs1, Pic G B h1 s H1 locs1 → K h1 = some y → W p l e R s m args below meth c H1 locs1 (cells + mc) (slots + ms) Q (F0 m (pc + 3) ls rest)) : W p l e R s m args below meth c H locs cells slots Q (F0 m pc ls st) := by
  obtain ⟨h1, hX, hK1⟩ := bd_some hF
  obtain ⟨k1, k2, w1, w2, w3, w4⟩ := k
  have hts := CX.1.2.2.2.2
  have hp : PreS s H (va_Pc (.ref (B + a) :: As) (PS G B h)) (.ref (B + a) :: As) := ⟨blind_PS, fun U hU hW => ⟨rfl, PS.of CX P hU hW⟩⟩
  have hG : GoodIn GW (wsM yn bytes maxL none) := lw_goodIn (fun w hw => by
    rcases List.mem_cons.mp hw with rfl | hw
    · exact w4
    · exact hw)
  rcases w1 with w1 | w1
  · refine va_callv (va_runI (As := As) (rest := rest) CX.1 (hM h1 hX) ⟨gw_B CX k1 w1 w3 w4 hR, k2, hts _ w2⟩ hp rfl hn hls hst (lv_room hrm) hdg hf) P.2.2.1 (fun q _ z => z) (fun q z => z) (fun u t9 H1 locs1 e1 hvm hp hB hz1 hk1 hS => ?_)
    exact kk h1 H1 locs1 ⟨by rw [← e1]; exact hB.1, by rw [← e1]; exact hB.2.1, hS, P.2.2.2⟩ hK1
  · have hnw : va_Nw (.methodLinkNest own idx yn "GroupLimits") s := CX.2.2.2.2.2.2.1 _ w1
    refine va_callv (va_runIN (As := As) (rest := rest) (host := "GroupLimits") CX.1 (hM h1 hX) ⟨va_cnB n hts hG rfl rfl rfl hnw (hts _ w3) k1 hR, k2, hts _ w2⟩ hp rfl hn hls hst (lv_room hrm) hdg hf) P.2.2.1 (fun q _ z => z) (fun q z => z) (fun u t9 H1 locs1 e1 hvm hp hB hz1 hk1 hS => ?_)
    exact kk h1 H1 locs1 ⟨by rw [← e1]; exact hB.1, by rw [← e1]; exact hB.2.1, hS, P.2.2.2⟩ hK1
theorem r_cNp (CX : Cxt p m c cc nL s args own G B) (P : Pic G B h s H locs) (hls : ls.size = nL) {X : Option Int32} {K : Int32 → Option α} (hF : X.bind K = some y) (k : KN own idx yn bytes maxL (some rt) n) (hM : ∀ r, X = some r → CI l yn bytes maxL rt fr lo mc ms G B h As r h) (hn : As.length = n) {st : List Value} (hst : st = As.reverse ++ rest)
    (hR : fr + 1 ≤ R.frames ∧ 8 + (maxL + 11) + lo ≤ R.locals) (hrm : (rest.map fun v => v.category).sum ≤ 8) (hf : cells + mc ≤ R.cells ∧ slots + ms ≤ R.slots) (hdg : decode cc pc = .ok (.invokestatic idx, 3))
    (kk : ∀ r H1 locs1, Pic G B h s H1 locs1 → K r = some y → W p l e R s m args below meth c H1 locs1 (cells + mc) (slots + ms) Q (F0 m (pc + 3) ls (.int r :: rest))) : W p l e R s m args below meth c H locs cells slots Q (F0 m pc ls st) := by
  obtain ⟨r, hX, hK1⟩ := bd_some hF
  obtain ⟨k1, w1, w2, w3, w4⟩ := k
  have hts := CX.1.2.2.2.2
  have hG : GoodIn GW (wsM yn bytes maxL (some rt)) := lw_goodIn (fun w hw => by
    rcases List.mem_cons.mp hw with rfl | hw
    · exact w4
    · exact hw)
  have hnw : va_Nw (.methodLinkNest own idx yn "GroupLimits") s := CX.2.2.2.2.2.2.1 _ w1
  refine va_calli (va_runSN (As := As) (rest := rest) (host := "GroupLimits") CX.1 (hM r hX) ⟨va_cnB n hts hG rfl rfl rfl hnw (hts _ w3) k1 hR, hts _ w2, trivial⟩ ⟨blind_PS, fun U hU hW => ⟨rfl, PS.of CX P hU hW⟩⟩ rfl hn hls hst (lv_room hrm) hdg hf) P.2.2.1 (fun q _ z => z) (fun q z => z) (fun r' u t9 H1 locs1 e1 hvm hp hB hz1 hk1 hS => ?_)
  subst hp
  exact kk _ H1 locs1 ⟨by rw [← e1]; exact hB.1, by rw [← e1]; exact hB.2.1, hS, P.2.2.2⟩ hK1
theorem ent_i {r : Int32} (hy : plainName yn.cls = true) (hnl : (lg_sl av).length ≤ nL)
    (body : ∀ p e s m args below meth c ls (Q : State → Prop), Cxt p m c cc nL s args yn.cls G B → meth.name = yn.name → (∀ H locs pc ls', Pic G B h' s H locs → narrow rt (.int r) = .int r → decode cc pc = .ok (.ireturn, 1) → W p l e (rmM fr lo mc ms) s m args below meth c H locs mc ms Q (F0 m pc ls' [.int r])) →
      Pic G B h s s.heap [] → lv_has ls nL (lv_args 0 av) → W p l e (rmM fr lo mc ms) s m args below meth c s.heap [] 0 0 Q (F0 m 0 ls [])) : CI l yn cc nL rt fr lo mc ms G B h av r h' :=
  ent hy hnl (fun p e s m below meth c ls CX hr hk hnm P hl => body p e s m _ below meth c ls _ CX hnm (fun H locs pc ls' P hn hd => r_ri CX P hr hk hn hd) P hl)
theorem ent_l {r : Int64} (hy : plainName yn.cls = true) (hnl : (lg_sl av).length ≤ nL)
    (body : ∀ p e s m args below meth c ls (Q : State → Prop), Cxt p m c cc nL s args yn.cls G B → meth.name = yn.name → (∀ H locs pc ls', Pic G B h' s H locs → decode cc pc = .ok (.lreturn, 1) → W p l e (rmM fr lo mc ms) s m args below meth c H locs mc ms Q (F0 m pc ls' [.long r])) →
      Pic G B h s s.heap [] → lv_has ls nL (lv_args 0 av) → W p l e (rmM fr lo mc ms) s m args below meth c s.heap [] 0 0 Q (F0 m 0 ls [])) : CL l yn cc nL .long fr lo mc ms G B h av r h' :=
  ent hy hnl (fun p e s m below meth c ls CX hr hk hnm P hl => body p e s m _ below meth c ls _ CX hnm (fun H locs pc ls' P hd => r_rl CX P hr hk hd) P hl)
theorem ent_r {r : Nat} {C : String} (hy : plainName yn.cls = true) (hnl : (lg_sl av).length ≤ nL)
    (body : ∀ p e s m args below meth c ls (Q : State → Prop), Cxt p m c cc nL s args yn.cls G B → meth.name = yn.name → (∀ H locs pc ls', Pic G B h' s H locs → decode cc pc = .ok (.areturn, 1) → W p l e (rmM fr lo mc ms) s m args below meth c H locs mc ms Q (F0 m pc ls' [.ref (B + r)])) →
      Pic G B h s s.heap [] → lv_has ls nL (lv_args 0 av) → W p l e (rmM fr lo mc ms) s m args below meth c s.heap [] 0 0 Q (F0 m 0 ls [])) : CR l yn cc nL (.object C) fr lo mc ms G B h av r h' :=
  ent hy hnl (fun p e s m below meth c ls CX hr hk hnm P hl => body p e s m _ below meth c ls _ CX hnm (fun H locs pc ls' P hd => r_rr CX P hr hk hd) P hl)
theorem ent_v (hy : plainName yn.cls = true) (hnl : (lg_sl av).length ≤ nL)
    (body : ∀ p e s m args below meth c ls (Q : State → Prop), Cxt p m c cc nL s args yn.cls G B → meth.name = yn.name → (∀ H locs pc ls', Pic G B h' s H locs → decode cc pc = .ok (.return_, 1) → W p l e (rmM fr lo mc ms) s m args below meth c H locs mc ms Q (F0 m pc ls' [])) →
      Pic G B h s s.heap [] → lv_has ls nL (lv_args 0 av) → W p l e (rmM fr lo mc ms) s m args below meth c s.heap [] 0 0 Q (F0 m 0 ls [])) : CV l yn cc nL fr lo mc ms G B h av h' :=
  ent hy hnl (fun p e s m below meth c ls CX hr hk hnm P hl => body p e s m _ below meth c ls _ CX hnm (fun H locs pc ls' P hd => r_rv CX P hr hk hd) P hl)
theorem sw_l {x : Int32} (lo hi : Int) (n : Nat) (l : List Int32) (hl : (List.range n).map (fun j : Nat => Int32.ofInt (lo + j)) = l) (hh : lo + n = hi + 1) (h : ∀ k ∈ l, ¬ x = k) : x.toInt < lo ∨ hi < x.toInt := by
  by_cases h1 : x.toInt < lo
  · exact Or.inl h1
  · by_cases h2 : hi < x.toInt
    · exact Or.inr h2
    · exfalso
      refine h x ?_ rfl
      rw [← hl]
      refine List.mem_map.mpr ⟨(x.toInt - lo).toNat, List.mem_range.mpr (by omega), ?_⟩
      have e : lo + ((x.toInt - lo).toNat : Int) = x.toInt := by omega
      rw [e]
      simp
end GLH
