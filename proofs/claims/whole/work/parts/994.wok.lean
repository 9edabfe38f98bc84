/-! what every World keeps to; a copy keeps to it too -/
variable {kt : Nat}
def WOK (kt : Nat) (V : WV) (n : Nat) (o : Nat → Nat) (s : Nat) : Prop :=
  (TI V n o) ∧
  (MaxOK V) ∧
  (DedOK V) ∧
  (TrgN V s) ∧
  (∀ p, p < 16 → phV V p = true → StB V p) ∧
  (TdB V) ∧
  (1 ≤ (V.1 0 4).toInt ∧ (V.1 0 4).toInt ≤ 8) ∧
  (0 ≤ (V.1 0 6).toInt ∧ (V.1 0 6).toInt ≤ 99) ∧
  (0 ≤ (V.1 0 7).toInt ∧ (V.1 0 7).toInt ≤ kt)
theorem WOK.ti {V : WV} {n : Nat} {o : Nat → Nat} {s : Nat} (h : WOK kt V n o s) : TI V n o := h.1
theorem WOK.mx {V : WV} {n : Nat} {o : Nat → Nat} {s : Nat} (h : WOK kt V n o s) : MaxOK V := h.2.1
theorem WOK.dd {V : WV} {n : Nat} {o : Nat → Nat} {s : Nat} (h : WOK kt V n o s) : DedOK V := h.2.2.1
theorem WOK.tg {V : WV} {n : Nat} {o : Nat → Nat} {s : Nat} (h : WOK kt V n o s) : TrgN V s := h.2.2.2.1
theorem WOK.st {V : WV} {n : Nat} {o : Nat → Nat} {s : Nat} (h : WOK kt V n o s) : ∀ p, p < 16 → phV V p = true → StB V p := h.2.2.2.2.1
theorem WOK.td {V : WV} {n : Nat} {o : Nat → Nat} {s : Nat} (h : WOK kt V n o s) : TdB V := h.2.2.2.2.2.1
theorem WOK.bt {V : WV} {n : Nat} {o : Nat → Nat} {s : Nat} (h : WOK kt V n o s) : 1 ≤ (V.1 0 4).toInt ∧ (V.1 0 4).toInt ≤ 8 := h.2.2.2.2.2.2.1
theorem WOK.cap {V : WV} {n : Nat} {o : Nat → Nat} {s : Nat} (h : WOK kt V n o s) : 0 ≤ (V.1 0 6).toInt ∧ (V.1 0 6).toInt ≤ 99 := h.2.2.2.2.2.2.2.1
theorem WOK.tik {V : WV} {n : Nat} {o : Nat → Nat} {s : Nat} (h : WOK kt V n o s) : 0 ≤ (V.1 0 7).toInt ∧ (V.1 0 7).toInt ≤ kt := h.2.2.2.2.2.2.2.2
theorem WOK.mono {V : WV} {n : Nat} {o : Nat → Nat} {s k' : Nat} (h : WOK kt V n o s) (hk : kt ≤ k') : WOK k' V n o s := ⟨h.ti, h.mx, h.dd, h.tg, h.st, h.td, h.bt, h.cap, h.tik.1, Int.le_trans h.tik.2 (by omega)⟩
section WAG
variable {A B : WV} {n : Nat} {o : Nat → Nat} {s : Nat} {M : Nat → Int32}
theorem AgW.th (h : AgW B A) {g : Nat} (hg : g < 12) : thV A g = thV B g := by
  unfold thV; rw [h.t 2 (by omega) g hg]
theorem AgW.pf (h : AgW B A) {g : Nat} (hg : g < 12) : pfV A g = pfV B g := by
  unfold pfV; rw [h.t 2 (by omega) g hg]
theorem AgW.ph (h : AgW B A) {p : Nat} (hp : p < 16) : phV A p = phV B p := by
  unfold phV; rw [h.c 24 (by omega) p hp]
theorem AgW.ord (h : AgW B A) (hO : OrdOK B n o) : OrdOK A n o := by
  obtain ⟨o1, o2, o3, o4, o5, o6, o7, o8, o9⟩ := hO
  refine ⟨o1, o2, by rw [h.s1]; exact o3, o4, fun i hi => ⟨(o5 i hi).1, by rw [h.t 3 (by omega) i (by omega)]; exact (o5 i hi).2⟩, o6, by rw [h.t 2 (by omega) 0 (by omega)]; exact o7, fun i h1 hi => ?_, fun g hg h2 => ?_⟩
  · obtain ⟨j, j1, j2⟩ := o8 i h1 hi
    exact ⟨j, j1, by rw [h.t 2 (by omega) _ (o5 i hi).1]; exact j2⟩
  · rw [h.t 2 (by omega) g hg] at h2
    exact o9 g hg h2
theorem AgW.hmE (h : AgW B A) (hH : HomOK B) : HomOK A := fun p hp ht => by
  rw [h.ph hp] at ht
  obtain ⟨g, g1, g2, g3⟩ := hH p hp ht
  exact ⟨g, g1, by rw [h.th g1]; exact g2, by rw [h.c 24 (by omega) p hp]; exact g3⟩
theorem AgW.ptE (h : AgW B A) (hO : OrdOK B n o) : ∀ g, g < 12 → thV B g = true → pth (pfV A) g = pth (pfV B) g :=
  hO.ind (fun g => pth (pfV A) g = pth (pfV B) g) (by rw [pth_0 (h.ord hO).tree, pth_0 hO.tree]) (fun g u hg ht h0 hu htu e hpf ih => by
    rw [pth_cons (h.ord hO).tree hg (by rw [h.th hg]; exact ht), pth_cons hO.tree hg ht, h.pf hg, hpf]
    dsimp only
    rw [ih])
theorem AgW.blE (h : AgW B A) (hO : OrdOK B n o) {r g : Nat} (hg : g < 12) (ht : thV B g = true) : blw (pfV A) r g = blw (pfV B) r g := by
  unfold blw; rw [h.ptE hO g hg ht]
theorem AgW.prc (h : AgW B A) (hO : OrdOK B n o) (hH : HomOK B) (r : Nat) {p : Nat} (hp : p < 16) (u u' : Nat → Int32) (hu : u' p = u p) : (if decide (A.1 24 p ≠ -1) && blw (pfV A) r (A.1 24 p).toNatClampNeg then u' p else 0) = (if decide (B.1 24 p ≠ -1) && blw (pfV B) r (B.1 24 p).toNatClampNeg then u p else 0) := by
  rw [h.c 24 (by omega) p hp, hu]
  cases ht : phV B p
  · have : decide (B.1 24 p ≠ -1) = false := ht
    rw [this, Bool.false_and, Bool.false_and]
  · obtain ⟨h1, h2, h3⟩ := hH.at hp ht
    have : blw (pfV A) r (B.1 24 p).toNatClampNeg = blw (pfV B) r (B.1 24 p).toNatClampNeg := h.blE hO h1 h2
    rw [this]
theorem AgW.tot (h : AgW B A) (hO : OrdOK B n o) (hH : HomOK B) (hT : TotOK B) : TotOK A := fun r hr ht => by
  rw [h.th hr] at ht
  rw [h.t 15 (by omega) r hr, hT r hr ht]
  unfold totF
  have e1 : smI (List.range 12) (fun g => if thV A g && blw (pfV A) r g then A.1 14 g else 0) = smI (List.range 12) (fun g => if thV B g && blw (pfV B) r g then B.1 14 g else 0) := smI_cong fun x hx => by
    have hx := List.mem_range.mp hx
    rw [h.th hx, h.t 14 (by omega) x hx]
    cases htx : thV B x
    · rw [Bool.false_and, Bool.false_and]
    · rw [h.blE hO hx htx]
  have e2 : smI (List.range 16) (fun p => if decide (A.1 24 p ≠ -1) && blw (pfV A) r (A.1 24 p).toNatClampNeg then A.1 27 p + A.1 28 p else 0) = smI (List.range 16) (fun p => if decide (B.1 24 p ≠ -1) && blw (pfV B) r (B.1 24 p).toNatClampNeg then B.1 27 p + B.1 28 p else 0) := smI_cong fun p hp => by
    have hp := List.mem_range.mp hp
    exact h.prc hO hH r hp (fun p => B.1 27 p + B.1 28 p) (fun p => A.1 27 p + A.1 28 p) (by rw [h.c 27 (by omega) p hp, h.c 28 (by omega) p hp])
  rw [e1, e2]
theorem AgW.out (h : AgW B A) (hO : OrdOK B n o) (hH : HomOK B) (hT : OutOK B) : OutOK A := fun r hr ht => by
  rw [h.th hr] at ht
  rw [h.t 16 (by omega) r hr, hT r hr ht]
  unfold outF
  exact smI_cong fun p hp => by
    have hp := List.mem_range.mp hp
    exact (h.prc hO hH r hp (B.1 29) (A.1 29) (h.c 29 (by omega) p hp)).symm
theorem AgW.num (h : AgW B A) (hN : Num B) : Num A := by
  obtain ⟨n1, n2, n3⟩ := hN
  refine ⟨fun g hg ht => ?_, fun p hp ht => ?_, ?_⟩
  · rw [h.t 14 (by omega) g hg]; exact n1 g hg (by rw [← h.th hg]; exact ht)
  · rw [h.c 27 (by omega) p hp, h.c 28 (by omega) p hp, h.c 29 (by omega) p hp]; exact n2 p hp (by rw [← h.ph hp]; exact ht)
  · have e1 : stkI A = stkI B := isum_cg 12 fun g hg => by rw [h.th hg, h.t 14 (by omega) g hg]
    have e2 : pgsI A = pgsI B := isum_cg 16 fun p hp => by rw [h.ph hp, h.c 27 (by omega) p hp, h.c 28 (by omega) p hp]
    rw [e1, e2]; exact n3
theorem AgW.lim (h : AgW B A) (hL : LimR B) : LimR A := fun g hg ht => by
  rw [h.t 5 (by omega) g hg, h.t 6 (by omega) g hg, h.t 7 (by omega) g hg, h.t 8 (by omega) g hg, h.t 10 (by omega) g hg, h.t 11 (by omega) g hg, h.t 12 (by omega) g hg]
  exact hL g hg (by rw [← h.th hg]; exact ht)
theorem AgW.sw (h : AgW B A) (hS : SwN B) : SwN A := by
  have e : swpI A = swpI B := isum_cg 16 fun p hp => by rw [h.ph hp, h.c 29 (by omega) p hp]
  unfold SwN at hS ⊢
  rw [e, h.f 5 (by omega) (by omega)]; exact hS
theorem AgW.ti (h : AgW B A) (hT : TI B n o) : TI A n o :=
  ⟨⟨h.ord hT.1.1, h.hmE hT.1.2.1, h.tot hT.1.1 hT.1.2.1 hT.1.2.2.1, h.out hT.1.1 hT.1.2.1 hT.1.2.2.2⟩, h.num hT.2.1, h.lim hT.2.2.1, h.sw hT.2.2.2⟩
theorem AgW.wok (h : AgW B A) (hW : WOK kt B n o s) : WOK kt A n o s := by
  refine ⟨?_, ?_, ?_, ?_, ?_, ?_, ?_, ?_, ?_⟩
  · exact h.ti hW.ti
  · exact fun g hg ht => by
      rw [h.t 15 (by omega) g hg, h.t 8 (by omega) g hg]; exact hW.mx g hg (by rw [← h.th hg]; exact ht)
  · exact fun p hp ht => by
      rw [h.c 27 (by omega) p hp, h.c 28 (by omega) p hp, h.c 31 (by omega) p hp]; exact hW.dd p hp (by rw [← h.ph hp]; exact ht)
  · exact by
      obtain ⟨t1, t2, t3⟩ := hW.tg
      refine ⟨t1, by rw [h.s2]; exact t2, fun i hi => ?_⟩
      obtain ⟨⟨a1, a2, a3⟩, b1, b2, b3⟩ := t3 i hi
      have e53 : A.1 53 i = B.1 53 i := h.r 0 (by omega) i (by omega)
      have e54 : A.1 54 i = B.1 54 i := h.r 1 (by omega) i (by omega)
      have et : trg A i = trg B i := by unfold trg; rw [e53]
      have ew : tww A i = tww B i := by unfold tww; rw [e54]
      rw [et, ew, e53, e54, h.th a1]
      exact ⟨⟨a1, a2, a3⟩, b1, b2, b3⟩
  · exact fun p hp ht => by
      unfold StB
      rw [h.c 30 (by omega) p hp]; exact hW.st p hp (by rw [← h.ph hp]; exact ht)
  · exact fun p hp ht => by
      rw [h.c 31 (by omega) p hp]; exact hW.td p hp (by rw [← h.ph hp]; exact ht)
  · exact by rw [h.f 4 (by omega) (by omega)]; exact hW.bt
  · exact by rw [h.f 6 (by omega) (by omega)]; exact hW.cap
  · exact by rw [h.f 7 (by omega) (by omega)]; exact hW.tik
theorem AgW.rel (h : AgW B A) (hR : Rel B M) : Rel A M := by
  obtain ⟨⟨a0, a1, a2, a3, a4, a5, a6⟩, h2, h3, h4, h5⟩ := hR
  refine ⟨⟨?_, ?_, ?_, ?_, ?_, ?_, ?_⟩, ?_, ?_, ?_, ?_⟩
  · rw [a0]; exact mkB_cong (by decide) fun i hi => (h.th hi).symm
  · rw [a1]; exact mkB_cong (by decide) fun i hi => (h.ph hi).symm
  · rw [a2, h.f 7 (by omega) (by omega)]
  · rw [a3, h.f 4 (by omega) (by omega)]
  · rw [a4, h.s2]
  · rw [a5, h.f 5 (by omega) (by omega)]
  · rw [a6, h.f 6 (by omega) (by omega)]
  · intro g f hg ht hf hc
    rw [h.th hg] at ht
    rw [h2 g f hg ht hf hc]
    rcases cg_dom f hf hc with q | q
    · exact (h.t _ q g hg).symm
    · exact (h.g _ q g hg).symm
  · intro g k hg ht hk
    rw [h.th hg] at ht
    rw [h.h k hk g hg]
    exact h3 g k hg ht hk
  · intro p f hp ht hf
    rw [h.ph hp] at ht
    rw [h4 p f hp ht hf]
    exact (h.c _ (cp_dom f hf) p hp).symm
  · intro i k hi hk
    rw [h5 i k hi hk, h.r k hk i hi]
/-- the model's row counts at 559 places only -/
theorem Rel.rowc {V : WV} {M' : Nat → Int32} (hR : Rel V M) (h : ∀ i, i < 559 → M' i = M i) : Rel V M' := by
  obtain ⟨⟨a0, a1, a2, a3, a4, a5, a6⟩, h2, h3, h4, h5⟩ := hR
  refine ⟨⟨?_, ?_, ?_, ?_, ?_, ?_, ?_⟩, ?_, ?_, ?_, ?_⟩
  · rw [h 0 (by omega)]; exact a0
  · rw [h 1 (by omega)]; exact a1
  · rw [h 2 (by omega)]; exact a2
  · rw [h 3 (by omega)]; exact a3
  · rw [h 4 (by omega)]; exact a4
  · rw [h 5 (by omega)]; exact a5
  · rw [h 6 (by omega)]; exact a6
  · intro g f hg ht hf hc
    rw [h _ (by omega)]; exact h2 g f hg ht hf hc
  · intro g k hg ht hk
    rw [h _ (by omega), h _ (by omega)]; exact h3 g k hg ht hk
  · intro p f hp ht hf
    rw [h _ (by omega)]; exact h4 p f hp ht hf
  · intro i k hi hk
    rw [h _ (by omega)]; exact h5 i k hi hk
end WAG
