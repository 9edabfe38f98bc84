/-! calls that act: how they begin and end; batch, cap, swap, forget, trigger -/
variable {kt : Nat}
def CsU (U : WV) : Prop := (∀ i, i < 9 → U.1 5 i = (stt 1).getD i 0 ∧ U.1 6 i = (stt 2).getD i 0) ∧ CoM U
theorem act {FC FM : Hp → Option (Int32 × Hp)} (h : ∀ {kt : Nat} {_ : kt < 2 ^ 30} im N G z e n o s, GI kt im N G z e → WOK kt (get 1 G) n o s →
    (∃ r, FC (PG im N G) = some (r, PG im N G) ∧ ∀ (P : WV → Hp) (U : WV), LM 756 P → CsU U → Rel (get 1 G) (U.1 1) → ∃ U', FM (P U) = some (r, P U') ∧ MSame U U') ∨
    (∃ told V' G3, FC (PG im N G) = some (told, PG im N G3) ∧ (if 0 ≤ told then CAct G G3 V' z e ∧ WO (kt + 40) V' else CNo G G3 z e) ∧ ∀ (P : WV → Hp) (U : WV), LM 756 P → CsU U → Rel (get 1 G) (U.1 1) → U.1 0 8 = nI z → ∃ U3, FM (P U) = some (told, P U3) ∧ (if 0 ≤ told then MAct U U3 V' z else MSame U U3))) : TH FC FM := by
  intro kt im N G z e hkt hG
  have hN := hG.n
  obtain ⟨⟨n, o, s, hW⟩, hR⟩ := hG.lv
  have hc : CsU (get 756 G) := hG.2.2.2.2.2.2.2.2.2.2.2
  rcases @h kt hkt im N G z e n o s hG hW with ⟨r, a1, a2⟩ | ⟨told, V', G3, a1, a2, a3⟩
  · obtain ⟨U', b1, b2⟩ := a2 (fun U => PG im N (put 756 19 U G)) (get 756 G) (lm_at hN G) hc hR
    rw [put_get] at b1
    exact ⟨r, im, N, G, _, z, e, a1, b1, (hG.irr (irr_model b2)).mono (by omega)⟩
  · have hz : (get 756 G).1 0 8 = nI z := hG.2.2.2.2.2.1
    obtain ⟨U3, b1, b2⟩ := a3 (fun U => PG im N (put 756 19 U G3)) (get 756 G) (lm_at hN G3) hc hR hz
    have hcell : ∀ c, 756 ≤ c → G3.1 c = G.1 c ∧ G3.2 c = G.2 c := by
      by_cases ht : 0 ≤ told
      · rw [if_pos ht] at a2; exact a2.1.1
      · rw [if_neg ht] at a2; exact a2.1
    have eU : get 756 G3 = get 756 G := by
      unfold get
      refine Prod.ext (funext fun c => ?_) (funext fun c => ?_)
      · exact (hcell (756 + c) (by omega)).1
      · exact (hcell (756 + c) (by omega)).2
    rw [← eU, put_get] at b1
    by_cases ht : 0 ≤ told
    · rw [if_pos ht] at a2 b2
      obtain ⟨z', e', hz'⟩ := fin_ok hG a2.1 b2 a2.2
      exact ⟨told, im, N, G3, _, z', e', a1, b1, hz'⟩
    · rw [if_neg ht] at a2 b2
      exact ⟨told, im, N, G3, _, z, e, a1, b1, (fin_no hG a2 b2).mono (by omega)⟩
section ACT
variable {im : Nat → Option Nat} {N z e : Nat} {G : WV}
theorem c_try (hG : GI kt im N G z e) : ∃ G1 V1 Q1, AgW (get 1 G) V1 ∧ F_X4_keep (PG im N G) 115 1 = some (P2 im N 1 G1 V1 Q1) ∧ ∀ (V' Q' : WV) (told : Int32), ∃ G3, F_X9_settle (P2 im N 1 G1 V' Q') 0 told = some (told, PG im N G3) ∧ (if 0 ≤ told then CAct G G3 V' z e else CNo G G3 z e) := by
  obtain ⟨A, a1, a2⟩ := c_keep hG
  have hs := slt_lt e z
  refine ⟨put (slt e z) 57 A G, get 1 (put (slt e z) 57 A G), get 745 (put (slt e z) 57 A G), ag_out (by omega), ?_, fun V' Q' told => ?_⟩
  · rw [a1, p2_get im N 1]
  · exact c_settle hG a2 told
/-- the model's beginning of a call -/
def bgn (W : WV) : WV := cpyM W 1 0 3 0
theorem bgn_1 (W : WV) : (bgn W).1 1 = W.1 1 := by unfold bgn; rw [cpy_c (by decide)]
theorem bgn_8 (W : WV) : (bgn W).1 0 8 = W.1 0 8 := by unfold bgn; rw [cpy_c (by decide)]
theorem m_bgn {P : WV → Hp} (hP : LM 756 P) (W : WV) : F_X10_begins (P W) 756 = some (P (bgn W)) := m_begins hP _
theorem bgn_3 (W : WV) {i : Nat} (hi : i < 559) : (bgn W).1 3 i = W.1 1 i := by
  have := cpy_in (U := W) (c := 1) (x := 0) (d := 3) (y := 0) hi
  rw [Nat.zero_add] at this
  exact this
theorem mact2 {U W U2 U3 V' : WV} {D : Nat} (hs : MSame U W) (hk : Keep (bgn W) U2) (hR : Rel V' (U2.1 1)) (hN : Noted U2 U3 D) : MAct U U3 V' D := by
  obtain ⟨n1, n2, n3⟩ := hN
  have e3 : ∀ i, i < 559 → U2.1 3 i = U.1 1 i := fun i hi => by
    rw [hk.1 3 (by decide) (by decide), bgn_3 W hi, hs.1 1 (by omega)]
  have ec : ∀ c, c = 2 ∨ (5 ≤ c ∧ c ≤ 8) → U2.1 c = U.1 c := fun c hc => by
    rw [hk.1 c (by omega) (by omega)]
    unfold bgn
    rw [cpy_c (by omega)]
    exact hs.1 c (by omega)
  refine ⟨fun c h5 h8 => ?_, fun i hi => ?_, ?_, ?_⟩
  · rw [n1 c (by omega) (by omega)]; exact ec c (by omega)
  · rw [n1 1 (by decide) (by decide), hk.2 i hi, bgn_1, hs.1 1 (by omega)]
  · rw [n1 1 (by decide) (by decide)]; exact hR
  · have d2 : U2.1 2 = U.1 2 := ec 2 (by omega)
    unfold Dds
    by_cases h : D < 10
    · rw [if_pos h] at n3 ⊢
      rw [← d2]
      exact ⟨n3.1, n3.2.1, fun i hi => (n3.2.2 i hi).trans (e3 i hi)⟩
    · rw [if_neg h] at n3 ⊢
      rw [← d2]
      exact ⟨n3.1, n3.2.1, fun i hi => (n3.2.2 i hi).trans (e3 i hi)⟩
/-- a told call's end in the model -/
theorem m_told {P : WV → Hp} {U W U2 V' : WV} {z : Nat} (hP : LM 756 P) (hs : MSame U W) (hz : z ≤ 10) (h8 : U.1 0 8 = nI z) (hk : Keep (bgn W) U2) (hR : Rel V' (U2.1 1)) (told : Int32) : ∃ U3, F_X10_ends (P U2) 756 told 1 = some (told, P U3) ∧ MAct U U3 V' z := by
  obtain ⟨U3, a1, a2⟩ := m_ends hP U2 told hz (by rw [hk.1 0 (by decide) (by decide), bgn_8, hs.2]; exact h8)
  exact ⟨U3, a1, mact2 hs hk hR a2⟩
/-- a refused call's end -/
theorem m_not {P : WV → Hp} {U W U2 : WV} (hP : LM 756 P) (hs : MSame U W) (hk : Keep (bgn W) U2) (told : Int32) : ∃ U3, F_X10_ends (P U2) 756 told 0 = some (told, P U3) ∧ MSame U U3 := by
  refine ⟨_, m_endsNo hP U2 told, ?_, ?_⟩
  · intro c hc
    by_cases h1 : c = 1
    · subst h1
      funext i
      by_cases hi : i < 559
      · have := cpy_in (U := U2) (c := 3) (x := 0) (d := 1) (y := 0) hi
        rw [Nat.zero_add] at this
        rw [this, hk.1 3 (by decide) (by decide), bgn_3 W hi, hs.1 1 (by omega)]
      · rw [cpy_out (by omega), hk.2 i (by omega), bgn_1, hs.1 1 (by omega)]
    · rw [cpy_c h1, hk.1 c (by omega) h1]
      unfold bgn
      rw [cpy_c (by omega)]
      exact hs.1 c hc
  · rw [cpy_c (by decide), hk.1 0 (by decide) (by decide), bgn_8, hs.2]
end ACT
section SIMPLE
variable {V : WV} {n s : Nat} {o : Nat → Nat} {M : Nat → Int32}
/-- one of the World's own numbers is another one -/
def fldV (V : WV) (k : Nat) (x : Int32) : WV := sx V 0 (upd (V.1 0) k x)
theorem fld_c {k : Nat} {x : Int32} {c : Nat} (h : c ≠ 0) : (fldV V k x).1 c = V.1 c := up_n _ _ h
theorem fld_s {k : Nat} {x : Int32} : (fldV V k x).1 0 k = x := by
  show upd (V.1 0) k x k = x
  exact upd_s _ _ _
theorem fld_n {k j : Nat} {x : Int32} (h : j ≠ k) : (fldV V k x).1 0 j = V.1 0 j := by
  show upd (V.1 0) k x j = _
  exact upd_ne _ _ h
theorem wok_fld (hW : WOK kt V n o s) (k : Nat) (x : Int32) (hb : 1 ≤ ((fldV V k x).1 0 4).toInt ∧ ((fldV V k x).1 0 4).toInt ≤ 8) (hs : swpI V ≤ ((fldV V k x).1 0 5).toInt ∧ ((fldV V k x).1 0 5).toInt ≤ 999) (hc : 0 ≤ ((fldV V k x).1 0 6).toInt ∧ ((fldV V k x).1 0 6).toInt ≤ 99) (h7 : 7 ≠ k) : WOK kt (fldV V k x) n o s :=
  ⟨⟨⟨hW.ti.1.1.same rfl rfl rfl, hW.ti.1.2.1.same rfl rfl, hW.ti.1.2.2.1.same rfl rfl rfl rfl rfl rfl, hW.ti.1.2.2.2.same rfl rfl rfl rfl⟩, hW.ti.2.1.same rfl rfl rfl rfl rfl rfl, hW.ti.2.2.1, hs⟩, hW.mx, hW.dd, hW.tg, hW.st, hW.td, hb, hc, by rw [fld_n h7]; exact hW.tik⟩
/-- where the model has them -/
theorem Rel.fld (h : Rel V M) {k j : Nat} (hkj : (k = 4 ∧ j = 3) ∨ (k = 5 ∧ j = 5) ∨ (k = 6 ∧ j = 6)) (x : Int32) : Rel (fldV V k x) (upd M j x) := by
  obtain ⟨⟨a0, a1, a2, a3, a4, a5, a6⟩, h2, h3, h4, h5⟩ := h
  have e : ∀ c, c ≠ 0 → (fldV V k x).1 c = V.1 c := fun c hc => fld_c hc
  have e0 : (fldV V k x).1 0 = upd (V.1 0) k x := rfl
  refine ⟨⟨?_, ?_, ?_, ?_, ?_, ?_, ?_⟩, ?_, ?_, ?_, ?_⟩
  · rw [upd_ne _ _ (by omega)]; exact a0
  · rw [upd_ne _ _ (by omega)]; exact a1
  · rw [upd_ne _ _ (by omega), e0, upd_ne _ _ (by omega)]; exact a2
  · rw [e0]
    by_cases q : k = 4
    · have : j = 3 := by omega
      rw [q, this, upd_s, upd_s]
    · rw [upd_ne _ _ (by omega), upd_ne _ _ (by omega)]; exact a3
  · rw [upd_ne _ _ (by omega), e 52 (by decide)]; exact a4
  · rw [e0]
    by_cases q : k = 5
    · have : j = 5 := by omega
      rw [q, this, upd_s, upd_s]
    · rw [upd_ne _ _ (by omega), upd_ne _ _ (by omega)]; exact a5
  · rw [e0]
    by_cases q : k = 6
    · have : j = 6 := by omega
      rw [q, this, upd_s, upd_s]
    · rw [upd_ne _ _ (by omega), upd_ne _ _ (by omega)]; exact a6
  · intro g f hg ht hf hc
    rw [e _ (cg_f1 f hf).2.2.2.2.1, upd_ne _ _ (by omega)]
    exact h2 g f hg ht hf hc
  · intro g k' hg ht hk
    rw [upd_ne _ _ (by omega), upd_ne _ _ (by omega)]
    exact h3 g k' hg ht hk
  · intro p f hp ht hf
    rw [e _ (cp_f1 f hf).2.2.2.2.1, upd_ne _ _ (by omega)]
    exact h4 p f hp ht hf
  · intro i k' hi hk
    rw [e _ (by omega), upd_ne _ _ (by omega)]
    exact h5 i k' hi hk
theorem T_batch (b : Int32) : TH (fun h => F_X9_batch h 0 b) (fun h => F_X10_batch h 756 b) := act fun im N G z e n o s hG hW => by
  have hN := hG.n
  have c1 : (1 : Int64).toInt = 1 := rfl
  have c8 : (8 : Int64).toInt = 8 := rfl
  have d1 : (1 : Int32).toInt = 1 := rfl
  have d8 : (8 : Int32).toInt = 8 := rfl
  by_cases hv : 1 ≤ b.toInt ∧ b.toInt ≤ 8
  · right
    obtain ⟨G1, V1, Q1, t1, t2, t3⟩ := c_try hG
    have hL2 := l2_at (im := im) (w1 N) hN G1
    have hW1 := t1.wok hW
    have h4 : (fldV V1 4 b).1 0 4 = b := fld_s
    have h5 : (fldV V1 4 b).1 0 5 = V1.1 0 5 := fld_n (by decide)
    have h6 : (fldV V1 4 b).1 0 6 = V1.1 0 6 := fld_n (by decide)
    have hW' : WOK _ (fldV V1 4 b) n o s := wok_fld hW1 4 b (by rw [h4]; exact hv) (by rw [h5]; exact hW1.ti.2.2.2) (by rw [h6]; exact hW1.cap) (by decide)
    obtain ⟨G3, s1, s2⟩ := t3 (fldV V1 4 b) Q1 (V1.1 0 4)
    have hp : 0 ≤ V1.1 0 4 := by rw [ti_le, ti_0]; have := hW1.bt; omega
    rw [if_pos hp] at s2
    refine ⟨V1.1 0 4, fldV V1 4 b, G3, ?_, by rw [if_pos hp]; exact ⟨s2, n, o, s, hW'.mono (by omega)⟩, fun P U hP _ hR h8 => ?_⟩
    · unfold F_X9_batch
      simp only [o_out, d1, d8, if_pos hv, if_true, Option.bind_some, gl hN, t2, g2 hN 1 G1, ol (hL2.1 Q1).lo]
      rw [show sx V1 0 (upd (V1.1 0) 4 b) = fldV V1 4 b from rfl, s1]; rfl
    · have hR1 : Rel V1 ((bgn (thr U)).1 1) := by rw [bgn_1]; exact t1.rel hR
      have e3 : (bgn (thr U)).1 1 3 = V1.1 0 4 := hR1.1.2.2.2.1
      obtain ⟨U3, m1, m2⟩ := m_told hP (thr_same U) hG.2.1 h8 (Keep.up (bgn (thr U)) (k := 3) (by decide) b) (hR1.fld (k := 4) (j := 3) (by decide) b) (V1.1 0 4)
      refine ⟨U3, ?_, by rw [if_pos hp]; exact m2⟩
      unfold F_X10_batch
      simp only [m_thr hP, m_within, c1, c8, if_pos hv, if_neg i10, Option.bind_some, ml hP, ml0 hP, m_bgn hP, e3, m1, un]
  · left
    refine ⟨-3, ?_, fun P U hP _ hR => ⟨thr U, ?_, thr_same U⟩⟩
    · unfold F_X9_batch
      simp only [o_out, d1, d8, if_neg hv, if_neg i10, Option.bind_some]
    · unfold F_X10_batch
      simp only [m_thr hP, m_within, c1, c8, if_neg hv, if_true, Option.bind_some]
theorem T_cap (b : Int32) : TH (fun h => F_X9_cap h 0 b) (fun h => F_X10_cap h 756 b) := act fun im N G z e n o s hG hW => by
  have hN := hG.n
  have c1 : (0 : Int64).toInt = 0 := rfl
  have c8 : (99 : Int64).toInt = 99 := rfl
  have d1 : (0 : Int32).toInt = 0 := rfl
  have d8 : (99 : Int32).toInt = 99 := rfl
  by_cases hv : 0 ≤ b.toInt ∧ b.toInt ≤ 99
  · right
    obtain ⟨G1, V1, Q1, t1, t2, t3⟩ := c_try hG
    have hL2 := l2_at (im := im) (w1 N) hN G1
    have hW1 := t1.wok hW
    have h4 : (fldV V1 6 b).1 0 4 = V1.1 0 4 := fld_n (by decide)
    have h5 : (fldV V1 6 b).1 0 5 = V1.1 0 5 := fld_n (by decide)
    have h6 : (fldV V1 6 b).1 0 6 = b := fld_s
    have hW' : WOK _ (fldV V1 6 b) n o s := wok_fld hW1 6 b (by rw [h4]; exact hW1.bt) (by rw [h5]; exact hW1.ti.2.2.2) (by rw [h6]; exact hv) (by decide)
    obtain ⟨G3, s1, s2⟩ := t3 (fldV V1 6 b) Q1 (V1.1 0 6)
    have hp : 0 ≤ V1.1 0 6 := by rw [ti_le, ti_0]; have := hW1.cap; omega
    rw [if_pos hp] at s2
    refine ⟨V1.1 0 6, fldV V1 6 b, G3, ?_, by rw [if_pos hp]; exact ⟨s2, n, o, s, hW'.mono (by omega)⟩, fun P U hP _ hR h8 => ?_⟩
    · unfold F_X9_cap
      simp only [o_out, d1, d8, if_pos hv, if_true, Option.bind_some, gl hN, t2, g2 hN 1 G1, ol (hL2.1 Q1).lo]
      rw [show sx V1 0 (upd (V1.1 0) 6 b) = fldV V1 6 b from rfl, s1]; rfl
    · have hR1 : Rel V1 ((bgn (thr U)).1 1) := by rw [bgn_1]; exact t1.rel hR
      have e3 : (bgn (thr U)).1 1 6 = V1.1 0 6 := hR1.1.2.2.2.2.2.2
      obtain ⟨U3, m1, m2⟩ := m_told hP (thr_same U) hG.2.1 h8 (Keep.up (bgn (thr U)) (k := 6) (by decide) b) (hR1.fld (k := 6) (j := 6) (by decide) b) (V1.1 0 6)
      refine ⟨U3, ?_, by rw [if_pos hp]; exact m2⟩
      unfold F_X10_cap
      simp only [m_thr hP, m_within, c1, c8, if_pos hv, if_neg i10, Option.bind_some, ml hP, ml0 hP, m_bgn hP, e3, m1, un]
  · left
    refine ⟨-3, ?_, fun P U hP _ hR => ⟨thr U, ?_, thr_same U⟩⟩
    · unfold F_X9_cap
      simp only [o_out, d1, d8, if_neg hv, if_neg i10, Option.bind_some]
    · unfold F_X10_cap
      simp only [m_thr hP, m_within, c1, c8, if_neg hv, if_true, Option.bind_some]
end SIMPLE
