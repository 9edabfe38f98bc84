/-! undo, restore -/
variable {kt : Nat}
section UNDO
variable {im : Nat → Option Nat} {N z e : Nat} {G G' : WV}
theorem gi_back (hG : GI kt im N G z e) {z' : Nat} (hz : z' ≤ z) (h0 : G'.1 115 0 = nI z') (h1 : G'.1 115 1 = nI e) (h8 : G'.1 756 8 = nI z') (hl : Gd kt (get 1 G') (G'.1 757)) (hs : ∀ c, ((117 ≤ c ∧ c < 744) ∨ 775 ≤ c) → G'.1 c = G.1 c ∧ G'.2 c = G.2 c) (h58 : G'.1 758 = G.1 758) (h61 : G'.1 761 = G.1 761) (h62 : G'.1 762 = G.1 762) (h63 : G'.1 763 = G.1 763) (h64 : G'.1 764 = G.1 764) (h57 : ∀ x, 559 ≤ x → G'.1 757 x = G.1 757 x) : GI kt im N G' z' e := by
  obtain ⟨j1, j2, j3, j4, j5, j6, j7, j8, j9, j10, j11, j12⟩ := hG
  have pi : ∀ w, 775 ≤ w → AgW (get w G) (get w G') := fun w hw => ag_of (fun c hc => (hs _ (by omega)).1) (fun c hc => (hs _ (by omega)).2)
  refine ⟨j1, by omega, j3, h0, h1, h8, hl, fun j hj => ?_, j9.ag pi h64 h57, j10.ag pi h64 h57, j11, ?_⟩
  · rw [h58]
    have hw := slt_lt e j
    have ha : AgW (get (slt e j) G) (get (slt e j) G') := ag_of (fun c hc => (hs _ (by omega)).1) (fun c hc => (hs _ (by omega)).2)
    exact (j8 j (by omega)).ag ha
  · unfold Cst at j12 ⊢
    rw [h61, h62, h63]; exact j12
theorem thr_8 (U : WV) : (thr U).1 0 8 = U.1 0 8 := by
  show upd (U.1 0) 0 0 8 = _
  rw [upd_ne _ _ (by decide)]
theorem nI_sub' {a b : Nat} (h : b ≤ a) : nI a - nI b = nI (a - b) := by
  have := nI_add (a - b) b
  rw [Nat.sub_add_cancel h] at this
  rw [← this]
  exact Int32.add_sub_cancel _ _
theorem co1 (hN : 775 ≤ N) (G : WV) {α : Type} (x : Option α) : cO (PG im N G) 1 8 x = x := by
  have := (lw_at (im := im) (N := N) (w := 1) (Or.inl rfl) hN G).co (V := get 1 G) (x := x) (o := 0) (t := 8) (by decide) (by decide) rfl
  rw [put_get] at this
  exact this
theorem coW (hN : 775 ≤ N) {w : Nat} (hw : isW N w) (G : WV) {α : Type} (x : Option α) : cO (PG im N G) w 8 x = x := by
  have := (lw_at (im := im) (N := N) hw hN G).co (V := get w G) (x := x) (o := 0) (t := 8) (by decide) (by decide) rfl
  rw [put_get] at this
  exact this
theorem c_goBack (hG : GI kt im N G z e) {k j : Nat} (hj : j ≤ z) (hk : k = z - j) : ∃ A, F_X4_goBack (PG im N G) 115 1 (nI j) = some (nI k, PG im N (put 1 57 A (sx G 115 (upd (G.1 115) 0 (nI k))))) ∧ AgW (get (slt e k) G) A := by
  have hN := hG.n
  obtain ⟨j1, j2, j3, j4, j5, -⟩ := id hG
  obtain ⟨G2, hG2⟩ : ∃ G2, G2 = sx G 115 (upd (G.1 115) 0 (nI k)) := ⟨_, rfl⟩
  have e1 : G2.1 115 1 = nI e := by rw [hG2, sx_1, up_s, upd_ne _ _ (by decide)]; exact j5
  have e0 : G2.1 115 0 = nI k := by rw [hG2, sx_1, up_s, upd_s]
  have hs := slt_lt e k
  obtain ⟨A, a1, a2⟩ := c_copyG (im := im) (G := G2) (Or.inl rfl) (slt_W (N := N) e k) (by omega) hN
  refine ⟨A, ?_, ?_⟩
  · have e3 : (put 1 57 A G2).1 115 = G2.1 115 := (put_out (by omega)).1
    unfold F_X4_goBack
    rw [← hG2]
    simp only [gl hN, Option.bind_some, j4, nI_sub' hj, ← hk, ← hG2, e0, c_slot hN j3 (show k ≤ 10 by omega) e1, co1 hN, a1, e3]
  · refine AgW.trans (ag_of (fun c hc => ?_) (fun c hc => ?_)) a2
    · rw [hG2]; exact up_n _ _ (by omega)
    · rw [hG2]; rfl
theorem m_undo {P : WV → Hp} {U : WV} (hP : LM 756 P) (hz : z ≤ 10) (h8 : U.1 0 8 = nI z) {j k : Nat} (hj : 1 ≤ j ∧ j ≤ z) (hk : k = z - j) : F_X10_undo (P U) 756 (nI j) = some (nI k, P (cpyM (sx (thr U) 0 (upd ((thr U).1 0) 8 (nI k))) 2 (559 * k) 1 0)) := by
  have c1 : (1 : Int64).toInt = 1 := rfl
  have c10 : (10 : Int64).toInt = 10 := rfl
  have u8 : (thr U).1 0 8 = nI z := by rw [thr_8]; exact h8
  obtain ⟨U1, hU1⟩ : ∃ U1, U1 = sx (thr U) 0 (upd ((thr U).1 0) 8 (nI k)) := ⟨_, rfl⟩
  have u18 : U1.1 0 8 = nI k := by rw [hU1, sx_1, up_s, upd_s]
  have hcp := m_copies hP (c := 2) (d := 1) (x := 559 * k) (y := 0) (lc := 5590) (ld := 1677) (by decide) (by decide) rfl rfl (by omega) (by decide) (by decide) (by decide) (Or.inl (by decide)) (X := 559 * nI k) (Y := 0) (by rw [show (559 : Int32) = nI 559 from rfl, nI_mul]) rfl U1
  have e8 : (cpyM U1 2 (559 * k) 1 0).1 0 8 = nI k := by rw [cpy_c (by decide)]; exact u18
  have hle : nI j ≤ nI z := by rw [Int32.le_iff_toInt_le, nI_toInt (by omega), nI_toInt (by omega)]; omega
  have hv : (1 : Int) ≤ (nI j).toInt ∧ (nI j).toInt ≤ 10 := by rw [nI_toInt (by omega)]; omega
  rw [← hU1]
  unfold F_X10_undo
  simp only [m_thr hP, ml hP, Option.bind_some, m_within, c1, c10, if_pos hv, if_neg i10, u8, if_pos hle, nI_sub' hj.2, ← hk, ← hU1, u18, hcp, e8]
theorem m_undoNo {P : WV → Hp} {U : WV} (hP : LM 756 P) (hz : z ≤ 10) (h8 : U.1 0 8 = nI z) {v : Int32} (hv : ¬ (1 ≤ v.toInt ∧ v.toInt ≤ z)) : F_X10_undo (P U) 756 v = some (-3, P (thr U)) := by
  have c1 : (1 : Int64).toInt = 1 := rfl
  have c10 : (10 : Int64).toInt = 10 := rfl
  have u8 : (thr U).1 0 8 = nI z := by rw [thr_8]; exact h8
  unfold F_X10_undo
  by_cases hw : 1 ≤ v.toInt ∧ v.toInt ≤ 10
  · have hle : ¬ v ≤ nI z := by rw [Int32.le_iff_toInt_le, nI_toInt (by omega)]; omega
    simp only [m_thr hP, ml hP, Option.bind_some, m_within, c1, c10, if_pos hw, if_neg i10, u8, if_neg hle]
  · simp only [m_thr hP, ml hP, Option.bind_some, m_within, c1, c10, if_neg hw, if_true]
theorem T_undo (v : Int32) : TH (fun h => F_X9_undo h 0 v) (fun h => F_X10_undo h 756 v) := by
  intro kt im N G z e _ hG
  have hN := hG.n
  have d1 : (1 : Int32).toInt = 1 := rfl
  obtain ⟨j1, j2, j3, j4, j5, j6, j7, j8, j9, j10, j11, j12⟩ := id hG
  have dz : (nI z).toInt = z := nI_toInt (by omega)
  by_cases hv : 1 ≤ v.toInt ∧ v.toInt ≤ z
  · obtain ⟨j, hj, rfl⟩ := v_in (K := 10) (v := v) (by decide) (by omega)
    obtain ⟨k, hk⟩ : ∃ k, k = z - j := ⟨_, rfl⟩
    have hj' : 1 ≤ j ∧ j ≤ z := by rw [nI_toInt (by omega)] at hv; omega
    obtain ⟨A, a1, a2⟩ := c_goBack hG (j := j) (k := k) (by omega) hk
    obtain ⟨G1, hG1⟩ : ∃ G1, G1 = put 1 57 A (sx G 115 (upd (G.1 115) 0 (nI k))) := ⟨_, rfl⟩
    rw [← hG1] at a1
    obtain ⟨U, hU⟩ : ∃ U, U = get 756 G1 := ⟨_, rfl⟩
    obtain ⟨U1, hU1⟩ : ∃ U1, U1 = sx (thr U) 0 (upd ((thr U).1 0) 8 (nI k)) := ⟨_, rfl⟩
    have oG : ∀ c, 117 ≤ c → G1.1 c = G.1 c ∧ G1.2 c = G.2 c := fun c hc => by
      rw [hG1, (put_out (by omega)).1, (put_out (by omega)).2]
      exact ⟨up_n _ _ (by omega), rfl⟩
    have u8 : U.1 0 8 = nI z := by
      rw [hU]
      show G1.1 756 8 = _
      rw [(oG 756 (by omega)).1]; exact j6
    have u18 : U1.1 0 8 = nI k := by rw [hU1, sx_1, up_s, upd_s]
    have uc : ∀ c, 1 ≤ c → U1.1 c = G.1 (756 + c) := fun c hc => by
      rw [hU1, sx_1, up_n _ _ (by omega)]
      unfold thr
      rw [sx_1, up_n _ _ (by omega), hU]
      exact (oG _ (by omega)).1
    have b1 := m_undo (lm_at (im := im) hN G1) j2 u8 hj' hk
    rw [← hU1, hU, put_get] at b1
    refine ⟨nI k, im, N, G1, put 756 19 (cpyM U1 2 (559 * k) 1 0) G1, k, e, ?_, b1, ?_⟩
    · unfold F_X9_undo
      simp only [gl hN, Option.bind_some, o_out, d1, j4, dz, if_pos hv, if_true, a1, un]
    · refine GI.mono (kt := kt) ?_ (by omega)
      have p : ∀ c, c < 19 → (put 756 19 (cpyM U1 2 (559 * k) 1 0) G1).1 (756 + c) = (cpyM U1 2 (559 * k) 1 0).1 c := fun c hc => (put_in hc).1
      have q : ∀ c, (c < 756 ∨ 775 ≤ c) → (put 756 19 (cpyM U1 2 (559 * k) 1 0) G1).1 c = G1.1 c ∧ (put 756 19 (cpyM U1 2 (559 * k) 1 0) G1).2 c = G1.2 c := fun c hc => put_out (by omega)
      have r : ∀ c, 2 ≤ c → c < 19 → (put 756 19 (cpyM U1 2 (559 * k) 1 0) G1).1 (756 + c) = G.1 (756 + c) := fun c h2 hc => by
        rw [p c hc, cpy_c (by omega)]; exact uc c (by omega)
      have p57 : (put 756 19 (cpyM U1 2 (559 * k) 1 0) G1).1 757 = (cpyM U1 2 (559 * k) 1 0).1 1 := p 1 (by omega)
      have o115 : (put 756 19 (cpyM U1 2 (559 * k) 1 0) G1).1 115 = upd (G.1 115) 0 (nI k) := by
        rw [(q 115 (by omega)).1, hG1, (put_out (by omega)).1, sx_1, up_s]
      refine gi_back hG (z' := k) (by omega) ?_ ?_ ?_ ?_ (fun c hc => ?_) (r 2 (by omega) (by omega)) (r 5 (by omega) (by omega)) (r 6 (by omega) (by omega)) (r 7 (by omega) (by omega)) (r 8 (by omega) (by omega)) (fun x hx => ?_)
      · rw [o115, upd_s]
      · rw [o115, upd_ne _ _ (by decide)]; exact j5
      · have := p 0 (by omega)
        show (put 756 19 (cpyM U1 2 (559 * k) 1 0) G1).1 (756 + 0) 8 = _
        rw [this, cpy_c (by decide)]; exact u18
      · rw [p57]
        have ha : AgW (get (slt e k) G) (get 1 (put 756 19 (cpyM U1 2 (559 * k) 1 0) G1)) := by
          refine a2.trans (AgW.trans (ag_in 1 A (sx G 115 (upd (G.1 115) 0 (nI k)))) ?_)
          rw [← hG1]
          exact ag_out (by omega)
        refine ((j8 k (by omega)).ag ha).row fun i hi => ?_
        have := cpy_in (U := U1) (c := 2) (x := 559 * k) (d := 1) (y := 0) hi
        rw [Nat.zero_add] at this
        rw [this, uc 2 (by omega)]
      · rw [(q c (by omega)).1, (q c (by omega)).2]
        exact oG c (by omega)
      · rw [p57, cpy_out (by omega), uc 1 (by omega)]
  · have b1 := m_undoNo (lm_at (im := im) hN G) (U := get 756 G) j2 j6 hv
    rw [put_get] at b1
    refine ⟨-3, im, N, G, put 756 19 (thr (get 756 G)) G, z, e, ?_, b1, (hG.irr (irr_model (thr_same _))).mono (by omega)⟩
    unfold F_X9_undo
    simp only [gl hN, Option.bind_some, o_out, d1, j4, dz, if_neg hv, if_neg i10]
end UNDO
