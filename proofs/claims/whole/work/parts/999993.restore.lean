/-! restore -/
variable {kt : Nat}
section RESTORE
variable {im : Nat → Option Nat} {N z e : Nat} {G G' : WV}
theorem im_Z (hN : 775 ≤ N) (G : WV) : mZ (PG im N G) 744 = im := by
  have := (pg_lens im N G 744 (Nat.zero_le _) (by omega)).2.2.2.2.1
  rw [Nat.zero_add] at this
  rw [this]
  funext i
  show (im i).map (fun x => 0 + x) = im i
  cases im i with
  | none => rfl
  | some x => show some (0 + x) = some x; rw [Nat.zero_add]
theorem im_T (hN : 775 ≤ N) (G : WV) : mT (PG im N G) 744 = (14, 2) := by
  have := (pg_lens im N G 744 (Nat.zero_le _) (by omega)).2.1
  rw [Nat.zero_add] at this
  rw [this]; rfl
theorem im_ok (hN : 775 ≤ N) (G : WV) : okT (PG im N G) 744 14 = true := by
  have := (pg_lens im N).ok (V := G) (o := 744) (t := 14) (Nat.zero_le _) (by omega) rfl
  rw [Nat.zero_add] at this; exact this
theorem q_im (hN : 775 ≤ N) (G : WV) {i : Nat} (hi : i < 2) : aQ (PG im N G) 744 14 (nI i) = some (im i) := by
  unfold aQ
  rw [im_ok hN, im_T hN, im_Z hN, inb_nI hi (by decide), nI_clamp (by omega)]; rfl
theorem r_im (hN : 775 ≤ N) (G : WV) {i : Nat} (hi : i < 2) : aR (PG im N G) 744 14 (nI i) = im i := by
  unfold aR
  rw [im_ok hN, im_T hN, im_Z hN, inb_nI hi (by decide), nI_clamp (by omega)]; rfl
theorem v_01 {v : Int32} (h : 0 ≤ v.toInt ∧ v.toInt ≤ 1) : ∃ i, i < 2 ∧ v = nI i := by
  obtain ⟨k, hk, e⟩ := v_in (K := 1) (by decide) h
  exact ⟨k, by omega, e⟩
theorem m_restore {P : WV → Hp} {U : WV} (hP : LM 756 P) {i : Nat} (hi : i < 2) : F_X10_restore (P U) 756 (nI i) = if U.1 8 i = 0 then some (-6, P (thr U)) else some (0, P (sx (cpyM (thr U) 1 (559 * (i + 1)) 1 0) 0 (upd ((thr U).1 0) 8 0))) := by
  have c0 : (0 : Int64).toInt = 0 := rfl
  have c1 : (1 : Int64).toInt = 1 := rfl
  have hv : (0 : Int) ≤ (nI i).toInt ∧ (nI i).toInt ≤ 1 := by rw [nI_toInt (by omega)]; omega
  have u8 : (thr U).1 8 i = U.1 8 i := rfl
  have hcp := m_copies hP (c := 1) (d := 1) (x := 559 * (i + 1)) (y := 0) (lc := 1677) (ld := 1677) (by decide) (by decide) rfl rfl (by omega) (by decide) (by decide) (by decide) (Or.inr (Or.inr (by omega))) (X := 559 * (nI i + 1)) (Y := 0) (by rw [nI_1, show (559 : Int32) = nI 559 from rfl, nI_mul]) rfl (thr U)
  have e0 : (cpyM (thr U) 1 (559 * (i + 1)) 1 0).1 0 = (thr U).1 0 := cpy_c (by decide)
  unfold F_X10_restore
  by_cases h : U.1 8 i = 0
  · rw [if_pos h]
    simp only [m_thr hP, ml hP, Option.bind_some, m_within, c0, c1, if_pos hv, if_neg i10, hi, u8, if_pos h]
  · rw [if_neg h]
    simp only [m_thr hP, ml hP, Option.bind_some, m_within, c0, c1, if_pos hv, if_neg i10, hi, u8, if_neg h, hcp, e0]
theorem m_restoreNo {P : WV → Hp} {U : WV} (hP : LM 756 P) {v : Int32} (hv : ¬ (0 ≤ v.toInt ∧ v.toInt ≤ 1)) : F_X10_restore (P U) 756 v = some (-2, P (thr U)) := by
  have c0 : (0 : Int64).toInt = 0 := rfl
  have c1 : (1 : Int64).toInt = 1 := rfl
  unfold F_X10_restore
  simp only [m_thr hP, ml hP, Option.bind_some, m_within, c0, c1, if_neg hv, if_true]
theorem GI.img (hG : GI kt im N G z e) {i : Nat} (hi : i < 2) : ImgOK kt im N G i := by
  have h0 := hG.2.2.2.2.2.2.2.2.1
  have h1 := hG.2.2.2.2.2.2.2.2.2.1
  have : i = 0 ∨ i = 1 := by omega
  rcases this with rfl | rfl
  · exact h0
  · exact h1
theorem T_restore (v : Int32) : TH (fun h => F_X9_restore h 0 v) (fun h => F_X10_restore h 756 v) := by
  intro kt im N G z e _ hG
  have hN := hG.n
  have d0 : (0 : Int32).toInt = 0 := rfl
  have d1 : (1 : Int32).toInt = 1 := rfl
  obtain ⟨j1, j2, j3, j4, j5, j6, j7, j8, j9, j10, j11, j12⟩ := id hG
  by_cases hv : 0 ≤ v.toInt ∧ v.toInt ≤ 1
  · obtain ⟨i, hi, rfl⟩ := v_01 hv
    have hI := hG.img hi
    unfold ImgOK at hI
    cases hm : im i with
    | none =>
      rw [hm] at hI
      dsimp only at hI
      have b1 := m_restore (lm_at (im := im) hN G) (U := get 756 G) hi
      rw [put_get, if_pos (show (get 756 G).1 8 i = 0 from hI)] at b1
      refine ⟨-6, im, N, G, put 756 19 (thr (get 756 G)) G, z, e, ?_, b1, (hG.irr (irr_model (thr_same _))).mono (by omega)⟩
      unfold F_X9_restore
      simp only [gl hN, Option.bind_some, o_out, d0, d1, if_pos hv, if_true, q_im hN _ hi, hm, oE]
    | some w =>
      rw [hm] at hI
      dsimp only at hI
      obtain ⟨i1, i2, i3, i4⟩ := hI
      obtain ⟨A, a1, a2⟩ := c_copyG (im := im) (G := G) (Or.inl rfl) i1 (by omega) hN
      obtain ⟨G1, hG1⟩ : ∃ G1, G1 = sx (put 1 57 A G) 115 (upd (G.1 115) 0 0) := ⟨_, rfl⟩
      have oG : ∀ c, 117 ≤ c → G1.1 c = G.1 c ∧ G1.2 c = G.2 c := fun c hc => by
        rw [hG1, sx_1, sx_2, up_n _ _ (by omega), (put_out (by omega)).1, (put_out (by omega)).2]
        exact ⟨rfl, rfl⟩
      have o5 : (put 1 57 A G).1 115 = G.1 115 := (put_out (by omega)).1
      have g8 : (get 756 G1).1 8 i = 1 := by
        show G1.1 764 i = 1
        rw [(oG 764 (by omega)).1]; exact i3
      have b1 := m_restore (lm_at (im := im) hN G1) (U := get 756 G1) hi
      rw [put_get, if_neg (by rw [g8]; decide)] at b1
      obtain ⟨U, hU⟩ : ∃ U, U = get 756 G1 := ⟨_, rfl⟩
      rw [← hU] at b1
      obtain ⟨U2, hU2⟩ : ∃ U2, U2 = sx (cpyM (thr U) 1 (559 * (i + 1)) 1 0) 0 (upd ((thr U).1 0) 8 0) := ⟨_, rfl⟩
      rw [← hU2] at b1
      have uc : ∀ c, 1 ≤ c → (thr U).1 c = G.1 (756 + c) := fun c hc => by
        unfold thr
        rw [sx_1, up_n _ _ (by omega), hU]
        exact (oG _ (by omega)).1
      refine ⟨0, im, N, G1, put 756 19 U2 G1, 0, e, ?_, b1, ?_⟩
      · unfold F_X9_restore
        simp only [gl hN, Option.bind_some, o_out, d0, d1, if_pos hv, if_true, q_im hN _ hi, r_im hN _ hi, hm, oE, co1 hN, a1, o5, ← hG1]
      · refine GI.mono (kt := kt) ?_ (by omega)
        have p : ∀ c, c < 19 → (put 756 19 U2 G1).1 (756 + c) = U2.1 c := fun c hc => (put_in hc).1
        have q : ∀ c, (c < 756 ∨ 775 ≤ c) → (put 756 19 U2 G1).1 c = G1.1 c ∧ (put 756 19 U2 G1).2 c = G1.2 c := fun c hc => put_out (by omega)
        have r : ∀ c, 2 ≤ c → c < 19 → (put 756 19 U2 G1).1 (756 + c) = G.1 (756 + c) := fun c h2 hc => by
          rw [p c hc, hU2, sx_1, up_n _ _ (by omega), cpy_c (by omega)]; exact uc c (by omega)
        have p57 : (put 756 19 U2 G1).1 757 = (cpyM (thr U) 1 (559 * (i + 1)) 1 0).1 1 := by
          have := p 1 (by omega)
          rw [hU2, sx_1, up_n _ _ (by omega)] at this
          rw [hU2]; exact this
        have o115 : (put 756 19 U2 G1).1 115 = upd (G.1 115) 0 0 := by
          rw [(q 115 (by omega)).1, hG1, sx_1, up_s]
        refine gi_back hG (z' := 0) (by omega) ?_ ?_ ?_ ?_ (fun c hc => ?_) (r 2 (by omega) (by omega)) (r 5 (by omega) (by omega)) (r 6 (by omega) (by omega)) (r 7 (by omega) (by omega)) (r 8 (by omega) (by omega)) (fun x hx => ?_)
        · rw [o115, upd_s]; rfl
        · rw [o115, upd_ne _ _ (by decide)]; exact j5
        · have := p 0 (by omega)
          show (put 756 19 U2 G1).1 (756 + 0) 8 = _
          rw [this, hU2, sx_1, up_s, upd_s]; rfl
        · rw [p57]
          have ha : AgW (get w G) (get 1 (put 756 19 U2 G1)) := by
            refine a2.trans (AgW.trans (ag_in 1 A G) (AgW.trans (B := get 1 G1) ?_ (ag_out (by omega))))
            rw [hG1]
            exact ag_of (fun c hc => up_n _ _ (by omega)) (fun c hc => rfl)
          refine (i4.ag ha).row fun x hx => ?_
          have := cpy_in (U := thr U) (c := 1) (x := 559 * (i + 1)) (d := 1) (y := 0) hx
          rw [Nat.zero_add] at this
          rw [this, uc 1 (by omega)]
        · rw [(q c (by omega)).1, (q c (by omega)).2]
          exact oG c (by omega)
        · rw [p57, cpy_out (by omega), uc 1 (by omega)]
  · have b1 := m_restoreNo (lm_at (im := im) hN G) (U := get 756 G) hv
    rw [put_get] at b1
    refine ⟨-2, im, N, G, put 756 19 (thr (get 756 G)) G, z, e, ?_, b1, (hG.irr (irr_model (thr_same _))).mono (by omega)⟩
    unfold F_X9_restore
    simp only [gl hN, Option.bind_some, o_out, d0, d1, if_neg hv, if_neg i10]
end RESTORE
