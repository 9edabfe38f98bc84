/-! image -/
variable {kt : Nat}
section IMAGE
variable {im : Nat → Option Nat} {N z e : Nat} {G G' : WV}
theorem isW.mono {N' w : Nat} (h : isW N w) (hn : N ≤ N') : isW N' w := by
  rcases h with h | h | h | ⟨j, h, h'⟩
  · exact Or.inl h
  · exact Or.inr (Or.inl h)
  · exact Or.inr (Or.inr (Or.inl h))
  · exact Or.inr (Or.inr (Or.inr ⟨j, h, by omega⟩))
/-- a World more at the heap's end -/
theorem pg_world {k : Nat} (hk : N = 775 + 57 * k) (V : WV) : hl (blk 0 0 N TG (ZG im) G ++ blk N 0 57 TW ZW V) = PG im (N + 57) (put N 57 V G) := by
  have hw : isW (N + 57) N := Or.inr (Or.inr (Or.inr ⟨k, hk, Nat.le_refl _⟩))
  unfold PG
  rw [← blk_app 0 0 N 57]
  have e1 : blk 0 0 N TG (ZG im) (put N 57 V G) = blk 0 0 N TG (ZG im) G := blk_eq (fun o _ h => put_out (by omega))
  have e2 : blk 0 (0 + N) 57 TG (ZG im) (put N 57 V G) = blk N 0 57 TW ZW V := by
    unfold blk
    apply List.map_congr_left
    intro x hx
    have hx := List.mem_range.mp hx
    rw [Nat.zero_add, Nat.zero_add, TG_w hw hx, (put_in hx).1, (put_in hx).2]
    have : (fun i => (ZG im (N + x) i).map (fun y => 0 + y)) = (fun i => (ZW x i).map (fun y => N + y)) := by
      funext i
      rw [ZG_w hw hx i]
      cases ZW x i with
      | none => rfl
      | some y => show some (0 + (N + y)) = some (N + y); rw [Nat.zero_add]
    rw [this]
  rw [e1, e2]
theorem pg_im (hN : 775 ≤ N) (im' : Nat → Option Nat) (G : WV) : msZ (PG im N G) 744 im' = PG im' N G := by
  have h744 : (blk 0 0 N TG (ZG im) G)[744]? = some (TG 744, G.1 744, G.2 744, fun i => (ZG im 744 i).map (fun x => 0 + x)) := by
    have := blk_at (b := 0) (lo := 0) (n := N) (T := TG) (Z := ZG im) (V := G) (A := []) (C := []) (o := 744) (by omega)
    simpa using this
  unfold PG
  rw [hl_sZ h744]
  congr 1
  apply List.ext_getElem?
  intro a
  rw [List.getElem?_set]
  by_cases ha : a < N
  · have f : ∀ im : Nat → Option Nat, (blk 0 0 N TG (ZG im) G)[a]? = some (TG a, G.1 a, G.2 a, fun i => (ZG im a i).map (fun x => 0 + x)) := fun im => by
      have := blk_at (b := 0) (lo := 0) (n := N) (T := TG) (Z := ZG im) (V := G) (A := []) (C := []) (o := a) ha
      simpa using this
    rw [f, f]
    by_cases e : 744 = a
    · subst e
      rw [if_pos rfl, if_pos (by rw [blk_len]; exact ha)]
      have : im' = fun i => (ZG im' 744 i).map (fun x => 0 + x) := by
        funext i
        show im' i = (im' i).map (fun x => 0 + x)
        cases im' i with
        | none => rfl
        | some x => show some x = some (0 + x); rw [Nat.zero_add]
      rw [← this]
    · rw [if_neg e]
      have : ∀ i, ZG im a i = ZG im' a i := fun i => by
        unfold ZG
        simp only [if_neg (show ¬ a = 744 from fun z => e z.symm)]
      simp only [this]
  · have f : ∀ im : Nat → Option Nat, (blk 0 0 N TG (ZG im) G)[a]? = none := fun im => by
      rw [List.getElem?_eq_none_iff, blk_len]; omega
    rw [f, f, if_neg (by omega)]
theorem s_im (hN : 775 ≤ N) {w i : Nat} (hw : isW N w) (hi : i < 2) (G : WV) : sR (PG im N G) 744 (nI i) w = some (PG (va_up im i (some w)) N G) := by
  have ok : okT (PG im N G) w 8 = true := by
    have := (lw_at (im := im) hw hN G).ok (V := get w G) (o := 0) (t := 8) (by decide) (by decide) rfl
    rw [put_get, Nat.add_zero] at this
    exact this
  unfold sR
  rw [im_ok hN, im_T hN, im_Z hN, inb_nI hi (by decide), nI_clamp (by omega), ok, pg_im hN]; rfl
theorem c_image (hG : GI kt im N G z e) {i : Nat} (hi : i < 2) : ∃ im' N' w A, F_X9_image (PG im N G) 0 (nI i) = some (0, PG im' N' (put w 57 A G)) ∧ AgW (get 1 G) A ∧ N ≤ N' ∧ (∃ k, N' = 775 + 57 * k) ∧ isW N' w ∧ 775 ≤ w ∧ im' i = some w ∧ (∀ j, j ≠ i → im' j = im j) ∧ (∀ j, j < 2 → j ≠ i → im j ≠ some w) := by
  have hN := hG.n
  have d0 : (0 : Int32).toInt = 0 := rfl
  have d1 : (1 : Int32).toInt = 1 := rfl
  have hv : (0 : Int) ≤ (nI i).toInt ∧ (nI i).toInt ≤ 1 := by rw [nI_toInt (by omega)]; omega
  have hI := hG.img hi
  obtain ⟨k, hk⟩ := hG.1
  unfold ImgOK at hI
  cases hm : im i with
  | none =>
    have hw : isW (N + 57) N := Or.inr (Or.inr (Or.inr ⟨k, hk, Nat.le_refl _⟩))
    have hN' : 775 ≤ N + 57 := by omega
    obtain ⟨A, a1, a2⟩ := c_copyG (im := va_up im i (some N)) (G := put N 57 W0 G) hw (Or.inl rfl) (by omega) hN'
    refine ⟨va_up im i (some N), N + 57, N, A, ?_, ?_, by omega, ⟨k + 1, by omega⟩, hw, by omega, up_s _ _ _, fun j hj => up_n _ _ hj, fun j hj hne z => ?_⟩
    · have hmn : mN (PG im N G) = N := by unfold PG; rw [hl_N, blk_len]
      have hin : F_X8_init (nwO (PG im N G) 8) N = some (PG im (N + 57) (put N 57 W0 G)) := by
        have := mk_world (blk 0 0 N TG (ZG im) G)
        rw [blk_len, pg_world hk] at this
        unfold PG
        rw [mk_nO]; exact this
      have e1 : va_up im i (some N) i = some N := up_s _ _ _
      unfold F_X9_image
      simp only [gl hN, gl hN', Option.bind_some, o_out, d0, d1, if_pos hv, if_true, q_im hN _ hi, hm, oE, bl, hmn, hin, s_im hN' hw hi, r_im hN' _ hi, e1, coW hN' hw, a1, put_put]
    · refine AgW.trans (ag_of (fun c hc => ?_) (fun c hc => ?_)) a2
      · exact (put_out (by omega)).1
      · exact (put_out (by omega)).2
    · have hJ := hG.img hj
      unfold ImgOK at hJ
      rw [z] at hJ
      have := hJ.1.le hN
      omega
  | some w =>
    rw [hm] at hI
    dsimp only at hI
    obtain ⟨i1, i2, i3, i4⟩ := hI
    obtain ⟨A, a1, a2⟩ := c_copyG (im := im) (G := G) i1 (Or.inl rfl) (by omega) hN
    refine ⟨im, N, w, A, ?_, a2, Nat.le_refl _, ⟨k, hk⟩, i1, i2, hm, fun j _ => rfl, fun j hj hne z => ?_⟩
    · unfold F_X9_image
      simp only [gl hN, Option.bind_some, o_out, d0, d1, if_pos hv, if_true, q_im hN _ hi, r_im hN _ hi, hm, oE, coW hN i1, a1]
    · have hd := hG.2.2.2.2.2.2.2.2.2.2.1
      have : (i = 0 ∧ j = 1) ∨ (i = 1 ∧ j = 0) := by omega
      rcases this with ⟨rfl, rfl⟩ | ⟨rfl, rfl⟩
      · exact hd w hm z
      · exact hd w z hm
theorem m_image {P : WV → Hp} {U : WV} (hP : LM 756 P) {i : Nat} (hi : i < 2) : F_X10_image (P U) 756 (nI i) = some (0, P (sx (cpyM (thr U) 1 0 1 (559 * (i + 1))) 8 (upd (U.1 8) i 1))) := by
  have c0 : (0 : Int64).toInt = 0 := rfl
  have c1 : (1 : Int64).toInt = 1 := rfl
  have hv : (0 : Int) ≤ (nI i).toInt ∧ (nI i).toInt ≤ 1 := by rw [nI_toInt (by omega)]; omega
  have hcp := m_copies hP (c := 1) (d := 1) (x := 0) (y := 559 * (i + 1)) (lc := 1677) (ld := 1677) (by decide) (by decide) rfl rfl (by decide) (by omega) (by decide) (by decide) (Or.inr (Or.inl (by omega))) (X := 0) (Y := 559 * (nI i + 1)) rfl (by rw [nI_1, show (559 : Int32) = nI 559 from rfl, nI_mul]) (thr U)
  have e0 : (cpyM (thr U) 1 0 1 (559 * (i + 1))).1 8 = U.1 8 := cpy_c (by decide)
  have en : vp_nar .boolean 1 = 1 := by decide
  unfold F_X10_image
  simp only [m_thr hP, ml hP, Option.bind_some, m_within, c0, c1, if_pos hv, if_neg i10, hi, hcp, e0, en]
theorem m_imageNo {P : WV → Hp} {U : WV} (hP : LM 756 P) {v : Int32} (hv : ¬ (0 ≤ v.toInt ∧ v.toInt ≤ 1)) : F_X10_image (P U) 756 v = some (-2, P (thr U)) := by
  have c0 : (0 : Int64).toInt = 0 := rfl
  have c1 : (1 : Int64).toInt = 1 := rfl
  unfold F_X10_image
  simp only [m_thr hP, ml hP, Option.bind_some, m_within, c0, c1, if_neg hv, if_true]
theorem T_image (v : Int32) : TH (fun h => F_X9_image h 0 v) (fun h => F_X10_image h 756 v) := by
  intro kt im N G z e _ hG
  have hN := hG.n
  have d0 : (0 : Int32).toInt = 0 := rfl
  have d1 : (1 : Int32).toInt = 1 := rfl
  obtain ⟨j1, j2, j3, j4, j5, j6, j7, j8, j9, j10, j11, j12⟩ := id hG
  by_cases hv : 0 ≤ v.toInt ∧ v.toInt ≤ 1
  · obtain ⟨i, hi, rfl⟩ := v_01 hv
    obtain ⟨im', N', w, A, a1, a2, hNN, hk', hw, h775, hiw, hio, hne⟩ := c_image hG hi
    have hN' : 775 ≤ N' := by omega
    obtain ⟨G1, hG1⟩ : ∃ G1, G1 = put w 57 A G := ⟨_, rfl⟩
    rw [← hG1] at a1
    have oG : ∀ c, (c < w ∨ w + 57 ≤ c) → G1.1 c = G.1 c ∧ G1.2 c = G.2 c := fun c hc => by rw [hG1]; exact put_out hc
    have b1 := m_image (lm_at (im := im') hN' G1) (U := get 756 G1) hi
    rw [put_get] at b1
    obtain ⟨U, hU⟩ : ∃ U, U = get 756 G1 := ⟨_, rfl⟩
    rw [← hU] at b1
    obtain ⟨U2, hU2⟩ : ∃ U2, U2 = sx (cpyM (thr U) 1 0 1 (559 * (i + 1))) 8 (upd (U.1 8) i 1) := ⟨_, rfl⟩
    rw [← hU2] at b1
    have ug : ∀ c, c < 19 → U.1 c = G.1 (756 + c) := fun c hc => by
      rw [hU]; exact (oG _ (by omega)).1
    have uc : ∀ c, 1 ≤ c → c < 19 → (thr U).1 c = G.1 (756 + c) := fun c hc h => by
      unfold thr
      rw [sx_1, up_n _ _ (by omega)]; exact ug c h
    refine ⟨0, im', N', G1, put 756 19 U2 G1, z, e, a1, b1, ?_⟩
    refine GI.mono (kt := kt) ?_ (by omega)
    have p : ∀ c, c < 19 → (put 756 19 U2 G1).1 (756 + c) = U2.1 c := fun c hc => (put_in hc).1
    have q : ∀ c, (c < 756 ∨ 775 ≤ c) → (put 756 19 U2 G1).1 c = G1.1 c ∧ (put 756 19 U2 G1).2 c = G1.2 c := fun c hc => put_out (by omega)
    have r : ∀ c, 2 ≤ c → c < 19 → c ≠ 8 → (put 756 19 U2 G1).1 (756 + c) = G.1 (756 + c) := fun c h2 hc h8 => by
      rw [p c hc, hU2, sx_1, up_n _ _ h8, cpy_c (by omega)]; exact uc c (by omega) hc
    have p64 : (put 756 19 U2 G1).1 764 = upd (G.1 764) i 1 := by
      have e8 : U2.1 8 = upd (G.1 764) i 1 := by rw [hU2, sx_1, up_s, ug 8 (by omega)]
      exact (p 8 (by omega)).trans e8
    have p57 : (put 756 19 U2 G1).1 757 = (cpyM (thr U) 1 0 1 (559 * (i + 1))).1 1 := by
      have := p 1 (by omega)
      rw [hU2, sx_1, up_n _ _ (by omega)] at this
      rw [hU2]; exact this
    have q57 : ∀ x, (x < 559 * (i + 1) ∨ 559 * (i + 1) + 559 ≤ x) → (put 756 19 U2 G1).1 757 x = G.1 757 x := fun x hx => by
      rw [p57, cpy_out hx, uc 1 (by omega) (by omega)]
    have p58 : (put 756 19 U2 G1).1 758 = G.1 758 := r 2 (by omega) (by omega) (by omega)
    have o115 : (put 756 19 U2 G1).1 115 = G.1 115 := by rw [(q 115 (by omega)).1, (oG 115 (by omega)).1]
    have aw : ∀ v, v + 57 ≤ 756 ∨ 775 ≤ v → (v + 57 ≤ w ∨ w + 57 ≤ v) → AgW (get v G) (get v (put 756 19 U2 G1)) := fun v h1 h2 =>
      AgW.trans (B := get v G1) (ag_of (fun c hc => (oG _ (by omega)).1) (fun c hc => (oG _ (by omega)).2)) (ag_out (by omega))
    have hown : ImgOK kt im' N' (put 756 19 U2 G1) i := by
      unfold ImgOK
      rw [hiw]
      refine ⟨hw, h775, by rw [p64, upd_s], ?_⟩
      have ha : AgW (get 1 G) (get w (put 756 19 U2 G1)) := by
        refine a2.trans (AgW.trans (ag_in w A G) ?_)
        rw [← hG1]
        exact ag_out (by omega)
      refine (j7.ag ha).row fun x hx => ?_
      have := cpy_in (U := thr U) (c := 1) (x := 0) (d := 1) (y := 559 * (i + 1)) hx
      rw [p57, this, uc 1 (by omega) (by omega), Nat.zero_add]
    have hoth : ∀ j, j < 2 → j ≠ i → ImgOK kt im' N' (put 756 19 U2 G1) j := fun j hj hji => by
      have hJ := hG.img hj
      unfold ImgOK at hJ ⊢
      rw [hio j hji]
      cases hm : im j with
      | none =>
        rw [hm] at hJ
        dsimp only at hJ ⊢
        rw [p64, upd_ne _ _ hji]; exact hJ
      | some v =>
        rw [hm] at hJ
        dsimp only at hJ ⊢
        obtain ⟨i1, i2, i3, i4⟩ := hJ
        have hvw : v ≠ w := fun z => hne j hj hji (by rw [hm, z])
        refine ⟨i1.mono hNN, i2, by rw [p64, upd_ne _ _ hji]; exact i3, (i4.ag (aw v (Or.inr i2) ((i1.mono hNN).dis hw hvw))).row fun x hx => q57 _ ?_⟩
        have : (i = 0 ∧ j = 1) ∨ (i = 1 ∧ j = 0) := by omega
        rcases this with ⟨rfl, rfl⟩ | ⟨rfl, rfl⟩ <;> omega
    have hall : ∀ j, j < 2 → ImgOK kt im' N' (put 756 19 U2 G1) j := fun j hj => by
      by_cases h : j = i
      · rw [h]; exact hown
      · exact hoth j hj h
    refine ⟨hk', j2, j3, by rw [o115]; exact j4, by rw [o115]; exact j5, ?_, ?_, fun j hj => ?_, hall 0 (by omega), hall 1 (by omega), fun u h0 h1 => ?_, ?_⟩
    · have := p 0 (by omega)
      show (put 756 19 U2 G1).1 (756 + 0) 8 = _
      rw [this, hU2, sx_1, up_n _ _ (by omega), cpy_c (by decide), thr_8, ug 0 (by omega)]; exact j6
    · exact (j7.ag (aw 1 (by omega) (by omega))).row fun x hx => q57 x (by omega)
    · rw [p58]
      have hs := slt_lt e j
      exact (j8 j hj).ag (aw (slt e j) (by omega) (by omega))
    · have : i = 0 ∨ i = 1 := by omega
      rcases this with rfl | rfl
      · rw [hiw] at h0
        cases h0
        rw [hio 1 (by decide)] at h1
        exact hne 1 (by decide) (by decide) h1
      · rw [hiw] at h1
        cases h1
        rw [hio 0 (by decide)] at h0
        exact hne 0 (by decide) (by decide) h0
    · have q1 := r 5 (by omega) (by omega) (by omega)
      have q2 := r 6 (by omega) (by omega) (by omega)
      have q3 := r 7 (by omega) (by omega) (by omega)
      unfold Cst at j12 ⊢
      rw [q1, q2, q3]; exact j12
  · have b1 := m_imageNo (lm_at (im := im) hN G) (U := get 756 G) hv
    rw [put_get] at b1
    refine ⟨-2, im, N, G, put 756 19 (thr (get 756 G)) G, z, e, ?_, b1, (hG.irr (irr_model (thr_same _))).mono (by omega)⟩
    unfold F_X9_image
    simp only [gl hN, Option.bind_some, o_out, d0, d1, if_neg hv, if_neg i10]
end IMAGE
