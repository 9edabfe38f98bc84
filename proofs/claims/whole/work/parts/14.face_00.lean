def F_X9_init (h : Hp) (a0 : Nat) : Option (Hp) :=
bl (nwO h 8) fun h1 =>
(F_X8_init h1 (mN h)).bind fun h2 =>
(pR h2 a0 9 0 (mN h)).bind fun h3 =>
bl (nwO h3 8) fun h4 =>
(F_X8_init h4 (mN h3)).bind fun h5 =>
(pR h5 a0 9 1 (mN h3)).bind fun h6 =>
bl (nwO h6 4) fun h7 =>
(F_X4_init h7 (mN h6)).bind fun h8 =>
(pR h8 a0 9 2 (mN h6)).bind fun h9 =>
(nwA h9 14 2).bind fun h10 =>
(pR h10 a0 9 3 (mN h9)).bind fun h11 =>
bl (nwO h11 5) fun h12 =>
(F_X5_init h12 (mN h11)).bind fun h13 =>
(pR h13 a0 9 4 (mN h11)).bind fun h14 =>
bl (nwO h14 3) fun h15 =>
(gR h15 a0 9 4).bind fun a16 =>
(F_X3_init h15 (mN h14) a16).bind fun h17 =>
(pR h17 a0 9 5 (mN h14)).bind fun h18 =>
bl (nwO h18 2) fun h19 =>
(F_X2_init h19 (mN h18)).bind fun h20 =>
(pR h20 a0 9 6 (mN h18)).bind fun h21 =>
some h21
set_option maxRecDepth 100000 in
set_option maxHeartbeats 4000000 in
theorem c_X9_init (l : Launch) (G : GG) (B : Nat) (h : Hp) (a0 : Nat) (hr : Hp) (hF : F_X9_init h a0 = some hr) : CV l yX9_init cX9_init 1 4 100 755 8135 G B h [.ref (B + a0)] hr := by
  refine ent_v rfl (Nat.le_of_ble_eq_true rfl) ?_
  intro p e s m args below meth c ls Q CX hnm hret P hl
  have CX : Cxt p m c cX9_init 1 s args RX9 G B := CX
  obtain ⟨⟨hx, hb, hml, hown, hts⟩, -, -⟩ := id CX
  replace hl : lv_has ls 1 [(0, .ref (B + a0))] := hl
  generalize s.heap = H at P ⊢
  generalize ([] : List Loc) = locs at P ⊢
  unfold F_X9_init at hF
  refine lv_aload_n (pc := 0) hx hb dX9_init_0 rfl (lv_at hl 0 rfl) ?_
  refine r_obj (pc := 1) CX hl.1 tw_22 tw_23 tw_24 (Nat.le_of_ble_eq_true rfl) (Nat.le_of_ble_eq_true rfl) dX9_init_1 ?_
  refine lv_aload_n (pc := 4) hx hb dX9_init_4 rfl (lv_at hl 0 rfl) ?_
  refine r_nwO (pc := 5) CX P hF cl_X9_7 (Nat.le_of_ble_eq_true rfl) (Nat.le_of_ble_eq_true rfl) dX9_init_5 (fun h1 H eN P hF => ?_)
  refine lv_dup (pc := 8) hx hb dX9_init_8 rfl ?_
  refine r_cO (pc := 9) (As := []) (rest := [.ref (B + (mN h)), .ref (B + a0)]) CX P hl.1 hF ko_X9_9 (fun h1 q => c_X8_init l G B _ _ _ q) rfl rfl ⟨Nat.le_of_ble_eq_true rfl, Nat.le_of_ble_eq_true rfl⟩ (Nat.le_of_ble_eq_true rfl) ⟨Nat.le_of_ble_eq_true rfl, Nat.le_of_ble_eq_true rfl⟩ dX9_init_9 (fun h2 H locs P hF => ?_)
  refine r_pR (pc := 12) CX P hnm hF fl_X9_10 (fun q hq => by cases hq; rfl) dX9_init_12 (fun h3 H locs P hF => ?_)
  refine lv_aload_n (pc := 15) hx hb dX9_init_15 rfl (lv_at hl 0 rfl) ?_
  refine r_nwO (pc := 16) CX P hF cl_X9_7 (Nat.le_of_ble_eq_true rfl) (Nat.le_of_ble_eq_true rfl) dX9_init_16 (fun h4 H eN P hF => ?_)
  refine lv_dup (pc := 19) hx hb dX9_init_19 rfl ?_
  refine r_cO (pc := 20) (As := []) (rest := [.ref (B + (mN h3)), .ref (B + a0)]) CX P hl.1 hF ko_X9_9 (fun h1 q => c_X8_init l G B _ _ _ q) rfl rfl ⟨Nat.le_of_ble_eq_true rfl, Nat.le_of_ble_eq_true rfl⟩ (Nat.le_of_ble_eq_true rfl) ⟨Nat.le_of_ble_eq_true rfl, Nat.le_of_ble_eq_true rfl⟩ dX9_init_20 (fun h5 H locs P hF => ?_)
  refine r_pR (pc := 23) CX P hnm hF fl_X9_16 (fun q hq => by cases hq; rfl) dX9_init_23 (fun h6 H locs P hF => ?_)
  refine lv_aload_n (pc := 26) hx hb dX9_init_26 rfl (lv_at hl 0 rfl) ?_
  refine r_nwO (pc := 27) CX P hF cl_X9_19 (Nat.le_of_ble_eq_true rfl) (Nat.le_of_ble_eq_true rfl) dX9_init_27 (fun h7 H eN P hF => ?_)
  refine lv_dup (pc := 30) hx hb dX9_init_30 rfl ?_
  refine r_cO (pc := 31) (As := []) (rest := [.ref (B + (mN h6)), .ref (B + a0)]) CX P hl.1 hF ko_X9_21 (fun h1 q => c_X4_init l G B _ _ _ q) rfl rfl ⟨Nat.le_of_ble_eq_true rfl, Nat.le_of_ble_eq_true rfl⟩ (Nat.le_of_ble_eq_true rfl) ⟨Nat.le_of_ble_eq_true rfl, Nat.le_of_ble_eq_true rfl⟩ dX9_init_31 (fun h8 H locs P hF => ?_)
  refine r_pR (pc := 34) CX P hnm hF fl_X9_22 (fun q hq => by cases hq; rfl) dX9_init_34 (fun h9 H locs P hF => ?_)
  refine lv_aload_n (pc := 37) hx hb dX9_init_37 rfl (lv_at hl 0 rfl) ?_
  refine lv_iconst (pc := 38) (v := 2) hx hb dX9_init_38 (by decide) ?_
  refine r_nwW (pc := 39) (N' := 2) CX P hF tw_25 (by decide) (Nat.le_of_ble_eq_true rfl) (Nat.le_of_ble_eq_true rfl) dX9_init_39 (fun h10 H eN P hF => ?_)
  refine r_pR (pc := 42) CX P hnm hF fl_X9_26 (fun q hq => by cases hq; rfl) dX9_init_42 (fun h11 H locs P hF => ?_)
  refine lv_aload_n (pc := 45) hx hb dX9_init_45 rfl (lv_at hl 0 rfl) ?_
  refine r_nwO (pc := 46) CX P hF cl_X9_30 (Nat.le_of_ble_eq_true rfl) (Nat.le_of_ble_eq_true rfl) dX9_init_46 (fun h12 H eN P hF => ?_)
  refine lv_dup (pc := 49) hx hb dX9_init_49 rfl ?_
  refine r_cO (pc := 50) (As := []) (rest := [.ref (B + (mN h11)), .ref (B + a0)]) CX P hl.1 hF ko_X9_32 (fun h1 q => c_X5_init l G B _ _ _ q) rfl rfl ⟨Nat.le_of_ble_eq_true rfl, Nat.le_of_ble_eq_true rfl⟩ (Nat.le_of_ble_eq_true rfl) ⟨Nat.le_of_ble_eq_true rfl, Nat.le_of_ble_eq_true rfl⟩ dX9_init_50 (fun h13 H locs P hF => ?_)
  refine r_pR (pc := 53) CX P hnm hF fl_X9_33 (fun q hq => by cases hq; rfl) dX9_init_53 (fun h14 H locs P hF => ?_)
  refine lv_aload_n (pc := 56) hx hb dX9_init_56 rfl (lv_at hl 0 rfl) ?_
  refine r_nwO (pc := 57) CX P hF cl_X9_37 (Nat.le_of_ble_eq_true rfl) (Nat.le_of_ble_eq_true rfl) dX9_init_57 (fun h15 H eN P hF => ?_)
  refine lv_dup (pc := 60) hx hb dX9_init_60 rfl ?_
  refine lv_aload_n (pc := 61) hx hb dX9_init_61 rfl (lv_at hl 0 rfl) ?_
  refine r_gR (pc := 62) CX P hF fl_X9_33 dX9_init_62 (fun a16 hF => ?_)
  refine r_cO (pc := 65) (As := [.ref (B + a16)]) (rest := [.ref (B + (mN h14)), .ref (B + a0)]) CX P hl.1 hF ko_X9_39 (fun h1 q => c_X3_init l G B _ _ _ _ q) rfl rfl ⟨Nat.le_of_ble_eq_true rfl, Nat.le_of_ble_eq_true rfl⟩ (Nat.le_of_ble_eq_true rfl) ⟨Nat.le_of_ble_eq_true rfl, Nat.le_of_ble_eq_true rfl⟩ dX9_init_65 (fun h17 H locs P hF => ?_)
  refine r_pR (pc := 68) CX P hnm hF fl_X9_42 (fun q hq => by cases hq; rfl) dX9_init_68 (fun h18 H locs P hF => ?_)
  refine lv_aload_n (pc := 71) hx hb dX9_init_71 rfl (lv_at hl 0 rfl) ?_
  refine r_nwO (pc := 72) CX P hF cl_X9_46 (Nat.le_of_ble_eq_true rfl) (Nat.le_of_ble_eq_true rfl) dX9_init_72 (fun h19 H eN P hF => ?_)
  refine lv_dup (pc := 75) hx hb dX9_init_75 rfl ?_
  refine r_cO (pc := 76) (As := []) (rest := [.ref (B + (mN h18)), .ref (B + a0)]) CX P hl.1 hF ko_X9_48 (fun h1 q => c_X2_init l G B _ _ _ q) rfl rfl ⟨Nat.le_of_ble_eq_true rfl, Nat.le_of_ble_eq_true rfl⟩ (Nat.le_of_ble_eq_true rfl) ⟨Nat.le_of_ble_eq_true rfl, Nat.le_of_ble_eq_true rfl⟩ dX9_init_76 (fun h20 H locs P hF => ?_)
  refine r_pR (pc := 79) CX P hnm hF fl_X9_49 (fun q hq => by cases hq; rfl) dX9_init_79 (fun h21 H locs P hF => ?_)
  cases hF
  exact hret _ _ _ _ P dX9_init_82
def F_X9_settle (h : Hp) (a0 : Nat) (vp1 : Int32) : Option (Int32 × Hp) :=
if 0 ≤ vp1 then (
(gR h a0 9 2).bind fun a1 =>
(cO h a1 4 (F_X4_countKept h a1)).bind fun h2 =>
some (vp1, h2)) else (
(gR h a0 9 2).bind fun a3 =>
(gR h a0 9 0).bind fun a4 =>
(cO h a3 4 (F_X4_dropTry h a3 a4)).bind fun h5 =>
some (vp1, h5))
set_option maxRecDepth 100000 in
set_option maxHeartbeats 4000000 in
theorem c_X9_settle (l : Launch) (G : GG) (B : Nat) (h : Hp) (a0 : Nat) (vp1 : Int32) (r0 : Int32) (hr : Hp) (hF : F_X9_settle h a0 vp1 = some (r0, hr)) : CI l yX9_settle cX9_settle 2 .int 4 163 0 0 G B h [.ref (B + a0), .int vp1] r0 hr := by
  refine ent_i rfl (Nat.le_of_ble_eq_true rfl) ?_
  intro p e s m args below meth c ls Q CX hnm hret P hl
  have CX : Cxt p m c cX9_settle 2 s args RX9 G B := CX
  obtain ⟨⟨hx, hb, hml, hown, hts⟩, -, -⟩ := id CX
  replace hl : lv_has ls 2 [(0, .ref (B + a0)), (1, .int vp1)] := hl
  generalize s.heap = H at P ⊢
  generalize ([] : List Loc) = locs at P ⊢
  unfold F_X9_settle at hF
  refine lv_iload_n (pc := 0) hx hb dX9_settle_0 rfl (lv_at hl 1 rfl) ?_
  refine lv_if_ge (pc := 1) (tgt := 18) hx hb dX9_settle_1 (by decide) (fun hc => ?_) (fun hc => ?_)
  · rw [if_pos hc] at hF
    refine lv_aload_n (pc := 18) hx hb dX9_settle_18 rfl (lv_at hl 0 rfl) ?_
    refine r_gR (pc := 19) CX P hF fl_X9_22 dX9_settle_19 (fun a1 hF => ?_)
    refine r_cVv (pc := 22) (As := []) (rest := []) CX P hl.1 hF kv_X9_348 (fun h1 q => c_X4_countKept l G B _ _ _ q) rfl rfl ⟨Nat.le_of_ble_eq_true rfl, Nat.le_of_ble_eq_true rfl⟩ (Nat.le_of_ble_eq_true rfl) ⟨Nat.le_of_ble_eq_true rfl, Nat.le_of_ble_eq_true rfl⟩ dX9_settle_22 (fun h2 H locs P hF => ?_)
    refine lv_iload_n (pc := 25) hx hb dX9_settle_25 rfl (lv_at hl 1 rfl) ?_
    cases hF
    exact hret _ _ _ _ P rfl dX9_settle_26
  · rw [if_neg hc] at hF
    refine lv_aload_n (pc := 4) hx hb dX9_settle_4 rfl (lv_at hl 0 rfl) ?_
    refine r_gR (pc := 5) CX P hF fl_X9_22 dX9_settle_5 (fun a3 hF => ?_)
    refine lv_aload_n (pc := 8) hx hb dX9_settle_8 rfl (lv_at hl 0 rfl) ?_
    refine r_gR (pc := 9) CX P hF fl_X9_10 dX9_settle_9 (fun a4 hF => ?_)
    refine r_cVv (pc := 12) (As := [.ref (B + a4)]) (rest := []) CX P hl.1 hF kv_X9_345 (fun h1 q => c_X4_dropTry l G B _ _ _ _ q) rfl rfl ⟨Nat.le_of_ble_eq_true rfl, Nat.le_of_ble_eq_true rfl⟩ (Nat.le_of_ble_eq_true rfl) ⟨Nat.le_of_ble_eq_true rfl, Nat.le_of_ble_eq_true rfl⟩ dX9_settle_12 (fun h5 H locs P hF => ?_)
    refine lv_goto (pc := 15) (tgt := 25) hx hb dX9_settle_15 (by decide) ?_
    refine lv_iload_n (pc := 25) hx hb dX9_settle_25 rfl (lv_at hl 1 rfl) ?_
    cases hF
    exact hret _ _ _ _ P rfl dX9_settle_26
def F_X9_group (h : Hp) (a0 : Nat) (vp1 : Int32) : Option (Int32 × Hp) :=
(gR h a0 9 0).bind fun a1 =>
(gR h a1 8 0).bind fun a2 =>
(cO h a2 6 (F_X6_has h a2 vp1)).bind fun v3 =>
if v3 = 0 then (
some ((-2), h)) else (
(gR h a0 9 0).bind fun a4 =>
(gR h a4 8 0).bind fun a5 =>
(cO h a5 6 (F_X6_firstFree h a5)).bind fun v6 =>
if v6 = (-1) then (
some ((-4), h)) else (
(gR h a0 9 2).bind fun a7 =>
(gR h a0 9 0).bind fun a8 =>
(cO h a7 4 (F_X4_keep h a7 a8)).bind fun h9 =>
(gR h9 a0 9 0).bind fun a10 =>
(gR h9 a10 8 0).bind fun a11 =>
(cO h9 a11 6 (F_X6_putGroup h9 a11 v6 vp1)).bind fun h12 =>
(gR h12 a0 9 0).bind fun a13 =>
(gR h12 a13 8 2).bind fun a14 =>
(cO h12 a14 1 (F_X1_clearGroup h12 a14 v6)).bind fun h15 =>
(cO h15 a0 9 (F_X9_settle h15 a0 v6)).bind (un fun v16 h17 =>
some (v16, h17))))
set_option maxRecDepth 100000 in
set_option maxHeartbeats 4000000 in
theorem c_X9_group (l : Launch) (G : GG) (B : Nat) (h : Hp) (a0 : Nat) (vp1 : Int32) (r0 : Int32) (hr : Hp) (hF : F_X9_group h a0 vp1 = some (r0, hr)) : CI l yX9_group cX9_group 3 .int 5 184 0 0 G B h [.ref (B + a0), .int vp1] r0 hr := by
  refine ent_i rfl (Nat.le_of_ble_eq_true rfl) ?_
  intro p e s m args below meth c ls Q CX hnm hret P hl
  have CX : Cxt p m c cX9_group 3 s args RX9 G B := CX
  obtain ⟨⟨hx, hb, hml, hown, hts⟩, -, -⟩ := id CX
  replace hl : lv_has ls 3 [(0, .ref (B + a0)), (1, .int vp1)] := hl
  generalize s.heap = H at P ⊢
  generalize ([] : List Loc) = locs at P ⊢
  unfold F_X9_group at hF
  refine lv_aload_n (pc := 0) hx hb dX9_group_0 rfl (lv_at hl 0 rfl) ?_
  refine r_gR (pc := 1) CX P hF fl_X9_10 dX9_group_1 (fun a1 hF => ?_)
  refine r_gR (pc := 4) CX P hF fl_X9_53 dX9_group_4 (fun a2 hF => ?_)
  refine lv_iload_n (pc := 7) hx hb dX9_group_7 rfl (lv_at hl 1 rfl) ?_
  refine r_cVp (pc := 8) (As := [.int vp1]) (rest := []) CX P hl.1 hF kv_X9_57 (fun r q => c_X6_has l G B _ _ _ _ q) rfl rfl ⟨Nat.le_of_ble_eq_true rfl, Nat.le_of_ble_eq_true rfl⟩ (Nat.le_of_ble_eq_true rfl) ⟨Nat.le_of_ble_eq_true rfl, Nat.le_of_ble_eq_true rfl⟩ dX9_group_8 (fun v3 H locs P hF => ?_)
  refine lv_if_ne (pc := 11) (tgt := 17) hx hb dX9_group_11 (by decide) (fun hc => ?_) (fun hc => ?_)
  · rw [if_neg hc] at hF
    refine lv_aload_n (pc := 17) hx hb dX9_group_17 rfl (lv_at hl 0 rfl) ?_
    refine r_gR (pc := 18) CX P hF fl_X9_10 dX9_group_18 (fun a4 hF => ?_)
    refine r_gR (pc := 21) CX P hF fl_X9_53 dX9_group_21 (fun a5 hF => ?_)
    refine r_cVp (pc := 24) (As := []) (rest := []) CX P hl.1 hF kv_X9_63 (fun r q => c_X6_firstFree l G B _ _ _ q) rfl rfl ⟨Nat.le_of_ble_eq_true rfl, Nat.le_of_ble_eq_true rfl⟩ (Nat.le_of_ble_eq_true rfl) ⟨Nat.le_of_ble_eq_true rfl, Nat.le_of_ble_eq_true rfl⟩ dX9_group_24 (fun v6 H locs P hF => ?_)
    refine lv_istore_n (pc := 27) hx hb dX9_group_27 rfl hl (by decide) rfl (fun ls hl => ?_)
    replace hl : lv_has ls 3 [(2, .int v6), (0, .ref (B + a0)), (1, .int vp1)] := hl
    refine lv_iload_n (pc := 28) hx hb dX9_group_28 rfl (lv_at hl 0 rfl) ?_
    refine lv_iconst (pc := 29) (v := (-1)) hx hb dX9_group_29 (by decide) ?_
    refine lv_icmp_ne (pc := 30) (tgt := 36) hx hb dX9_group_30 (by decide) (fun hc => ?_) (fun hc => ?_)
    · rw [if_neg hc] at hF
      refine lv_aload_n (pc := 36) hx hb dX9_group_36 rfl (lv_at hl 1 rfl) ?_
      refine r_gR (pc := 37) CX P hF fl_X9_22 dX9_group_37 (fun a7 hF => ?_)
      refine lv_aload_n (pc := 40) hx hb dX9_group_40 rfl (lv_at hl 1 rfl) ?_
      refine r_gR (pc := 41) CX P hF fl_X9_10 dX9_group_41 (fun a8 hF => ?_)
      refine r_cVv (pc := 44) (As := [.ref (B + a8)]) (rest := []) CX P hl.1 hF kv_X9_67 (fun h1 q => c_X4_keep l G B _ _ _ _ q) rfl rfl ⟨Nat.le_of_ble_eq_true rfl, Nat.le_of_ble_eq_true rfl⟩ (Nat.le_of_ble_eq_true rfl) ⟨Nat.le_of_ble_eq_true rfl, Nat.le_of_ble_eq_true rfl⟩ dX9_group_44 (fun h9 H locs P hF => ?_)
      refine lv_aload_n (pc := 47) hx hb dX9_group_47 rfl (lv_at hl 1 rfl) ?_
      refine r_gR (pc := 48) CX P hF fl_X9_10 dX9_group_48 (fun a10 hF => ?_)
      refine r_gR (pc := 51) CX P hF fl_X9_53 dX9_group_51 (fun a11 hF => ?_)
      refine lv_iload_n (pc := 54) hx hb dX9_group_54 rfl (lv_at hl 0 rfl) ?_
      refine lv_iload_n (pc := 55) hx hb dX9_group_55 rfl (lv_at hl 2 rfl) ?_
      refine r_cVv (pc := 56) (As := [.int v6, .int vp1]) (rest := []) CX P hl.1 hF kv_X9_71 (fun h1 q => c_X6_putGroup l G B _ _ _ _ _ q) rfl rfl ⟨Nat.le_of_ble_eq_true rfl, Nat.le_of_ble_eq_true rfl⟩ (Nat.le_of_ble_eq_true rfl) ⟨Nat.le_of_ble_eq_true rfl, Nat.le_of_ble_eq_true rfl⟩ dX9_group_56 (fun h12 H locs P hF => ?_)
      refine lv_aload_n (pc := 59) hx hb dX9_group_59 rfl (lv_at hl 1 rfl) ?_
      refine r_gR (pc := 60) CX P hF fl_X9_10 dX9_group_60 (fun a13 hF => ?_)
      refine r_gR (pc := 63) CX P hF fl_X9_75 dX9_group_63 (fun a14 hF => ?_)
      refine lv_iload_n (pc := 66) hx hb dX9_group_66 rfl (lv_at hl 0 rfl) ?_
      refine r_cVv (pc := 67) (As := [.int v6]) (rest := []) CX P hl.1 hF kv_X9_79 (fun h1 q => c_X1_clearGroup l G B _ _ _ _ q) rfl rfl ⟨Nat.le_of_ble_eq_true rfl, Nat.le_of_ble_eq_true rfl⟩ (Nat.le_of_ble_eq_true rfl) ⟨Nat.le_of_ble_eq_true rfl, Nat.le_of_ble_eq_true rfl⟩ dX9_group_67 (fun h15 H locs P hF => ?_)
      refine lv_aload_n (pc := 70) hx hb dX9_group_70 rfl (lv_at hl 1 rfl) ?_
      refine lv_iload_n (pc := 71) hx hb dX9_group_71 rfl (lv_at hl 0 rfl) ?_
      refine r_cVi (pc := 72) (As := [.int v6]) (rest := []) CX P hl.1 hF kv_X9_85 (fun r h1 q => c_X9_settle l G B _ _ _ _ _ q) rfl rfl ⟨Nat.le_of_ble_eq_true rfl, Nat.le_of_ble_eq_true rfl⟩ (Nat.le_of_ble_eq_true rfl) ⟨Nat.le_of_ble_eq_true rfl, Nat.le_of_ble_eq_true rfl⟩ dX9_group_72 (fun v16 h17 H locs P hF => ?_)
      replace hF := un_i hF
      cases hF
      exact hret _ _ _ _ P rfl dX9_group_75
    · rw [if_pos hc] at hF
      refine lv_bipush (pc := 33) (v := (-4)) hx hb dX9_group_33 (by decide) ?_
      cases hF
      exact hret _ _ _ _ P rfl dX9_group_35
  · rw [if_pos hc] at hF
    refine lv_bipush (pc := 14) (v := (-2)) hx hb dX9_group_14 (by decide) ?_
    cases hF
    exact hret _ _ _ _ P rfl dX9_group_16
def F_X9_remove (h : Hp) (a0 : Nat) (vp1 : Int32) : Option (Int32 × Hp) :=
(gR h a0 9 0).bind fun a1 =>
(gR h a1 8 0).bind fun a2 =>
(cO h a2 6 (F_X6_has h a2 vp1)).bind fun v3 =>
if v3 = 0 then (
some ((-2), h)) else (
(gR h a0 9 0).bind fun a4 =>
(gR h a4 8 0).bind fun a5 =>
(cO h a5 6 (F_X6_bitsBelow h a5 vp1)).bind fun v6 =>
(if v6 = (1 <<< (vp1 &&& 31)) then (
some (0 : Int32)) else (
some (1 : Int32))).bind fun v8 =>
if vp1 = 0 then (
some ((-5), h)) else (
if v8 = 0 then (
(gR h a0 9 0).bind fun a9 =>
(cO h a9 8 (F_X8_bitsOfProcesses h a9 vp1)).bind fun v10 =>
if v10 = 0 then (
(gR h a0 9 2).bind fun a11 =>
(gR h a0 9 0).bind fun a12 =>
(cO h a11 4 (F_X4_keep h a11 a12)).bind fun h13 =>
(gR h13 a0 9 0).bind fun a14 =>
(gR h13 a14 8 0).bind fun a15 =>
(gR h13 a15 6 0).bind fun a16 =>
(aI h13 a16 vp1).bind fun v17 =>
(gR h13 a0 9 0).bind fun a18 =>
(gR h13 a18 8 0).bind fun a19 =>
(cO h13 a19 6 (F_X6_dropGroup h13 a19 vp1)).bind fun h20 =>
(gR h20 a0 9 0).bind fun a21 =>
(gR h20 a21 8 3).bind fun a22 =>
(cO h20 a22 7 (F_X7_dropOf h20 a22 vp1)).bind fun h23 =>
(cO h23 a0 9 (F_X9_settle h23 a0 v17)).bind (un fun v24 h25 =>
some (v24, h25))) else (
some ((-5), h))) else (
some ((-5), h))))
set_option maxRecDepth 100000 in
set_option maxHeartbeats 4000000 in
theorem c_X9_remove (l : Launch) (G : GG) (B : Nat) (h : Hp) (a0 : Nat) (vp1 : Int32) (r0 : Int32) (hr : Hp) (hF : F_X9_remove h a0 vp1 = some (r0, hr)) : CI l yX9_remove cX9_remove 4 .int 5 184 0 0 G B h [.ref (B + a0), .int vp1] r0 hr := by
  refine ent_i rfl (Nat.le_of_ble_eq_true rfl) ?_
  intro p e s m args below meth c ls Q CX hnm hret P hl
  have CX : Cxt p m c cX9_remove 4 s args RX9 G B := CX
  obtain ⟨⟨hx, hb, hml, hown, hts⟩, -, -⟩ := id CX
  replace hl : lv_has ls 4 [(0, .ref (B + a0)), (1, .int vp1)] := hl
  generalize s.heap = H at P ⊢
  generalize ([] : List Loc) = locs at P ⊢
  unfold F_X9_remove at hF
  refine lv_aload_n (pc := 0) hx hb dX9_remove_0 rfl (lv_at hl 0 rfl) ?_
  refine r_gR (pc := 1) CX P hF fl_X9_10 dX9_remove_1 (fun a1 hF => ?_)
  refine r_gR (pc := 4) CX P hF fl_X9_53 dX9_remove_4 (fun a2 hF => ?_)
  refine lv_iload_n (pc := 7) hx hb dX9_remove_7 rfl (lv_at hl 1 rfl) ?_
  refine r_cVp (pc := 8) (As := [.int vp1]) (rest := []) CX P hl.1 hF kv_X9_57 (fun r q => c_X6_has l G B _ _ _ _ q) rfl rfl ⟨Nat.le_of_ble_eq_true rfl, Nat.le_of_ble_eq_true rfl⟩ (Nat.le_of_ble_eq_true rfl) ⟨Nat.le_of_ble_eq_true rfl, Nat.le_of_ble_eq_true rfl⟩ dX9_remove_8 (fun v3 H locs P hF => ?_)
  refine lv_if_ne (pc := 11) (tgt := 17) hx hb dX9_remove_11 (by decide) (fun hc => ?_) (fun hc => ?_)
  · rw [if_neg hc] at hF
    refine lv_aload_n (pc := 17) hx hb dX9_remove_17 rfl (lv_at hl 0 rfl) ?_
    refine r_gR (pc := 18) CX P hF fl_X9_10 dX9_remove_18 (fun a4 hF => ?_)
    refine r_gR (pc := 21) CX P hF fl_X9_53 dX9_remove_21 (fun a5 hF => ?_)
    refine lv_iload_n (pc := 24) hx hb dX9_remove_24 rfl (lv_at hl 1 rfl) ?_
    refine r_cVp (pc := 25) (As := [.int vp1]) (rest := []) CX P hl.1 hF kv_X9_89 (fun r q => c_X6_bitsBelow l G B _ _ _ _ q) rfl rfl ⟨Nat.le_of_ble_eq_true rfl, Nat.le_of_ble_eq_true rfl⟩ (Nat.le_of_ble_eq_true rfl) ⟨Nat.le_of_ble_eq_true rfl, Nat.le_of_ble_eq_true rfl⟩ dX9_remove_25 (fun v6 H locs P hF => ?_)
    refine lv_iconst (pc := 28) (v := 1) hx hb dX9_remove_28 (by decide) ?_
    refine lv_iload_n (pc := 29) hx hb dX9_remove_29 rfl (lv_at hl 1 rfl) ?_
    refine lv_ishl (pc := 30) hx hb dX9_remove_30 ?_
    obtain ⟨j7, hA7, hK7⟩ := bd_some hF
    have hJ7 : ∀ (v8 : Int32) (H : Heap) (locs : List Loc) (ls : Array Slot), Pic G B h s H locs → lv_has ls 4 [(0, .ref (B + a0)), (1, .int vp1)] → v8 = j7 → W p l e (rmM 5 184 0 0) s m args below meth c H locs 0 0 Q (F0 m 39 ls [.int v8]) := by
      intro v8 H locs ls P hl ej
      subst ej
      have hF := hK7
      refine lv_istore_n (pc := 39) hx hb dX9_remove_39 rfl hl (by decide) rfl (fun ls hl => ?_)
      replace hl : lv_has ls 4 [(2, .int v8), (0, .ref (B + a0)), (1, .int vp1)] := hl
      refine lv_iload_n (pc := 40) hx hb dX9_remove_40 rfl (lv_at hl 2 rfl) ?_
      refine lv_if_eq (pc := 41) (tgt := 59) hx hb dX9_remove_41 (by decide) (fun hc => ?_) (fun hc => ?_)
      · rw [if_pos hc] at hF
        refine lv_bipush (pc := 59) (v := (-5)) hx hb dX9_remove_59 (by decide) ?_
        cases hF
        exact hret _ _ _ _ P rfl dX9_remove_61
      · rw [if_neg hc] at hF
        refine lv_iload_n (pc := 44) hx hb dX9_remove_44 rfl (lv_at hl 0 rfl) ?_
        refine lv_if_ne (pc := 45) (tgt := 59) hx hb dX9_remove_45 (by decide) (fun hc => ?_) (fun hc => ?_)
        · rw [if_neg hc] at hF
          refine lv_bipush (pc := 59) (v := (-5)) hx hb dX9_remove_59 (by decide) ?_
          cases hF
          exact hret _ _ _ _ P rfl dX9_remove_61
        · rw [if_pos hc] at hF
          refine lv_aload_n (pc := 48) hx hb dX9_remove_48 rfl (lv_at hl 1 rfl) ?_
          refine r_gR (pc := 49) CX P hF fl_X9_10 dX9_remove_49 (fun a9 hF => ?_)
          refine lv_iload_n (pc := 52) hx hb dX9_remove_52 rfl (lv_at hl 2 rfl) ?_
          refine r_cVp (pc := 53) (As := [.int vp1]) (rest := []) CX P hl.1 hF kv_X9_92 (fun r q => c_X8_bitsOfProcesses l G B _ _ _ _ q) rfl rfl ⟨Nat.le_of_ble_eq_true rfl, Nat.le_of_ble_eq_true rfl⟩ (Nat.le_of_ble_eq_true rfl) ⟨Nat.le_of_ble_eq_true rfl, Nat.le_of_ble_eq_true rfl⟩ dX9_remove_53 (fun v10 H locs P hF => ?_)
          refine lv_if_eq (pc := 56) (tgt := 62) hx hb dX9_remove_56 (by decide) (fun hc => ?_) (fun hc => ?_)
          · rw [if_pos hc] at hF
            refine lv_aload_n (pc := 62) hx hb dX9_remove_62 rfl (lv_at hl 1 rfl) ?_
            refine r_gR (pc := 63) CX P hF fl_X9_22 dX9_remove_63 (fun a11 hF => ?_)
            refine lv_aload_n (pc := 66) hx hb dX9_remove_66 rfl (lv_at hl 1 rfl) ?_
            refine r_gR (pc := 67) CX P hF fl_X9_10 dX9_remove_67 (fun a12 hF => ?_)
            refine r_cVv (pc := 70) (As := [.ref (B + a12)]) (rest := []) CX P hl.1 hF kv_X9_67 (fun h1 q => c_X4_keep l G B _ _ _ _ q) rfl rfl ⟨Nat.le_of_ble_eq_true rfl, Nat.le_of_ble_eq_true rfl⟩ (Nat.le_of_ble_eq_true rfl) ⟨Nat.le_of_ble_eq_true rfl, Nat.le_of_ble_eq_true rfl⟩ dX9_remove_70 (fun h13 H locs P hF => ?_)
            refine lv_aload_n (pc := 73) hx hb dX9_remove_73 rfl (lv_at hl 1 rfl) ?_
            refine r_gR (pc := 74) CX P hF fl_X9_10 dX9_remove_74 (fun a14 hF => ?_)
            refine r_gR (pc := 77) CX P hF fl_X9_53 dX9_remove_77 (fun a15 hF => ?_)
            refine r_gR (pc := 80) CX P hF fl_X9_95 dX9_remove_80 (fun a16 hF => ?_)
            refine lv_iload_n (pc := 83) hx hb dX9_remove_83 rfl (lv_at hl 2 rfl) ?_
            refine r_aI (pc := 84) CX P hF dX9_remove_84 (fun v17 hF => ?_)
            refine lv_istore_n (pc := 85) hx hb dX9_remove_85 rfl hl (by decide) rfl (fun ls hl => ?_)
            replace hl : lv_has ls 4 [(3, .int v17), (2, .int v8), (0, .ref (B + a0)), (1, .int vp1)] := hl
            refine lv_aload_n (pc := 86) hx hb dX9_remove_86 rfl (lv_at hl 2 rfl) ?_
            refine r_gR (pc := 87) CX P hF fl_X9_10 dX9_remove_87 (fun a18 hF => ?_)
            refine r_gR (pc := 90) CX P hF fl_X9_53 dX9_remove_90 (fun a19 hF => ?_)
            refine lv_iload_n (pc := 93) hx hb dX9_remove_93 rfl (lv_at hl 3 rfl) ?_
            refine r_cVv (pc := 94) (As := [.int vp1]) (rest := []) CX P hl.1 hF kv_X9_99 (fun h1 q => c_X6_dropGroup l G B _ _ _ _ q) rfl rfl ⟨Nat.le_of_ble_eq_true rfl, Nat.le_of_ble_eq_true rfl⟩ (Nat.le_of_ble_eq_true rfl) ⟨Nat.le_of_ble_eq_true rfl, Nat.le_of_ble_eq_true rfl⟩ dX9_remove_94 (fun h20 H locs P hF => ?_)
            refine lv_aload_n (pc := 97) hx hb dX9_remove_97 rfl (lv_at hl 2 rfl) ?_
            refine r_gR (pc := 98) CX P hF fl_X9_10 dX9_remove_98 (fun a21 hF => ?_)
            refine r_gR (pc := 101) CX P hF fl_X9_102 dX9_remove_101 (fun a22 hF => ?_)
            refine lv_iload_n (pc := 104) hx hb dX9_remove_104 rfl (lv_at hl 3 rfl) ?_
            refine r_cVv (pc := 105) (As := [.int vp1]) (rest := []) CX P hl.1 hF kv_X9_106 (fun h1 q => c_X7_dropOf l G B _ _ _ _ q) rfl rfl ⟨Nat.le_of_ble_eq_true rfl, Nat.le_of_ble_eq_true rfl⟩ (Nat.le_of_ble_eq_true rfl) ⟨Nat.le_of_ble_eq_true rfl, Nat.le_of_ble_eq_true rfl⟩ dX9_remove_105 (fun h23 H locs P hF => ?_)
            refine lv_aload_n (pc := 108) hx hb dX9_remove_108 rfl (lv_at hl 2 rfl) ?_
            refine lv_iload_n (pc := 109) hx hb dX9_remove_109 rfl (lv_at hl 0 rfl) ?_
            refine r_cVi (pc := 110) (As := [.int v17]) (rest := []) CX P hl.1 hF kv_X9_85 (fun r h1 q => c_X9_settle l G B _ _ _ _ _ q) rfl rfl ⟨Nat.le_of_ble_eq_true rfl, Nat.le_of_ble_eq_true rfl⟩ (Nat.le_of_ble_eq_true rfl) ⟨Nat.le_of_ble_eq_true rfl, Nat.le_of_ble_eq_true rfl⟩ dX9_remove_110 (fun v24 h25 H locs P hF => ?_)
            replace hF := un_i hF
            cases hF
            exact hret _ _ _ _ P rfl dX9_remove_113
          · rw [if_neg hc] at hF
            refine lv_bipush (pc := 59) (v := (-5)) hx hb dX9_remove_59 (by decide) ?_
            cases hF
            exact hret _ _ _ _ P rfl dX9_remove_61
    replace hF := hA7
    refine lv_icmp_eq (pc := 31) (tgt := 38) hx hb dX9_remove_31 (by decide) (fun hc => ?_) (fun hc => ?_)
    · rw [if_pos hc] at hF
      refine lv_iconst (pc := 38) (v := 0) hx hb dX9_remove_38 (by decide) ?_
      exact hJ7 _ _ _ _ P (lv_sub hl [0, 1] rfl) (Option.some.inj hF)
    · rw [if_neg hc] at hF
      refine lv_iconst (pc := 34) (v := 1) hx hb dX9_remove_34 (by decide) ?_
      refine lv_goto (pc := 35) (tgt := 39) hx hb dX9_remove_35 (by decide) ?_
      exact hJ7 _ _ _ _ P (lv_sub hl [0, 1] rfl) (Option.some.inj hF)
  · rw [if_pos hc] at hF
    refine lv_bipush (pc := 14) (v := (-2)) hx hb dX9_remove_14 (by decide) ?_
    cases hF
    exact hret _ _ _ _ P rfl dX9_remove_16
def F_X9_limit (h : Hp) (a0 : Nat) (vp1 : Int32) (vp2 : Int32) (vp3 : Int32) : Option (Int32 × Hp) :=
(gR h a0 9 0).bind fun a1 =>
(gR h a1 8 0).bind fun a2 =>
(cO h a2 6 (F_X6_has h a2 vp1)).bind fun v3 =>
if v3 = 0 then (
some ((-2), h)) else (
(F_X9_outside h vp2 0 8).bind fun v4 =>
if v4 = 0 then (
(sX 1 vp2).bind fun v5 =>
(sX 2 vp2).bind fun v6 =>
(F_X9_outside h vp3 v5 v6).bind fun v7 =>
if v7 = 0 then (
(gR h a0 9 2).bind fun a8 =>
(gR h a0 9 0).bind fun a9 =>
(cO h a8 4 (F_X4_keep h a8 a9)).bind fun h10 =>
(gR h10 a0 9 5).bind fun a11 =>
(gR h10 a0 9 0).bind fun a12 =>
(cO h10 a11 3 (F_X3_setLimit h10 a11 a12 vp1 vp2 vp3)).bind (un fun v13 h14 =>
(cO h14 a0 9 (F_X9_settle h14 a0 v13)).bind (un fun v15 h16 =>
some (v15, h16)))) else (
some ((-3), h))) else (
some ((-2), h)))
set_option maxRecDepth 100000 in
set_option maxHeartbeats 4000000 in
theorem c_X9_limit (l : Launch) (G : GG) (B : Nat) (h : Hp) (a0 : Nat) (vp1 : Int32) (vp2 : Int32) (vp3 : Int32) (r0 : Int32) (hr : Hp) (hF : F_X9_limit h a0 vp1 vp2 vp3 = some (r0, hr)) : CI l yX9_limit cX9_limit 4 .int 6 184 0 0 G B h [.ref (B + a0), .int vp1, .int vp2, .int vp3] r0 hr := by
  refine ent_i rfl (Nat.le_of_ble_eq_true rfl) ?_
  intro p e s m args below meth c ls Q CX hnm hret P hl
  have CX : Cxt p m c cX9_limit 4 s args RX9 G B := CX
  obtain ⟨⟨hx, hb, hml, hown, hts⟩, -, -⟩ := id CX
  replace hl : lv_has ls 4 [(0, .ref (B + a0)), (1, .int vp1), (2, .int vp2), (3, .int vp3)] := hl
  generalize s.heap = H at P ⊢
  generalize ([] : List Loc) = locs at P ⊢
  unfold F_X9_limit at hF
  refine lv_aload_n (pc := 0) hx hb dX9_limit_0 rfl (lv_at hl 0 rfl) ?_
  refine r_gR (pc := 1) CX P hF fl_X9_10 dX9_limit_1 (fun a1 hF => ?_)
  refine r_gR (pc := 4) CX P hF fl_X9_53 dX9_limit_4 (fun a2 hF => ?_)
  refine lv_iload_n (pc := 7) hx hb dX9_limit_7 rfl (lv_at hl 1 rfl) ?_
  refine r_cVp (pc := 8) (As := [.int vp1]) (rest := []) CX P hl.1 hF kv_X9_57 (fun r q => c_X6_has l G B _ _ _ _ q) rfl rfl ⟨Nat.le_of_ble_eq_true rfl, Nat.le_of_ble_eq_true rfl⟩ (Nat.le_of_ble_eq_true rfl) ⟨Nat.le_of_ble_eq_true rfl, Nat.le_of_ble_eq_true rfl⟩ dX9_limit_8 (fun v3 H locs P hF => ?_)
  refine lv_if_eq (pc := 11) (tgt := 24) hx hb dX9_limit_11 (by decide) (fun hc => ?_) (fun hc => ?_)
  · rw [if_pos hc] at hF
    refine lv_bipush (pc := 24) (v := (-2)) hx hb dX9_limit_24 (by decide) ?_
    cases hF
    exact hret _ _ _ _ P rfl dX9_limit_26
  · rw [if_neg hc] at hF
    refine lv_iload_n (pc := 14) hx hb dX9_limit_14 rfl (lv_at hl 2 rfl) ?_
    refine lv_iconst (pc := 15) (v := 0) hx hb dX9_limit_15 (by decide) ?_
    refine lv_bipush (pc := 16) (v := 8) hx hb dX9_limit_16 (by decide) ?_
    refine r_cSp (pc := 18) (As := [.int vp2, .int 0, .int 8]) (rest := []) CX P hl.1 hF ks_X9_111 (fun r q => c_X9_outside l G B _ _ _ _ _ q) rfl rfl ⟨Nat.le_of_ble_eq_true rfl, Nat.le_of_ble_eq_true rfl⟩ (Nat.le_of_ble_eq_true rfl) ⟨Nat.le_of_ble_eq_true rfl, Nat.le_of_ble_eq_true rfl⟩ dX9_limit_18 (fun v4 H locs P hF => ?_)
    refine lv_if_eq (pc := 21) (tgt := 27) hx hb dX9_limit_21 (by decide) (fun hc => ?_) (fun hc => ?_)
    · rw [if_pos hc] at hF
      refine lv_iload_n (pc := 27) hx hb dX9_limit_27 rfl (lv_at hl 3 rfl) ?_
      refine r_gs (pc := 28) CX P (k := 1) (by decide) (Or.inl tw_440) dX9_limit_28 ?_
      refine lv_iload_n (pc := 31) hx hb dX9_limit_31 rfl (lv_at hl 2 rfl) ?_
      refine r_sX (pc := 32) CX P (by decide) hF dX9_limit_32 (fun v5 hF => ?_)
      refine r_gs (pc := 33) CX P (k := 2) (by decide) (Or.inl tw_442) dX9_limit_33 ?_
      refine lv_iload_n (pc := 36) hx hb dX9_limit_36 rfl (lv_at hl 2 rfl) ?_
      refine r_sX (pc := 37) CX P (by decide) hF dX9_limit_37 (fun v6 hF => ?_)
      refine r_cSp (pc := 38) (As := [.int vp3, .int v5, .int v6]) (rest := []) CX P hl.1 hF ks_X9_111 (fun r q => c_X9_outside l G B _ _ _ _ _ q) rfl rfl ⟨Nat.le_of_ble_eq_true rfl, Nat.le_of_ble_eq_true rfl⟩ (Nat.le_of_ble_eq_true rfl) ⟨Nat.le_of_ble_eq_true rfl, Nat.le_of_ble_eq_true rfl⟩ dX9_limit_38 (fun v7 H locs P hF => ?_)
      refine lv_if_eq (pc := 41) (tgt := 47) hx hb dX9_limit_41 (by decide) (fun hc => ?_) (fun hc => ?_)
      · rw [if_pos hc] at hF
        refine lv_aload_n (pc := 47) hx hb dX9_limit_47 rfl (lv_at hl 0 rfl) ?_
        refine r_gR (pc := 48) CX P hF fl_X9_22 dX9_limit_48 (fun a8 hF => ?_)
        refine lv_aload_n (pc := 51) hx hb dX9_limit_51 rfl (lv_at hl 0 rfl) ?_
        refine r_gR (pc := 52) CX P hF fl_X9_10 dX9_limit_52 (fun a9 hF => ?_)
        refine r_cVv (pc := 55) (As := [.ref (B + a9)]) (rest := []) CX P hl.1 hF kv_X9_67 (fun h1 q => c_X4_keep l G B _ _ _ _ q) rfl rfl ⟨Nat.le_of_ble_eq_true rfl, Nat.le_of_ble_eq_true rfl⟩ (Nat.le_of_ble_eq_true rfl) ⟨Nat.le_of_ble_eq_true rfl, Nat.le_of_ble_eq_true rfl⟩ dX9_limit_55 (fun h10 H locs P hF => ?_)
        refine lv_aload_n (pc := 58) hx hb dX9_limit_58 rfl (lv_at hl 0 rfl) ?_
        refine lv_aload_n (pc := 59) hx hb dX9_limit_59 rfl (lv_at hl 0 rfl) ?_
        refine r_gR (pc := 60) CX P hF fl_X9_42 dX9_limit_60 (fun a11 hF => ?_)
        refine lv_aload_n (pc := 63) hx hb dX9_limit_63 rfl (lv_at hl 0 rfl) ?_
        refine r_gR (pc := 64) CX P hF fl_X9_10 dX9_limit_64 (fun a12 hF => ?_)
        refine lv_iload_n (pc := 67) hx hb dX9_limit_67 rfl (lv_at hl 1 rfl) ?_
        refine lv_iload_n (pc := 68) hx hb dX9_limit_68 rfl (lv_at hl 2 rfl) ?_
        refine lv_iload_n (pc := 69) hx hb dX9_limit_69 rfl (lv_at hl 3 rfl) ?_
        refine r_cVi (pc := 70) (As := [.ref (B + a12), .int vp1, .int vp2, .int vp3]) (rest := [.ref (B + a0)]) CX P hl.1 hF kv_X9_121 (fun r h1 q => c_X3_setLimit l G B _ _ _ _ _ _ _ _ q) rfl rfl ⟨Nat.le_of_ble_eq_true rfl, Nat.le_of_ble_eq_true rfl⟩ (Nat.le_of_ble_eq_true rfl) ⟨Nat.le_of_ble_eq_true rfl, Nat.le_of_ble_eq_true rfl⟩ dX9_limit_70 (fun v13 h14 H locs P hF => ?_)
        replace hF := un_i hF
        refine r_cVi (pc := 73) (As := [.int v13]) (rest := []) CX P hl.1 hF kv_X9_85 (fun r h1 q => c_X9_settle l G B _ _ _ _ _ q) rfl rfl ⟨Nat.le_of_ble_eq_true rfl, Nat.le_of_ble_eq_true rfl⟩ (Nat.le_of_ble_eq_true rfl) ⟨Nat.le_of_ble_eq_true rfl, Nat.le_of_ble_eq_true rfl⟩ dX9_limit_73 (fun v15 h16 H locs P hF => ?_)
        replace hF := un_i hF
        cases hF
        exact hret _ _ _ _ P rfl dX9_limit_76
      · rw [if_neg hc] at hF
        refine lv_bipush (pc := 44) (v := (-3)) hx hb dX9_limit_44 (by decide) ?_
        cases hF
        exact hret _ _ _ _ P rfl dX9_limit_46
    · rw [if_neg hc] at hF
      refine lv_bipush (pc := 24) (v := (-2)) hx hb dX9_limit_24 (by decide) ?_
      cases hF
      exact hret _ _ _ _ P rfl dX9_limit_26
def F_X9_startProcess (h : Hp) (a0 : Nat) (vp1 : Int32) (vp2 : Int32) : Option (Int32 × Hp) :=
(gR h a0 9 0).bind fun a1 =>
(gR h a1 8 1).bind fun a2 =>
(cO h a2 0 (F_X0_firstFree h a2)).bind fun v3 =>
if v3 = (-1) then (
some ((-4), h)) else (
(gR h a0 9 0).bind fun a4 =>
(cO h a4 8 (F_X8_pidsFull h a4 vp1 (-1))).bind fun v5 =>
if v5 = 0 then (
(gR h a0 9 2).bind fun a6 =>
(gR h a0 9 0).bind fun a7 =>
(cO h a6 4 (F_X4_keep h a6 a7)).bind fun h8 =>
(gR h8 a0 9 0).bind fun a9 =>
(gR h8 a9 8 1).bind fun a10 =>
(cO h8 a10 0 (F_X0_putProcess h8 a10 v3 vp1 vp2)).bind fun h11 =>
(cO h11 a0 9 (F_X9_settle h11 a0 v3)).bind (un fun v12 h13 =>
some (v12, h13))) else (
some ((-4), h)))
set_option maxRecDepth 100000 in
set_option maxHeartbeats 4000000 in
theorem c_X9_startProcess (l : Launch) (G : GG) (B : Nat) (h : Hp) (a0 : Nat) (vp1 : Int32) (vp2 : Int32) (r0 : Int32) (hr : Hp) (hF : F_X9_startProcess h a0 vp1 vp2 = some (r0, hr)) : CI l yX9_startProcess cX9_startProcess 4 .int 5 184 0 0 G B h [.ref (B + a0), .int vp1, .int vp2] r0 hr := by
  refine ent_i rfl (Nat.le_of_ble_eq_true rfl) ?_
  intro p e s m args below meth c ls Q CX hnm hret P hl
  have CX : Cxt p m c cX9_startProcess 4 s args RX9 G B := CX
  obtain ⟨⟨hx, hb, hml, hown, hts⟩, -, -⟩ := id CX
  replace hl : lv_has ls 4 [(0, .ref (B + a0)), (1, .int vp1), (2, .int vp2)] := hl
  generalize s.heap = H at P ⊢
  generalize ([] : List Loc) = locs at P ⊢
  unfold F_X9_startProcess at hF
  refine lv_aload_n (pc := 0) hx hb dX9_startProcess_0 rfl (lv_at hl 0 rfl) ?_
  refine r_gR (pc := 1) CX P hF fl_X9_10 dX9_startProcess_1 (fun a1 hF => ?_)
  refine r_gR (pc := 4) CX P hF fl_X9_129 dX9_startProcess_4 (fun a2 hF => ?_)
  refine r_cVp (pc := 7) (As := []) (rest := []) CX P hl.1 hF kv_X9_338 (fun r q => c_X0_firstFree l G B _ _ _ q) rfl rfl ⟨Nat.le_of_ble_eq_true rfl, Nat.le_of_ble_eq_true rfl⟩ (Nat.le_of_ble_eq_true rfl) ⟨Nat.le_of_ble_eq_true rfl, Nat.le_of_ble_eq_true rfl⟩ dX9_startProcess_7 (fun v3 H locs P hF => ?_)
  refine lv_istore_n (pc := 10) hx hb dX9_startProcess_10 rfl hl (by decide) rfl (fun ls hl => ?_)
  replace hl : lv_has ls 4 [(3, .int v3), (0, .ref (B + a0)), (1, .int vp1), (2, .int vp2)] := hl
  refine lv_iload_n (pc := 11) hx hb dX9_startProcess_11 rfl (lv_at hl 0 rfl) ?_
  refine lv_iconst (pc := 12) (v := (-1)) hx hb dX9_startProcess_12 (by decide) ?_
  refine lv_icmp_eq (pc := 13) (tgt := 28) hx hb dX9_startProcess_13 (by decide) (fun hc => ?_) (fun hc => ?_)
  · rw [if_pos hc] at hF
    refine lv_bipush (pc := 28) (v := (-4)) hx hb dX9_startProcess_28 (by decide) ?_
    cases hF
    exact hret _ _ _ _ P rfl dX9_startProcess_30
  · rw [if_neg hc] at hF
    refine lv_aload_n (pc := 16) hx hb dX9_startProcess_16 rfl (lv_at hl 1 rfl) ?_
    refine r_gR (pc := 17) CX P hF fl_X9_10 dX9_startProcess_17 (fun a4 hF => ?_)
    refine lv_iload_n (pc := 20) hx hb dX9_startProcess_20 rfl (lv_at hl 2 rfl) ?_
    refine lv_iconst (pc := 21) (v := (-1)) hx hb dX9_startProcess_21 (by decide) ?_
    refine r_cVp (pc := 22) (As := [.int vp1, .int (-1)]) (rest := []) CX P hl.1 hF kv_X9_339 (fun r q => c_X8_pidsFull l G B _ _ _ _ _ q) rfl rfl ⟨Nat.le_of_ble_eq_true rfl, Nat.le_of_ble_eq_true rfl⟩ (Nat.le_of_ble_eq_true rfl) ⟨Nat.le_of_ble_eq_true rfl, Nat.le_of_ble_eq_true rfl⟩ dX9_startProcess_22 (fun v5 H locs P hF => ?_)
    refine lv_if_eq (pc := 25) (tgt := 31) hx hb dX9_startProcess_25 (by decide) (fun hc => ?_) (fun hc => ?_)
    · rw [if_pos hc] at hF
      refine lv_aload_n (pc := 31) hx hb dX9_startProcess_31 rfl (lv_at hl 1 rfl) ?_
      refine r_gR (pc := 32) CX P hF fl_X9_22 dX9_startProcess_32 (fun a6 hF => ?_)
      refine lv_aload_n (pc := 35) hx hb dX9_startProcess_35 rfl (lv_at hl 1 rfl) ?_
      refine r_gR (pc := 36) CX P hF fl_X9_10 dX9_startProcess_36 (fun a7 hF => ?_)
      refine r_cVv (pc := 39) (As := [.ref (B + a7)]) (rest := []) CX P hl.1 hF kv_X9_67 (fun h1 q => c_X4_keep l G B _ _ _ _ q) rfl rfl ⟨Nat.le_of_ble_eq_true rfl, Nat.le_of_ble_eq_true rfl⟩ (Nat.le_of_ble_eq_true rfl) ⟨Nat.le_of_ble_eq_true rfl, Nat.le_of_ble_eq_true rfl⟩ dX9_startProcess_39 (fun h8 H locs P hF => ?_)
      refine lv_aload_n (pc := 42) hx hb dX9_startProcess_42 rfl (lv_at hl 1 rfl) ?_
      refine r_gR (pc := 43) CX P hF fl_X9_10 dX9_startProcess_43 (fun a9 hF => ?_)
      refine r_gR (pc := 46) CX P hF fl_X9_129 dX9_startProcess_46 (fun a10 hF => ?_)
      refine lv_iload_n (pc := 49) hx hb dX9_startProcess_49 rfl (lv_at hl 0 rfl) ?_
      refine lv_iload_n (pc := 50) hx hb dX9_startProcess_50 rfl (lv_at hl 2 rfl) ?_
      refine lv_iload_n (pc := 51) hx hb dX9_startProcess_51 rfl (lv_at hl 3 rfl) ?_
      refine r_cVv (pc := 52) (As := [.int v3, .int vp1, .int vp2]) (rest := []) CX P hl.1 hF kv_X9_342 (fun h1 q => c_X0_putProcess l G B _ _ _ _ _ _ q) rfl rfl ⟨Nat.le_of_ble_eq_true rfl, Nat.le_of_ble_eq_true rfl⟩ (Nat.le_of_ble_eq_true rfl) ⟨Nat.le_of_ble_eq_true rfl, Nat.le_of_ble_eq_true rfl⟩ dX9_startProcess_52 (fun h11 H locs P hF => ?_)
      refine lv_aload_n (pc := 55) hx hb dX9_startProcess_55 rfl (lv_at hl 1 rfl) ?_
      refine lv_iload_n (pc := 56) hx hb dX9_startProcess_56 rfl (lv_at hl 0 rfl) ?_
      refine r_cVi (pc := 57) (As := [.int v3]) (rest := []) CX P hl.1 hF kv_X9_85 (fun r h1 q => c_X9_settle l G B _ _ _ _ _ q) rfl rfl ⟨Nat.le_of_ble_eq_true rfl, Nat.le_of_ble_eq_true rfl⟩ (Nat.le_of_ble_eq_true rfl) ⟨Nat.le_of_ble_eq_true rfl, Nat.le_of_ble_eq_true rfl⟩ dX9_startProcess_57 (fun v12 h13 H locs P hF => ?_)
      replace hF := un_i hF
      cases hF
      exact hret _ _ _ _ P rfl dX9_startProcess_60
    · rw [if_neg hc] at hF
      refine lv_bipush (pc := 28) (v := (-4)) hx hb dX9_startProcess_28 (by decide) ?_
      cases hF
      exact hret _ _ _ _ P rfl dX9_startProcess_30
def F_X9_process (h : Hp) (a0 : Nat) (vp1 : Int32) (vp2 : Int32) : Option (Int32 × Hp) :=
(gR h a0 9 0).bind fun a1 =>
(gR h a1 8 0).bind fun a2 =>
(cO h a2 6 (F_X6_has h a2 vp1)).bind fun v3 =>
if v3 = 0 then (
some ((-2), h)) else (
(F_X9_outside h vp2 (-10) 10).bind fun v4 =>
if v4 = 0 then (
(cO h a0 9 (F_X9_startProcess h a0 vp1 vp2)).bind (un fun v5 h6 =>
some (v5, h6))) else (
some ((-3), h)))
set_option maxRecDepth 100000 in
set_option maxHeartbeats 4000000 in
theorem c_X9_process (l : Launch) (G : GG) (B : Nat) (h : Hp) (a0 : Nat) (vp1 : Int32) (vp2 : Int32) (r0 : Int32) (hr : Hp) (hF : F_X9_process h a0 vp1 vp2 = some (r0, hr)) : CI l yX9_process cX9_process 3 .int 6 207 0 0 G B h [.ref (B + a0), .int vp1, .int vp2] r0 hr := by
  refine ent_i rfl (Nat.le_of_ble_eq_true rfl) ?_
  intro p e s m args below meth c ls Q CX hnm hret P hl
  have CX : Cxt p m c cX9_process 3 s args RX9 G B := CX
  obtain ⟨⟨hx, hb, hml, hown, hts⟩, -, -⟩ := id CX
  replace hl : lv_has ls 3 [(0, .ref (B + a0)), (1, .int vp1), (2, .int vp2)] := hl
  generalize s.heap = H at P ⊢
  generalize ([] : List Loc) = locs at P ⊢
  unfold F_X9_process at hF
  refine lv_aload_n (pc := 0) hx hb dX9_process_0 rfl (lv_at hl 0 rfl) ?_
  refine r_gR (pc := 1) CX P hF fl_X9_10 dX9_process_1 (fun a1 hF => ?_)
  refine r_gR (pc := 4) CX P hF fl_X9_53 dX9_process_4 (fun a2 hF => ?_)
  refine lv_iload_n (pc := 7) hx hb dX9_process_7 rfl (lv_at hl 1 rfl) ?_
  refine r_cVp (pc := 8) (As := [.int vp1]) (rest := []) CX P hl.1 hF kv_X9_57 (fun r q => c_X6_has l G B _ _ _ _ q) rfl rfl ⟨Nat.le_of_ble_eq_true rfl, Nat.le_of_ble_eq_true rfl⟩ (Nat.le_of_ble_eq_true rfl) ⟨Nat.le_of_ble_eq_true rfl, Nat.le_of_ble_eq_true rfl⟩ dX9_process_8 (fun v3 H locs P hF => ?_)
  refine lv_if_ne (pc := 11) (tgt := 17) hx hb dX9_process_11 (by decide) (fun hc => ?_) (fun hc => ?_)
  · rw [if_neg hc] at hF
    refine lv_iload_n (pc := 17) hx hb dX9_process_17 rfl (lv_at hl 2 rfl) ?_
    refine lv_bipush (pc := 18) (v := (-10)) hx hb dX9_process_18 (by decide) ?_
    refine lv_bipush (pc := 20) (v := 10) hx hb dX9_process_20 (by decide) ?_
    refine r_cSp (pc := 22) (As := [.int vp2, .int (-10), .int 10]) (rest := []) CX P hl.1 hF ks_X9_111 (fun r q => c_X9_outside l G B _ _ _ _ _ q) rfl rfl ⟨Nat.le_of_ble_eq_true rfl, Nat.le_of_ble_eq_true rfl⟩ (Nat.le_of_ble_eq_true rfl) ⟨Nat.le_of_ble_eq_true rfl, Nat.le_of_ble_eq_true rfl⟩ dX9_process_22 (fun v4 H locs P hF => ?_)
    refine lv_if_eq (pc := 25) (tgt := 31) hx hb dX9_process_25 (by decide) (fun hc => ?_) (fun hc => ?_)
    · rw [if_pos hc] at hF
      refine lv_aload_n (pc := 31) hx hb dX9_process_31 rfl (lv_at hl 0 rfl) ?_
      refine lv_iload_n (pc := 32) hx hb dX9_process_32 rfl (lv_at hl 1 rfl) ?_
      refine lv_iload_n (pc := 33) hx hb dX9_process_33 rfl (lv_at hl 2 rfl) ?_
      refine r_cVi (pc := 34) (As := [.int vp1, .int vp2]) (rest := []) CX P hl.1 hF kv_X9_125 (fun r h1 q => c_X9_startProcess l G B _ _ _ _ _ _ q) rfl rfl ⟨Nat.le_of_ble_eq_true rfl, Nat.le_of_ble_eq_true rfl⟩ (Nat.le_of_ble_eq_true rfl) ⟨Nat.le_of_ble_eq_true rfl, Nat.le_of_ble_eq_true rfl⟩ dX9_process_34 (fun v5 h6 H locs P hF => ?_)
      replace hF := un_i hF
      cases hF
      exact hret _ _ _ _ P rfl dX9_process_37
    · rw [if_neg hc] at hF
      refine lv_bipush (pc := 28) (v := (-3)) hx hb dX9_process_28 (by decide) ?_
      cases hF
      exact hret _ _ _ _ P rfl dX9_process_30
  · rw [if_pos hc] at hF
    refine lv_bipush (pc := 14) (v := (-2)) hx hb dX9_process_14 (by decide) ?_
    cases hF
    exact hret _ _ _ _ P rfl dX9_process_16
def F_X9_fork (h : Hp) (a0 : Nat) (vp1 : Int32) : Option (Int32 × Hp) :=
(gR h a0 9 0).bind fun a1 =>
(gR h a1 8 1).bind fun a2 =>
(cO h a2 0 (F_X0_has h a2 vp1)).bind fun v3 =>
if v3 = 0 then (
some ((-2), h)) else (
(gR h a0 9 0).bind fun a4 =>
(gR h a4 8 1).bind fun a5 =>
(gR h a5 0 0).bind fun a6 =>
(aI h a6 vp1).bind fun v7 =>
(gR h a0 9 0).bind fun a8 =>
(gR h a8 8 1).bind fun a9 =>
(gR h a9 0 1).bind fun a10 =>
(aI h a10 vp1).bind fun v11 =>
(cO h a0 9 (F_X9_startProcess h a0 v7 v11)).bind (un fun v12 h13 =>
some (v12, h13)))
set_option maxRecDepth 100000 in
set_option maxHeartbeats 4000000 in
theorem c_X9_fork (l : Launch) (G : GG) (B : Nat) (h : Hp) (a0 : Nat) (vp1 : Int32) (r0 : Int32) (hr : Hp) (hF : F_X9_fork h a0 vp1 = some (r0, hr)) : CI l yX9_fork cX9_fork 2 .int 6 207 0 0 G B h [.ref (B + a0), .int vp1] r0 hr := by
  refine ent_i rfl (Nat.le_of_ble_eq_true rfl) ?_
  intro p e s m args below meth c ls Q CX hnm hret P hl
  have CX : Cxt p m c cX9_fork 2 s args RX9 G B := CX
  obtain ⟨⟨hx, hb, hml, hown, hts⟩, -, -⟩ := id CX
  replace hl : lv_has ls 2 [(0, .ref (B + a0)), (1, .int vp1)] := hl
  generalize s.heap = H at P ⊢
  generalize ([] : List Loc) = locs at P ⊢
  unfold F_X9_fork at hF
  refine lv_aload_n (pc := 0) hx hb dX9_fork_0 rfl (lv_at hl 0 rfl) ?_
  refine r_gR (pc := 1) CX P hF fl_X9_10 dX9_fork_1 (fun a1 hF => ?_)
  refine r_gR (pc := 4) CX P hF fl_X9_129 dX9_fork_4 (fun a2 hF => ?_)
  refine lv_iload_n (pc := 7) hx hb dX9_fork_7 rfl (lv_at hl 1 rfl) ?_
  refine r_cVp (pc := 8) (As := [.int vp1]) (rest := []) CX P hl.1 hF kv_X9_133 (fun r q => c_X0_has l G B _ _ _ _ q) rfl rfl ⟨Nat.le_of_ble_eq_true rfl, Nat.le_of_ble_eq_true rfl⟩ (Nat.le_of_ble_eq_true rfl) ⟨Nat.le_of_ble_eq_true rfl, Nat.le_of_ble_eq_true rfl⟩ dX9_fork_8 (fun v3 H locs P hF => ?_)
  refine lv_if_ne (pc := 11) (tgt := 17) hx hb dX9_fork_11 (by decide) (fun hc => ?_) (fun hc => ?_)
  · rw [if_neg hc] at hF
    refine lv_aload_n (pc := 17) hx hb dX9_fork_17 rfl (lv_at hl 0 rfl) ?_
    refine lv_aload_n (pc := 18) hx hb dX9_fork_18 rfl (lv_at hl 0 rfl) ?_
    refine r_gR (pc := 19) CX P hF fl_X9_10 dX9_fork_19 (fun a4 hF => ?_)
    refine r_gR (pc := 22) CX P hF fl_X9_129 dX9_fork_22 (fun a5 hF => ?_)
    refine r_gR (pc := 25) CX P hF fl_X9_136 dX9_fork_25 (fun a6 hF => ?_)
    refine lv_iload_n (pc := 28) hx hb dX9_fork_28 rfl (lv_at hl 1 rfl) ?_
    refine r_aI (pc := 29) CX P hF dX9_fork_29 (fun v7 hF => ?_)
    refine lv_aload_n (pc := 30) hx hb dX9_fork_30 rfl (lv_at hl 0 rfl) ?_
    refine r_gR (pc := 31) CX P hF fl_X9_10 dX9_fork_31 (fun a8 hF => ?_)
    refine r_gR (pc := 34) CX P hF fl_X9_129 dX9_fork_34 (fun a9 hF => ?_)
    refine r_gR (pc := 37) CX P hF fl_X9_139 dX9_fork_37 (fun a10 hF => ?_)
    refine lv_iload_n (pc := 40) hx hb dX9_fork_40 rfl (lv_at hl 1 rfl) ?_
    refine r_aI (pc := 41) CX P hF dX9_fork_41 (fun v11 hF => ?_)
    refine r_cVi (pc := 42) (As := [.int v7, .int v11]) (rest := []) CX P hl.1 hF kv_X9_125 (fun r h1 q => c_X9_startProcess l G B _ _ _ _ _ _ q) rfl rfl ⟨Nat.le_of_ble_eq_true rfl, Nat.le_of_ble_eq_true rfl⟩ (Nat.le_of_ble_eq_true rfl) ⟨Nat.le_of_ble_eq_true rfl, Nat.le_of_ble_eq_true rfl⟩ dX9_fork_42 (fun v12 h13 H locs P hF => ?_)
    replace hF := un_i hF
    cases hF
    exact hret _ _ _ _ P rfl dX9_fork_45
  · rw [if_pos hc] at hF
    refine lv_bipush (pc := 14) (v := (-2)) hx hb dX9_fork_14 (by decide) ?_
    cases hF
    exact hret _ _ _ _ P rfl dX9_fork_16
def F_X9_wrongCharge (h : Hp) (a0 : Nat) (vp1 : Int32) (vp2 : Int32) (vp3 : Int32) : Option (Int32) :=
(gR h a0 9 0).bind fun a1 =>
(gR h a1 8 1).bind fun a2 =>
(cO h a2 0 (F_X0_has h a2 vp1)).bind fun v3 =>
if v3 = 0 then (
some (-2)) else (
(F_X9_outside h vp2 0 1).bind fun v4 =>
if v4 = 0 then (
(F_X9_outside h vp3 1 99).bind fun v5 =>
if v5 = 0 then (
some 0) else (
some (-3))) else (
some (-3)))
set_option maxRecDepth 100000 in
set_option maxHeartbeats 4000000 in
theorem c_X9_wrongCharge (l : Launch) (G : GG) (B : Nat) (h : Hp) (a0 : Nat) (vp1 : Int32) (vp2 : Int32) (vp3 : Int32) (r0 : Int32) (hF : F_X9_wrongCharge h a0 vp1 vp2 vp3 = some r0) : CI l yX9_wrongCharge cX9_wrongCharge 4 .int 1 22 0 0 G B h [.ref (B + a0), .int vp1, .int vp2, .int vp3] r0 h := by
  refine ent_i rfl (Nat.le_of_ble_eq_true rfl) ?_
  intro p e s m args below meth c ls Q CX hnm hret P hl
  have CX : Cxt p m c cX9_wrongCharge 4 s args RX9 G B := CX
  obtain ⟨⟨hx, hb, hml, hown, hts⟩, -, -⟩ := id CX
  replace hl : lv_has ls 4 [(0, .ref (B + a0)), (1, .int vp1), (2, .int vp2), (3, .int vp3)] := hl
  generalize s.heap = H at P ⊢
  generalize ([] : List Loc) = locs at P ⊢
  unfold F_X9_wrongCharge at hF
  refine lv_aload_n (pc := 0) hx hb dX9_wrongCharge_0 rfl (lv_at hl 0 rfl) ?_
  refine r_gR (pc := 1) CX P hF fl_X9_10 dX9_wrongCharge_1 (fun a1 hF => ?_)
  refine r_gR (pc := 4) CX P hF fl_X9_129 dX9_wrongCharge_4 (fun a2 hF => ?_)
  refine lv_iload_n (pc := 7) hx hb dX9_wrongCharge_7 rfl (lv_at hl 1 rfl) ?_
  refine r_cVp (pc := 8) (As := [.int vp1]) (rest := []) CX P hl.1 hF kv_X9_133 (fun r q => c_X0_has l G B _ _ _ _ q) rfl rfl ⟨Nat.le_of_ble_eq_true rfl, Nat.le_of_ble_eq_true rfl⟩ (Nat.le_of_ble_eq_true rfl) ⟨Nat.le_of_ble_eq_true rfl, Nat.le_of_ble_eq_true rfl⟩ dX9_wrongCharge_8 (fun v3 H locs P hF => ?_)
  refine lv_if_ne (pc := 11) (tgt := 17) hx hb dX9_wrongCharge_11 (by decide) (fun hc => ?_) (fun hc => ?_)
  · rw [if_neg hc] at hF
    refine lv_iload_n (pc := 17) hx hb dX9_wrongCharge_17 rfl (lv_at hl 2 rfl) ?_
    refine lv_iconst (pc := 18) (v := 0) hx hb dX9_wrongCharge_18 (by decide) ?_
    refine lv_iconst (pc := 19) (v := 1) hx hb dX9_wrongCharge_19 (by decide) ?_
    refine r_cSp (pc := 20) (As := [.int vp2, .int 0, .int 1]) (rest := []) CX P hl.1 hF ks_X9_111 (fun r q => c_X9_outside l G B _ _ _ _ _ q) rfl rfl ⟨Nat.le_of_ble_eq_true rfl, Nat.le_of_ble_eq_true rfl⟩ (Nat.le_of_ble_eq_true rfl) ⟨Nat.le_of_ble_eq_true rfl, Nat.le_of_ble_eq_true rfl⟩ dX9_wrongCharge_20 (fun v4 H locs P hF => ?_)
    refine lv_if_ne (pc := 23) (tgt := 36) hx hb dX9_wrongCharge_23 (by decide) (fun hc => ?_) (fun hc => ?_)
    · rw [if_neg hc] at hF
      refine lv_bipush (pc := 36) (v := (-3)) hx hb dX9_wrongCharge_36 (by decide) ?_
      refine lv_goto (pc := 38) (tgt := 42) hx hb dX9_wrongCharge_38 (by decide) ?_
      cases hF
      exact hret _ _ _ _ P rfl dX9_wrongCharge_42
    · rw [if_pos hc] at hF
      refine lv_iload_n (pc := 26) hx hb dX9_wrongCharge_26 rfl (lv_at hl 3 rfl) ?_
      refine lv_iconst (pc := 27) (v := 1) hx hb dX9_wrongCharge_27 (by decide) ?_
      refine lv_bipush (pc := 28) (v := 99) hx hb dX9_wrongCharge_28 (by decide) ?_
      refine r_cSp (pc := 30) (As := [.int vp3, .int 1, .int 99]) (rest := []) CX P hl.1 hF ks_X9_111 (fun r q => c_X9_outside l G B _ _ _ _ _ q) rfl rfl ⟨Nat.le_of_ble_eq_true rfl, Nat.le_of_ble_eq_true rfl⟩ (Nat.le_of_ble_eq_true rfl) ⟨Nat.le_of_ble_eq_true rfl, Nat.le_of_ble_eq_true rfl⟩ dX9_wrongCharge_30 (fun v5 H locs P hF => ?_)
      refine lv_if_eq (pc := 33) (tgt := 41) hx hb dX9_wrongCharge_33 (by decide) (fun hc => ?_) (fun hc => ?_)
      · rw [if_pos hc] at hF
        refine lv_iconst (pc := 41) (v := 0) hx hb dX9_wrongCharge_41 (by decide) ?_
        cases hF
        exact hret _ _ _ _ P rfl dX9_wrongCharge_42
      · rw [if_neg hc] at hF
        refine lv_bipush (pc := 36) (v := (-3)) hx hb dX9_wrongCharge_36 (by decide) ?_
        refine lv_goto (pc := 38) (tgt := 42) hx hb dX9_wrongCharge_38 (by decide) ?_
        cases hF
        exact hret _ _ _ _ P rfl dX9_wrongCharge_42
  · rw [if_pos hc] at hF
    refine lv_bipush (pc := 14) (v := (-2)) hx hb dX9_wrongCharge_14 (by decide) ?_
    cases hF
    exact hret _ _ _ _ P rfl dX9_wrongCharge_16
def F_X9_charge (h : Hp) (a0 : Nat) (vp1 : Int32) (vp2 : Int32) (vp3 : Int32) : Option (Int32 × Hp) :=
(cO h a0 9 (F_X9_wrongCharge h a0 vp1 vp2 vp3)).bind fun v1 =>
if v1 = 0 then (
(gR h a0 9 2).bind fun a2 =>
(gR h a0 9 0).bind fun a3 =>
(cO h a2 4 (F_X4_keep h a2 a3)).bind fun h4 =>
(gR h4 a0 9 5).bind fun a5 =>
(gR h4 a0 9 0).bind fun a6 =>
(gR h4 a0 9 5).bind fun a7 =>
(gR h4 a0 9 0).bind fun a8 =>
(cO h4 a7 3 (F_X3_admit h4 a7 a8 vp1 vp2 vp3)).bind (un fun v9 h10 =>
(cO h10 a5 3 (F_X3_pressToHigh h10 a5 a6 vp1 v9)).bind (un fun v11 h12 =>
(cO h12 a0 9 (F_X9_settle h12 a0 v11)).bind (un fun v13 h14 =>
some (v13, h14))))) else (
some (v1, h))
set_option maxRecDepth 100000 in
set_option maxHeartbeats 4000000 in
theorem c_X9_charge (l : Launch) (G : GG) (B : Nat) (h : Hp) (a0 : Nat) (vp1 : Int32) (vp2 : Int32) (vp3 : Int32) (r0 : Int32) (hr : Hp) (hF : F_X9_charge h a0 vp1 vp2 vp3 = some (r0, hr)) : CI l yX9_charge cX9_charge 5 .int 7 206 0 0 G B h [.ref (B + a0), .int vp1, .int vp2, .int vp3] r0 hr := by
  refine ent_i rfl (Nat.le_of_ble_eq_true rfl) ?_
  intro p e s m args below meth c ls Q CX hnm hret P hl
  have CX : Cxt p m c cX9_charge 5 s args RX9 G B := CX
  obtain ⟨⟨hx, hb, hml, hown, hts⟩, -, -⟩ := id CX
  replace hl : lv_has ls 5 [(0, .ref (B + a0)), (1, .int vp1), (2, .int vp2), (3, .int vp3)] := hl
  generalize s.heap = H at P ⊢
  generalize ([] : List Loc) = locs at P ⊢
  unfold F_X9_charge at hF
  refine lv_aload_n (pc := 0) hx hb dX9_charge_0 rfl (lv_at hl 0 rfl) ?_
  refine lv_iload_n (pc := 1) hx hb dX9_charge_1 rfl (lv_at hl 1 rfl) ?_
  refine lv_iload_n (pc := 2) hx hb dX9_charge_2 rfl (lv_at hl 2 rfl) ?_
  refine lv_iload_n (pc := 3) hx hb dX9_charge_3 rfl (lv_at hl 3 rfl) ?_
  refine r_cVp (pc := 4) (As := [.int vp1, .int vp2, .int vp3]) (rest := []) CX P hl.1 hF kv_X9_142 (fun r q => c_X9_wrongCharge l G B _ _ _ _ _ _ q) rfl rfl ⟨Nat.le_of_ble_eq_true rfl, Nat.le_of_ble_eq_true rfl⟩ (Nat.le_of_ble_eq_true rfl) ⟨Nat.le_of_ble_eq_true rfl, Nat.le_of_ble_eq_true rfl⟩ dX9_charge_4 (fun v1 H locs P hF => ?_)
  refine lv_istore (pc := 7) hx hb dX9_charge_7 hl (by decide) rfl (fun ls hl => ?_)
  replace hl : lv_has ls 5 [(4, .int v1), (0, .ref (B + a0)), (1, .int vp1), (2, .int vp2), (3, .int vp3)] := hl
  refine lv_iload (pc := 9) hx hb dX9_charge_9 (lv_at hl 0 rfl) ?_
  refine lv_if_eq (pc := 11) (tgt := 17) hx hb dX9_charge_11 (by decide) (fun hc => ?_) (fun hc => ?_)
  · rw [if_pos hc] at hF
    refine lv_aload_n (pc := 17) hx hb dX9_charge_17 rfl (lv_at hl 1 rfl) ?_
    refine r_gR (pc := 18) CX P hF fl_X9_22 dX9_charge_18 (fun a2 hF => ?_)
    refine lv_aload_n (pc := 21) hx hb dX9_charge_21 rfl (lv_at hl 1 rfl) ?_
    refine r_gR (pc := 22) CX P hF fl_X9_10 dX9_charge_22 (fun a3 hF => ?_)
    refine r_cVv (pc := 25) (As := [.ref (B + a3)]) (rest := []) CX P hl.1 hF kv_X9_67 (fun h1 q => c_X4_keep l G B _ _ _ _ q) rfl rfl ⟨Nat.le_of_ble_eq_true rfl, Nat.le_of_ble_eq_true rfl⟩ (Nat.le_of_ble_eq_true rfl) ⟨Nat.le_of_ble_eq_true rfl, Nat.le_of_ble_eq_true rfl⟩ dX9_charge_25 (fun h4 H locs P hF => ?_)
    refine lv_aload_n (pc := 28) hx hb dX9_charge_28 rfl (lv_at hl 1 rfl) ?_
    refine lv_aload_n (pc := 29) hx hb dX9_charge_29 rfl (lv_at hl 1 rfl) ?_
    refine r_gR (pc := 30) CX P hF fl_X9_42 dX9_charge_30 (fun a5 hF => ?_)
    refine lv_aload_n (pc := 33) hx hb dX9_charge_33 rfl (lv_at hl 1 rfl) ?_
    refine r_gR (pc := 34) CX P hF fl_X9_10 dX9_charge_34 (fun a6 hF => ?_)
    refine lv_iload_n (pc := 37) hx hb dX9_charge_37 rfl (lv_at hl 2 rfl) ?_
    refine lv_aload_n (pc := 38) hx hb dX9_charge_38 rfl (lv_at hl 1 rfl) ?_
    refine r_gR (pc := 39) CX P hF fl_X9_42 dX9_charge_39 (fun a7 hF => ?_)
    refine lv_aload_n (pc := 42) hx hb dX9_charge_42 rfl (lv_at hl 1 rfl) ?_
    refine r_gR (pc := 43) CX P hF fl_X9_10 dX9_charge_43 (fun a8 hF => ?_)
    refine lv_iload_n (pc := 46) hx hb dX9_charge_46 rfl (lv_at hl 2 rfl) ?_
    refine lv_iload_n (pc := 47) hx hb dX9_charge_47 rfl (lv_at hl 3 rfl) ?_
    refine lv_iload_n (pc := 48) hx hb dX9_charge_48 rfl (lv_at hl 4 rfl) ?_
    refine r_cVi (pc := 49) (As := [.ref (B + a8), .int vp1, .int vp2, .int vp3]) (rest := [.int vp1, .ref (B + a6), .ref (B + a5), .ref (B + a0)]) CX P hl.1 hF kv_X9_146 (fun r h1 q => c_X3_admit l G B _ _ _ _ _ _ _ _ q) rfl rfl ⟨Nat.le_of_ble_eq_true rfl, Nat.le_of_ble_eq_true rfl⟩ (Nat.le_of_ble_eq_true rfl) ⟨Nat.le_of_ble_eq_true rfl, Nat.le_of_ble_eq_true rfl⟩ dX9_charge_49 (fun v9 h10 H locs P hF => ?_)
    replace hF := un_i hF
    refine r_cVi (pc := 52) (As := [.ref (B + a6), .int vp1, .int v9]) (rest := [.ref (B + a0)]) CX P hl.1 hF kv_X9_149 (fun r h1 q => c_X3_pressToHigh l G B _ _ _ _ _ _ _ q) rfl rfl ⟨Nat.le_of_ble_eq_true rfl, Nat.le_of_ble_eq_true rfl⟩ (Nat.le_of_ble_eq_true rfl) ⟨Nat.le_of_ble_eq_true rfl, Nat.le_of_ble_eq_true rfl⟩ dX9_charge_52 (fun v11 h12 H locs P hF => ?_)
    replace hF := un_i hF
    refine r_cVi (pc := 55) (As := [.int v11]) (rest := []) CX P hl.1 hF kv_X9_85 (fun r h1 q => c_X9_settle l G B _ _ _ _ _ q) rfl rfl ⟨Nat.le_of_ble_eq_true rfl, Nat.le_of_ble_eq_true rfl⟩ (Nat.le_of_ble_eq_true rfl) ⟨Nat.le_of_ble_eq_true rfl, Nat.le_of_ble_eq_true rfl⟩ dX9_charge_55 (fun v13 h14 H locs P hF => ?_)
    replace hF := un_i hF
    cases hF
    exact hret _ _ _ _ P rfl dX9_charge_58
  · rw [if_neg hc] at hF
    refine lv_iload (pc := 14) hx hb dX9_charge_14 (lv_at hl 0 rfl) ?_
    cases hF
    exact hret _ _ _ _ P rfl dX9_charge_16
def F_X9_uncharge (h : Hp) (a0 : Nat) (vp1 : Int32) (vp2 : Int32) (vp3 : Int32) : Option (Int32 × Hp) :=
(cO h a0 9 (F_X9_wrongCharge h a0 vp1 vp2 vp3)).bind fun v1 =>
if v1 = 0 then (
(gR h a0 9 0).bind fun a2 =>
(gR h a2 8 1).bind fun a3 =>
(gR h a3 0 2).bind fun a4 =>
(aR h a4 15 vp2).bind fun a5 =>
(aI h a5 vp1).bind fun v6 =>
if vp3 ≤ v6 then (
(gR h a0 9 2).bind fun a7 =>
(gR h a0 9 0).bind fun a8 =>
(cO h a7 4 (F_X4_keep h a7 a8)).bind fun h9 =>
(gR h9 a0 9 0).bind fun a10 =>
(cO h9 a10 8 (F_X8_giveBack h9 a10 vp1 vp2 vp3)).bind fun h11 =>
(gR h11 a0 9 0).bind fun a12 =>
(gR h11 a12 8 1).bind fun a13 =>
(gR h11 a13 0 2).bind fun a14 =>
(aR h11 a14 15 vp2).bind fun a15 =>
(aI h11 a15 vp1).bind fun v16 =>
(cO h11 a0 9 (F_X9_settle h11 a0 v16)).bind (un fun v17 h18 =>
some (v17, h18))) else (
some ((-4), h))) else (
some (v1, h))
set_option maxRecDepth 100000 in
set_option maxHeartbeats 4000000 in
theorem c_X9_uncharge (l : Launch) (G : GG) (B : Nat) (h : Hp) (a0 : Nat) (vp1 : Int32) (vp2 : Int32) (vp3 : Int32) (r0 : Int32) (hr : Hp) (hF : F_X9_uncharge h a0 vp1 vp2 vp3 = some (r0, hr)) : CI l yX9_uncharge cX9_uncharge 5 .int 5 184 0 0 G B h [.ref (B + a0), .int vp1, .int vp2, .int vp3] r0 hr := by
  refine ent_i rfl (Nat.le_of_ble_eq_true rfl) ?_
  intro p e s m args below meth c ls Q CX hnm hret P hl
  have CX : Cxt p m c cX9_uncharge 5 s args RX9 G B := CX
  obtain ⟨⟨hx, hb, hml, hown, hts⟩, -, -⟩ := id CX
  replace hl : lv_has ls 5 [(0, .ref (B + a0)), (1, .int vp1), (2, .int vp2), (3, .int vp3)] := hl
  generalize s.heap = H at P ⊢
  generalize ([] : List Loc) = locs at P ⊢
  unfold F_X9_uncharge at hF
  refine lv_aload_n (pc := 0) hx hb dX9_uncharge_0 rfl (lv_at hl 0 rfl) ?_
  refine lv_iload_n (pc := 1) hx hb dX9_uncharge_1 rfl (lv_at hl 1 rfl) ?_
  refine lv_iload_n (pc := 2) hx hb dX9_uncharge_2 rfl (lv_at hl 2 rfl) ?_
  refine lv_iload_n (pc := 3) hx hb dX9_uncharge_3 rfl (lv_at hl 3 rfl) ?_
  refine r_cVp (pc := 4) (As := [.int vp1, .int vp2, .int vp3]) (rest := []) CX P hl.1 hF kv_X9_142 (fun r q => c_X9_wrongCharge l G B _ _ _ _ _ _ q) rfl rfl ⟨Nat.le_of_ble_eq_true rfl, Nat.le_of_ble_eq_true rfl⟩ (Nat.le_of_ble_eq_true rfl) ⟨Nat.le_of_ble_eq_true rfl, Nat.le_of_ble_eq_true rfl⟩ dX9_uncharge_4 (fun v1 H locs P hF => ?_)
  refine lv_istore (pc := 7) hx hb dX9_uncharge_7 hl (by decide) rfl (fun ls hl => ?_)
  replace hl : lv_has ls 5 [(4, .int v1), (0, .ref (B + a0)), (1, .int vp1), (2, .int vp2), (3, .int vp3)] := hl
  refine lv_iload (pc := 9) hx hb dX9_uncharge_9 (lv_at hl 0 rfl) ?_
  refine lv_if_eq (pc := 11) (tgt := 17) hx hb dX9_uncharge_11 (by decide) (fun hc => ?_) (fun hc => ?_)
  · rw [if_pos hc] at hF
    refine lv_aload_n (pc := 17) hx hb dX9_uncharge_17 rfl (lv_at hl 1 rfl) ?_
    refine r_gR (pc := 18) CX P hF fl_X9_10 dX9_uncharge_18 (fun a2 hF => ?_)
    refine r_gR (pc := 21) CX P hF fl_X9_129 dX9_uncharge_21 (fun a3 hF => ?_)
    refine r_gR (pc := 24) CX P hF fl_X9_153 dX9_uncharge_24 (fun a4 hF => ?_)
    refine lv_iload_n (pc := 27) hx hb dX9_uncharge_27 rfl (lv_at hl 3 rfl) ?_
    refine r_aR (pc := 28) CX P hF (Or.inr (Or.inl rfl)) dX9_uncharge_28 (fun a5 hF => ?_)
    refine lv_iload_n (pc := 29) hx hb dX9_uncharge_29 rfl (lv_at hl 2 rfl) ?_
    refine r_aI (pc := 30) CX P hF dX9_uncharge_30 (fun v6 hF => ?_)
    refine lv_iload_n (pc := 31) hx hb dX9_uncharge_31 rfl (lv_at hl 4 rfl) ?_
    refine lv_icmp_ge (pc := 32) (tgt := 38) hx hb dX9_uncharge_32 (by decide) (fun hc => ?_) (fun hc => ?_)
    · rw [if_pos hc] at hF
      refine lv_aload_n (pc := 38) hx hb dX9_uncharge_38 rfl (lv_at hl 1 rfl) ?_
      refine r_gR (pc := 39) CX P hF fl_X9_22 dX9_uncharge_39 (fun a7 hF => ?_)
      refine lv_aload_n (pc := 42) hx hb dX9_uncharge_42 rfl (lv_at hl 1 rfl) ?_
      refine r_gR (pc := 43) CX P hF fl_X9_10 dX9_uncharge_43 (fun a8 hF => ?_)
      refine r_cVv (pc := 46) (As := [.ref (B + a8)]) (rest := []) CX P hl.1 hF kv_X9_67 (fun h1 q => c_X4_keep l G B _ _ _ _ q) rfl rfl ⟨Nat.le_of_ble_eq_true rfl, Nat.le_of_ble_eq_true rfl⟩ (Nat.le_of_ble_eq_true rfl) ⟨Nat.le_of_ble_eq_true rfl, Nat.le_of_ble_eq_true rfl⟩ dX9_uncharge_46 (fun h9 H locs P hF => ?_)
      refine lv_aload_n (pc := 49) hx hb dX9_uncharge_49 rfl (lv_at hl 1 rfl) ?_
      refine r_gR (pc := 50) CX P hF fl_X9_10 dX9_uncharge_50 (fun a10 hF => ?_)
      refine lv_iload_n (pc := 53) hx hb dX9_uncharge_53 rfl (lv_at hl 2 rfl) ?_
      refine lv_iload_n (pc := 54) hx hb dX9_uncharge_54 rfl (lv_at hl 3 rfl) ?_
      refine lv_iload_n (pc := 55) hx hb dX9_uncharge_55 rfl (lv_at hl 4 rfl) ?_
      refine r_cVv (pc := 56) (As := [.int vp1, .int vp2, .int vp3]) (rest := []) CX P hl.1 hF kv_X9_157 (fun h1 q => c_X8_giveBack l G B _ _ _ _ _ _ q) rfl rfl ⟨Nat.le_of_ble_eq_true rfl, Nat.le_of_ble_eq_true rfl⟩ (Nat.le_of_ble_eq_true rfl) ⟨Nat.le_of_ble_eq_true rfl, Nat.le_of_ble_eq_true rfl⟩ dX9_uncharge_56 (fun h11 H locs P hF => ?_)
      refine lv_aload_n (pc := 59) hx hb dX9_uncharge_59 rfl (lv_at hl 1 rfl) ?_
      refine lv_aload_n (pc := 60) hx hb dX9_uncharge_60 rfl (lv_at hl 1 rfl) ?_
      refine r_gR (pc := 61) CX P hF fl_X9_10 dX9_uncharge_61 (fun a12 hF => ?_)
      refine r_gR (pc := 64) CX P hF fl_X9_129 dX9_uncharge_64 (fun a13 hF => ?_)
      refine r_gR (pc := 67) CX P hF fl_X9_153 dX9_uncharge_67 (fun a14 hF => ?_)
      refine lv_iload_n (pc := 70) hx hb dX9_uncharge_70 rfl (lv_at hl 3 rfl) ?_
      refine r_aR (pc := 71) CX P hF (Or.inr (Or.inl rfl)) dX9_uncharge_71 (fun a15 hF => ?_)
      refine lv_iload_n (pc := 72) hx hb dX9_uncharge_72 rfl (lv_at hl 2 rfl) ?_
      refine r_aI (pc := 73) CX P hF dX9_uncharge_73 (fun v16 hF => ?_)
      refine r_cVi (pc := 74) (As := [.int v16]) (rest := []) CX P hl.1 hF kv_X9_85 (fun r h1 q => c_X9_settle l G B _ _ _ _ _ q) rfl rfl ⟨Nat.le_of_ble_eq_true rfl, Nat.le_of_ble_eq_true rfl⟩ (Nat.le_of_ble_eq_true rfl) ⟨Nat.le_of_ble_eq_true rfl, Nat.le_of_ble_eq_true rfl⟩ dX9_uncharge_74 (fun v17 h18 H locs P hF => ?_)
      replace hF := un_i hF
      cases hF
      exact hret _ _ _ _ P rfl dX9_uncharge_77
    · rw [if_neg hc] at hF
      refine lv_bipush (pc := 35) (v := (-4)) hx hb dX9_uncharge_35 (by decide) ?_
      cases hF
      exact hret _ _ _ _ P rfl dX9_uncharge_37
  · rw [if_neg hc] at hF
    refine lv_iload (pc := 14) hx hb dX9_uncharge_14 (lv_at hl 0 rfl) ?_
    cases hF
    exact hret _ _ _ _ P rfl dX9_uncharge_16
