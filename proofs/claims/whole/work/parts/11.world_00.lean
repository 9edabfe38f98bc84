def F_X8_init (h : Hp) (a0 : Nat) : Option (Hp) :=
bl (nwO h 6) fun h1 =>
(F_X6_init h1 (mN h)).bind fun h2 =>
(pR h2 a0 8 0 (mN h)).bind fun h3 =>
bl (nwO h3 0) fun h4 =>
(F_X0_init h4 (mN h3)).bind fun h5 =>
(pR h5 a0 8 1 (mN h3)).bind fun h6 =>
bl (nwO h6 1) fun h7 =>
(F_X1_init h7 (mN h6)).bind fun h8 =>
(pR h8 a0 8 2 (mN h6)).bind fun h9 =>
bl (nwO h9 7) fun h10 =>
(F_X7_init h10 (mN h9)).bind fun h11 =>
(pR h11 a0 8 3 (mN h9)).bind fun h12 =>
(pI h12 a0 8 4 4).bind fun h13 =>
(pI h13 a0 8 5 0).bind fun h14 =>
(pI h14 a0 8 6 10).bind fun h15 =>
(pI h15 a0 8 7 0).bind fun h16 =>
some h16
set_option maxRecDepth 100000 in
set_option maxHeartbeats 4000000 in
theorem c_X8_init (l : Launch) (G : GG) (B : Nat) (h : Hp) (a0 : Nat) (hr : Hp) (hF : F_X8_init h a0 = some hr) : CV l yX8_init cX8_init 1 2 59 56 606 G B h [.ref (B + a0)] hr := by
  refine ent_v rfl (Nat.le_of_ble_eq_true rfl) ?_
  intro p e s m args below meth c ls Q CX hnm hret P hl
  have CX : Cxt p m c cX8_init 1 s args RX8 G B := CX
  obtain ⟨⟨hx, hb, hml, hown, hts⟩, -, -⟩ := id CX
  replace hl : lv_has ls 1 [(0, .ref (B + a0))] := hl
  generalize s.heap = H at P ⊢
  generalize ([] : List Loc) = locs at P ⊢
  unfold F_X8_init at hF
  refine lv_aload_n (pc := 0) hx hb dX8_init_0 rfl (lv_at hl 0 rfl) ?_
  refine r_obj (pc := 1) CX hl.1 tw_30 tw_23 tw_24 (Nat.le_of_ble_eq_true rfl) (Nat.le_of_ble_eq_true rfl) dX8_init_1 ?_
  refine lv_aload_n (pc := 4) hx hb dX8_init_4 rfl (lv_at hl 0 rfl) ?_
  refine r_nwO (pc := 5) CX P hF cl_X8_9 (Nat.le_of_ble_eq_true rfl) (Nat.le_of_ble_eq_true rfl) dX8_init_5 (fun h1 H eN P hF => ?_)
  refine lv_dup (pc := 8) hx hb dX8_init_8 rfl ?_
  refine r_cO (pc := 9) (As := []) (rest := [.ref (B + (mN h)), .ref (B + a0)]) CX P hl.1 hF ko_X8_11 (fun h1 q => c_X6_init l G B _ _ _ q) rfl rfl ⟨Nat.le_of_ble_eq_true rfl, Nat.le_of_ble_eq_true rfl⟩ (Nat.le_of_ble_eq_true rfl) ⟨Nat.le_of_ble_eq_true rfl, Nat.le_of_ble_eq_true rfl⟩ dX8_init_9 (fun h2 H locs P hF => ?_)
  refine r_pR (pc := 12) CX P hnm hF fl_X8_12 (fun q hq => by cases hq; rfl) dX8_init_12 (fun h3 H locs P hF => ?_)
  refine lv_aload_n (pc := 15) hx hb dX8_init_15 rfl (lv_at hl 0 rfl) ?_
  refine r_nwO (pc := 16) CX P hF cl_X8_18 (Nat.le_of_ble_eq_true rfl) (Nat.le_of_ble_eq_true rfl) dX8_init_16 (fun h4 H eN P hF => ?_)
  refine lv_dup (pc := 19) hx hb dX8_init_19 rfl ?_
  refine r_cO (pc := 20) (As := []) (rest := [.ref (B + (mN h3)), .ref (B + a0)]) CX P hl.1 hF ko_X8_20 (fun h1 q => c_X0_init l G B _ _ _ q) rfl rfl ⟨Nat.le_of_ble_eq_true rfl, Nat.le_of_ble_eq_true rfl⟩ (Nat.le_of_ble_eq_true rfl) ⟨Nat.le_of_ble_eq_true rfl, Nat.le_of_ble_eq_true rfl⟩ dX8_init_20 (fun h5 H locs P hF => ?_)
  refine r_pR (pc := 23) CX P hnm hF fl_X8_21 (fun q hq => by cases hq; rfl) dX8_init_23 (fun h6 H locs P hF => ?_)
  refine lv_aload_n (pc := 26) hx hb dX8_init_26 rfl (lv_at hl 0 rfl) ?_
  refine r_nwO (pc := 27) CX P hF cl_X8_25 (Nat.le_of_ble_eq_true rfl) (Nat.le_of_ble_eq_true rfl) dX8_init_27 (fun h7 H eN P hF => ?_)
  refine lv_dup (pc := 30) hx hb dX8_init_30 rfl ?_
  refine r_cO (pc := 31) (As := []) (rest := [.ref (B + (mN h6)), .ref (B + a0)]) CX P hl.1 hF ko_X8_27 (fun h1 q => c_X1_init l G B _ _ _ q) rfl rfl ⟨Nat.le_of_ble_eq_true rfl, Nat.le_of_ble_eq_true rfl⟩ (Nat.le_of_ble_eq_true rfl) ⟨Nat.le_of_ble_eq_true rfl, Nat.le_of_ble_eq_true rfl⟩ dX8_init_31 (fun h8 H locs P hF => ?_)
  refine r_pR (pc := 34) CX P hnm hF fl_X8_28 (fun q hq => by cases hq; rfl) dX8_init_34 (fun h9 H locs P hF => ?_)
  refine lv_aload_n (pc := 37) hx hb dX8_init_37 rfl (lv_at hl 0 rfl) ?_
  refine r_nwO (pc := 38) CX P hF cl_X8_32 (Nat.le_of_ble_eq_true rfl) (Nat.le_of_ble_eq_true rfl) dX8_init_38 (fun h10 H eN P hF => ?_)
  refine lv_dup (pc := 41) hx hb dX8_init_41 rfl ?_
  refine r_cO (pc := 42) (As := []) (rest := [.ref (B + (mN h9)), .ref (B + a0)]) CX P hl.1 hF ko_X8_34 (fun h1 q => c_X7_init l G B _ _ _ q) rfl rfl ⟨Nat.le_of_ble_eq_true rfl, Nat.le_of_ble_eq_true rfl⟩ (Nat.le_of_ble_eq_true rfl) ⟨Nat.le_of_ble_eq_true rfl, Nat.le_of_ble_eq_true rfl⟩ dX8_init_42 (fun h11 H locs P hF => ?_)
  refine r_pR (pc := 45) CX P hnm hF fl_X8_35 (fun q hq => by cases hq; rfl) dX8_init_45 (fun h12 H locs P hF => ?_)
  refine lv_aload_n (pc := 48) hx hb dX8_init_48 rfl (lv_at hl 0 rfl) ?_
  refine lv_iconst (pc := 49) (v := 4) hx hb dX8_init_49 (by decide) ?_
  refine r_pI (pc := 50) CX P hF fl_X8_39 dX8_init_50 (fun h13 H locs P hF => ?_)
  refine lv_aload_n (pc := 53) hx hb dX8_init_53 rfl (lv_at hl 0 rfl) ?_
  refine lv_iconst (pc := 54) (v := 0) hx hb dX8_init_54 (by decide) ?_
  refine r_pI (pc := 55) CX P hF fl_X8_43 dX8_init_55 (fun h14 H locs P hF => ?_)
  refine lv_aload_n (pc := 58) hx hb dX8_init_58 rfl (lv_at hl 0 rfl) ?_
  refine lv_bipush (pc := 59) (v := 10) hx hb dX8_init_59 (by decide) ?_
  refine r_pI (pc := 61) CX P hF fl_X8_46 dX8_init_61 (fun h15 H locs P hF => ?_)
  refine lv_aload_n (pc := 64) hx hb dX8_init_64 rfl (lv_at hl 0 rfl) ?_
  refine lv_iconst (pc := 65) (v := 0) hx hb dX8_init_65 (by decide) ?_
  refine r_pI (pc := 66) CX P hF fl_X8_49 dX8_init_66 (fun h16 H locs P hF => ?_)
  cases hF
  exact hret _ _ _ _ P dX8_init_69
def F_X8_copyFrom (h : Hp) (a0 : Nat) (ap1 : Nat) : Option (Hp) :=
(gR h a0 8 0).bind fun a1 =>
(gR h ap1 8 0).bind fun a2 =>
(cO h a1 6 (F_X6_copyFrom h a1 a2)).bind fun h3 =>
(gR h3 a0 8 1).bind fun a4 =>
(gR h3 ap1 8 1).bind fun a5 =>
(cO h3 a4 0 (F_X0_copyFrom h3 a4 a5)).bind fun h6 =>
(gR h6 a0 8 2).bind fun a7 =>
(gR h6 ap1 8 2).bind fun a8 =>
(cO h6 a7 1 (F_X1_copyFrom h6 a7 a8)).bind fun h9 =>
(gR h9 a0 8 3).bind fun a10 =>
(gR h9 ap1 8 3).bind fun a11 =>
(cO h9 a10 7 (F_X7_copyFrom h9 a10 a11)).bind fun h12 =>
(gI h12 ap1 8 4).bind fun v13 =>
(pI h12 a0 8 4 v13).bind fun h14 =>
(gI h14 ap1 8 5).bind fun v15 =>
(pI h14 a0 8 5 v15).bind fun h16 =>
(gI h16 ap1 8 6).bind fun v17 =>
(pI h16 a0 8 6 v17).bind fun h18 =>
(gI h18 ap1 8 7).bind fun v19 =>
(pI h18 a0 8 7 v19).bind fun h20 =>
some h20
set_option maxRecDepth 100000 in
set_option maxHeartbeats 4000000 in
theorem c_X8_copyFrom (l : Launch) (G : GG) (B : Nat) (h : Hp) (a0 : Nat) (ap1 : Nat) (hr : Hp) (hF : F_X8_copyFrom h a0 ap1 = some hr) : CV l yX8_copyFrom cX8_copyFrom 2 2 121 0 0 G B h [.ref (B + a0), .ref (B + ap1)] hr := by
  refine ent_v rfl (Nat.le_of_ble_eq_true rfl) ?_
  intro p e s m args below meth c ls Q CX hnm hret P hl
  have CX : Cxt p m c cX8_copyFrom 2 s args RX8 G B := CX
  obtain ⟨⟨hx, hb, hml, hown, hts⟩, -, -⟩ := id CX
  replace hl : lv_has ls 2 [(0, .ref (B + a0)), (1, .ref (B + ap1))] := hl
  generalize s.heap = H at P ⊢
  generalize ([] : List Loc) = locs at P ⊢
  unfold F_X8_copyFrom at hF
  refine lv_aload_n (pc := 0) hx hb dX8_copyFrom_0 rfl (lv_at hl 0 rfl) ?_
  refine r_gR (pc := 1) CX P hF fl_X8_12 dX8_copyFrom_1 (fun a1 hF => ?_)
  refine lv_aload_n (pc := 4) hx hb dX8_copyFrom_4 rfl (lv_at hl 1 rfl) ?_
  refine r_gR (pc := 5) CX P hF fl_X8_12 dX8_copyFrom_5 (fun a2 hF => ?_)
  refine r_cVv (pc := 8) (As := [.ref (B + a2)]) (rest := []) CX P hl.1 hF kv_X8_52 (fun h1 q => c_X6_copyFrom l G B _ _ _ _ q) rfl rfl ⟨Nat.le_of_ble_eq_true rfl, Nat.le_of_ble_eq_true rfl⟩ (Nat.le_of_ble_eq_true rfl) ⟨Nat.le_of_ble_eq_true rfl, Nat.le_of_ble_eq_true rfl⟩ dX8_copyFrom_8 (fun h3 H locs P hF => ?_)
  refine lv_aload_n (pc := 11) hx hb dX8_copyFrom_11 rfl (lv_at hl 0 rfl) ?_
  refine r_gR (pc := 12) CX P hF fl_X8_21 dX8_copyFrom_12 (fun a4 hF => ?_)
  refine lv_aload_n (pc := 15) hx hb dX8_copyFrom_15 rfl (lv_at hl 1 rfl) ?_
  refine r_gR (pc := 16) CX P hF fl_X8_21 dX8_copyFrom_16 (fun a5 hF => ?_)
  refine r_cVv (pc := 19) (As := [.ref (B + a5)]) (rest := []) CX P hl.1 hF kv_X8_56 (fun h1 q => c_X0_copyFrom l G B _ _ _ _ q) rfl rfl ⟨Nat.le_of_ble_eq_true rfl, Nat.le_of_ble_eq_true rfl⟩ (Nat.le_of_ble_eq_true rfl) ⟨Nat.le_of_ble_eq_true rfl, Nat.le_of_ble_eq_true rfl⟩ dX8_copyFrom_19 (fun h6 H locs P hF => ?_)
  refine lv_aload_n (pc := 22) hx hb dX8_copyFrom_22 rfl (lv_at hl 0 rfl) ?_
  refine r_gR (pc := 23) CX P hF fl_X8_28 dX8_copyFrom_23 (fun a7 hF => ?_)
  refine lv_aload_n (pc := 26) hx hb dX8_copyFrom_26 rfl (lv_at hl 1 rfl) ?_
  refine r_gR (pc := 27) CX P hF fl_X8_28 dX8_copyFrom_27 (fun a8 hF => ?_)
  refine r_cVv (pc := 30) (As := [.ref (B + a8)]) (rest := []) CX P hl.1 hF kv_X8_59 (fun h1 q => c_X1_copyFrom l G B _ _ _ _ q) rfl rfl ⟨Nat.le_of_ble_eq_true rfl, Nat.le_of_ble_eq_true rfl⟩ (Nat.le_of_ble_eq_true rfl) ⟨Nat.le_of_ble_eq_true rfl, Nat.le_of_ble_eq_true rfl⟩ dX8_copyFrom_30 (fun h9 H locs P hF => ?_)
  refine lv_aload_n (pc := 33) hx hb dX8_copyFrom_33 rfl (lv_at hl 0 rfl) ?_
  refine r_gR (pc := 34) CX P hF fl_X8_35 dX8_copyFrom_34 (fun a10 hF => ?_)
  refine lv_aload_n (pc := 37) hx hb dX8_copyFrom_37 rfl (lv_at hl 1 rfl) ?_
  refine r_gR (pc := 38) CX P hF fl_X8_35 dX8_copyFrom_38 (fun a11 hF => ?_)
  refine r_cVv (pc := 41) (As := [.ref (B + a11)]) (rest := []) CX P hl.1 hF kv_X8_62 (fun h1 q => c_X7_copyFrom l G B _ _ _ _ q) rfl rfl ⟨Nat.le_of_ble_eq_true rfl, Nat.le_of_ble_eq_true rfl⟩ (Nat.le_of_ble_eq_true rfl) ⟨Nat.le_of_ble_eq_true rfl, Nat.le_of_ble_eq_true rfl⟩ dX8_copyFrom_41 (fun h12 H locs P hF => ?_)
  refine lv_aload_n (pc := 44) hx hb dX8_copyFrom_44 rfl (lv_at hl 0 rfl) ?_
  refine lv_aload_n (pc := 45) hx hb dX8_copyFrom_45 rfl (lv_at hl 1 rfl) ?_
  refine r_gI (pc := 46) CX P hF fl_X8_39 dX8_copyFrom_46 (fun v13 hF => ?_)
  refine r_pI (pc := 49) CX P hF fl_X8_39 dX8_copyFrom_49 (fun h14 H locs P hF => ?_)
  refine lv_aload_n (pc := 52) hx hb dX8_copyFrom_52 rfl (lv_at hl 0 rfl) ?_
  refine lv_aload_n (pc := 53) hx hb dX8_copyFrom_53 rfl (lv_at hl 1 rfl) ?_
  refine r_gI (pc := 54) CX P hF fl_X8_43 dX8_copyFrom_54 (fun v15 hF => ?_)
  refine r_pI (pc := 57) CX P hF fl_X8_43 dX8_copyFrom_57 (fun h16 H locs P hF => ?_)
  refine lv_aload_n (pc := 60) hx hb dX8_copyFrom_60 rfl (lv_at hl 0 rfl) ?_
  refine lv_aload_n (pc := 61) hx hb dX8_copyFrom_61 rfl (lv_at hl 1 rfl) ?_
  refine r_gI (pc := 62) CX P hF fl_X8_46 dX8_copyFrom_62 (fun v17 hF => ?_)
  refine r_pI (pc := 65) CX P hF fl_X8_46 dX8_copyFrom_65 (fun h18 H locs P hF => ?_)
  refine lv_aload_n (pc := 68) hx hb dX8_copyFrom_68 rfl (lv_at hl 0 rfl) ?_
  refine lv_aload_n (pc := 69) hx hb dX8_copyFrom_69 rfl (lv_at hl 1 rfl) ?_
  refine r_gI (pc := 70) CX P hF fl_X8_49 dX8_copyFrom_70 (fun v19 hF => ?_)
  refine r_pI (pc := 73) CX P hF fl_X8_49 dX8_copyFrom_73 (fun h20 H locs P hF => ?_)
  cases hF
  exact hret _ _ _ _ P dX8_copyFrom_76
def F_X8_bitsOfProcesses_L14 (h8 : Hp) (a4 : Nat) (v5 : Int32) (v6 : Int32) (v7 : Int32) : Option ((Int32 × Int32) ⊕ (Int32)) :=
if 16 ≤ v7 then (
some (.inr v6)) else (
(gR h8 a4 8 1).bind fun a9 =>
(gR h8 a9 0 0).bind fun a10 =>
(aI h8 a10 v7).bind fun v11 =>
if v11 = (-1) then (
bl (v7 + 1) fun v12 =>
some (.inl (v6, v12))) else (
(gR h8 a4 8 1).bind fun a13 =>
(gR h8 a13 0 0).bind fun a14 =>
(aI h8 a14 v7).bind fun v15 =>
if ((v5 >>> (v15 &&& 31)) &&& 1) = 1 then (
bl (v6 ||| (1 <<< (v7 &&& 31))) fun v17 =>
bl (v7 + 1) fun v18 =>
some (.inl (v17, v18))) else (
bl (v7 + 1) fun v16 =>
some (.inl (v6, v16)))))
def F_X8_bitsOfProcesses (h : Hp) (a0 : Nat) (vp1 : Int32) : Option (Int32) :=
(gR h a0 8 0).bind fun a1 =>
(cO h a1 6 (F_X6_bitsBelow h a1 vp1)).bind fun v2 =>
(loopF (fun x => F_X8_bitsOfProcesses_L14 h a0 v2 x.1 x.2) 6000 (0, 0)).bind fun v19 =>
some v19
set_option maxRecDepth 100000 in
set_option maxHeartbeats 4000000 in
theorem c_X8_bitsOfProcesses (l : Launch) (G : GG) (B : Nat) (h : Hp) (a0 : Nat) (vp1 : Int32) (r0 : Int32) (hF : F_X8_bitsOfProcesses h a0 vp1 = some r0) : CI l yX8_bitsOfProcesses cX8_bitsOfProcesses 5 .int 1 23 0 0 G B h [.ref (B + a0), .int vp1] r0 h := by
  refine ent_i rfl (Nat.le_of_ble_eq_true rfl) ?_
  intro p e s m args below meth c ls Q CX hnm hret P hl
  have CX : Cxt p m c cX8_bitsOfProcesses 5 s args RX8 G B := CX
  obtain ⟨⟨hx, hb, hml, hown, hts⟩, -, -⟩ := id CX
  replace hl : lv_has ls 5 [(0, .ref (B + a0)), (1, .int vp1)] := hl
  generalize s.heap = H at P ⊢
  generalize ([] : List Loc) = locs at P ⊢
  unfold F_X8_bitsOfProcesses at hF
  refine lv_aload_n (pc := 0) hx hb dX8_bitsOfProcesses_0 rfl (lv_at hl 0 rfl) ?_
  refine r_gR (pc := 1) CX P hF fl_X8_12 dX8_bitsOfProcesses_1 (fun a1 hF => ?_)
  refine lv_iload_n (pc := 4) hx hb dX8_bitsOfProcesses_4 rfl (lv_at hl 1 rfl) ?_
  refine r_cVp (pc := 5) (As := [.int vp1]) (rest := []) CX P hl.1 hF kv_X8_65 (fun r q => c_X6_bitsBelow l G B _ _ _ _ q) rfl rfl ⟨Nat.le_of_ble_eq_true rfl, Nat.le_of_ble_eq_true rfl⟩ (Nat.le_of_ble_eq_true rfl) ⟨Nat.le_of_ble_eq_true rfl, Nat.le_of_ble_eq_true rfl⟩ dX8_bitsOfProcesses_5 (fun v2 H locs P hF => ?_)
  refine lv_istore_n (pc := 8) hx hb dX8_bitsOfProcesses_8 rfl hl (by decide) rfl (fun ls hl => ?_)
  replace hl : lv_has ls 5 [(2, .int v2), (0, .ref (B + a0)), (1, .int vp1)] := hl
  refine lv_iconst (pc := 9) (v := 0) hx hb dX8_bitsOfProcesses_9 (by decide) ?_
  refine lv_istore_n (pc := 10) hx hb dX8_bitsOfProcesses_10 rfl hl (by decide) rfl (fun ls hl => ?_)
  replace hl : lv_has ls 5 [(3, .int 0), (2, .int v2), (0, .ref (B + a0)), (1, .int vp1)] := hl
  refine lv_iconst (pc := 11) (v := 0) hx hb dX8_bitsOfProcesses_11 (by decide) ?_
  refine lv_istore (pc := 12) hx hb dX8_bitsOfProcesses_12 hl (by decide) rfl (fun ls hl => ?_)
  replace hl : lv_has ls 5 [(4, .int 0), (3, .int 0), (2, .int v2), (0, .ref (B + a0)), (1, .int vp1)] := hl
  obtain ⟨r3, hLp3, hK3⟩ := bd_some hF
  have hX3 : ∀ (v19 : Int32) (H : Heap) (locs : List Loc) (ls : Array Slot), Pic G B h s H locs → lv_has ls 5 [(3, .int v19)] → v19 = r3 → W p l e (rmM 1 23 0 0) s m args below meth c H locs 0 0 Q (F0 m 66 ls []) := by
    intro v19 H locs ls P hl er
    subst er
    have hF := hK3
    refine lv_iload_n (pc := 66) hx hb dX8_bitsOfProcesses_66 rfl (lv_at hl 0 rfl) ?_
    cases hF
    exact hret _ _ _ _ P rfl dX8_bitsOfProcesses_67
  have hL3 : ∀ (n : Nat) (v6 : Int32) (v7 : Int32) (H : Heap) (locs : List Loc) (ls : Array Slot), Pic G B h s H locs → lv_has ls 5 [(0, .ref (B + a0)), (2, .int v2), (3, .int v6), (4, .int v7)] → loopF (fun x => F_X8_bitsOfProcesses_L14 h a0 v2 x.1 x.2) n (v6, v7) = some r3 → W p l e (rmM 1 23 0 0) s m args below meth c H locs 0 0 Q (F0 m 14 ls []) := by
    intro n
    induction n with
    | zero => intro v6 v7 H locs ls P hl hq; cases hq
    | succ n ih =>
      intro v6 v7 H locs ls P hl hq
      obtain ⟨z3, hS3, hI3, hR3⟩ := loop_some hq
      have hF : F_X8_bitsOfProcesses_L14 h a0 v2 v6 v7 = some z3 := hS3
      unfold F_X8_bitsOfProcesses_L14 at hF
      refine lv_iload (pc := 14) hx hb dX8_bitsOfProcesses_14 (lv_at hl 3 rfl) ?_
      refine lv_bipush (pc := 16) (v := 16) hx hb dX8_bitsOfProcesses_16 (by decide) ?_
      refine lv_icmp_ge (pc := 18) (tgt := 66) hx hb dX8_bitsOfProcesses_18 (by decide) (fun hc => ?_) (fun hc => ?_)
      · rw [if_pos hc] at hF
        exact hX3 _ _ _ _ P (lv_sub hl [2] rfl) (hR3 _ (Option.some.inj hF).symm)
      · rw [if_neg hc] at hF
        refine lv_aload_n (pc := 21) hx hb dX8_bitsOfProcesses_21 rfl (lv_at hl 0 rfl) ?_
        refine r_gR (pc := 22) CX P hF fl_X8_21 dX8_bitsOfProcesses_22 (fun a9 hF => ?_)
        refine r_gR (pc := 25) CX P hF fl_X8_69 dX8_bitsOfProcesses_25 (fun a10 hF => ?_)
        refine lv_iload (pc := 28) hx hb dX8_bitsOfProcesses_28 (lv_at hl 3 rfl) ?_
        refine r_aI (pc := 30) CX P hF dX8_bitsOfProcesses_30 (fun v11 hF => ?_)
        refine lv_iconst (pc := 31) (v := (-1)) hx hb dX8_bitsOfProcesses_31 (by decide) ?_
        refine lv_icmp_eq (pc := 32) (tgt := 60) hx hb dX8_bitsOfProcesses_32 (by decide) (fun hc => ?_) (fun hc => ?_)
        · rw [if_pos hc] at hF
          obtain ⟨v12, ev12, hF⟩ := bl_o hF
          refine lv_iinc (pc := 60) (k := 3) (v := v12) hx hb dX8_bitsOfProcesses_60 hl rfl ev12 (by decide) rfl (fun ls hl => ?_)
          replace hl : lv_has ls 5 [(4, .int v12), (0, .ref (B + a0)), (2, .int v2), (3, .int v6)] := hl
          refine lv_goto (pc := 63) (tgt := 14) hx hb dX8_bitsOfProcesses_63 (by decide) ?_
          exact ih _ _ _ _ _ P (lv_sub hl [1, 2, 3, 0] rfl) (hI3 _ (Option.some.inj hF).symm)
        · rw [if_neg hc] at hF
          refine lv_iload_n (pc := 35) hx hb dX8_bitsOfProcesses_35 rfl (lv_at hl 1 rfl) ?_
          refine lv_aload_n (pc := 36) hx hb dX8_bitsOfProcesses_36 rfl (lv_at hl 0 rfl) ?_
          refine r_gR (pc := 37) CX P hF fl_X8_21 dX8_bitsOfProcesses_37 (fun a13 hF => ?_)
          refine r_gR (pc := 40) CX P hF fl_X8_69 dX8_bitsOfProcesses_40 (fun a14 hF => ?_)
          refine lv_iload (pc := 43) hx hb dX8_bitsOfProcesses_43 (lv_at hl 3 rfl) ?_
          refine r_aI (pc := 45) CX P hF dX8_bitsOfProcesses_45 (fun v15 hF => ?_)
          refine lv_ishr (pc := 46) hx hb dX8_bitsOfProcesses_46 ?_
          refine lv_iconst (pc := 47) (v := 1) hx hb dX8_bitsOfProcesses_47 (by decide) ?_
          refine lv_iand (pc := 48) hx hb dX8_bitsOfProcesses_48 ?_
          refine lv_iconst (pc := 49) (v := 1) hx hb dX8_bitsOfProcesses_49 (by decide) ?_
          refine lv_icmp_ne (pc := 50) (tgt := 60) hx hb dX8_bitsOfProcesses_50 (by decide) (fun hc => ?_) (fun hc => ?_)
          · rw [if_neg hc] at hF
            obtain ⟨v16, ev16, hF⟩ := bl_o hF
            refine lv_iinc (pc := 60) (k := 3) (v := v16) hx hb dX8_bitsOfProcesses_60 hl rfl ev16 (by decide) rfl (fun ls hl => ?_)
            replace hl : lv_has ls 5 [(4, .int v16), (0, .ref (B + a0)), (2, .int v2), (3, .int v6)] := hl
            refine lv_goto (pc := 63) (tgt := 14) hx hb dX8_bitsOfProcesses_63 (by decide) ?_
            exact ih _ _ _ _ _ P (lv_sub hl [1, 2, 3, 0] rfl) (hI3 _ (Option.some.inj hF).symm)
          · rw [if_pos hc] at hF
            refine lv_iload_n (pc := 53) hx hb dX8_bitsOfProcesses_53 rfl (lv_at hl 2 rfl) ?_
            refine lv_iconst (pc := 54) (v := 1) hx hb dX8_bitsOfProcesses_54 (by decide) ?_
            refine lv_iload (pc := 55) hx hb dX8_bitsOfProcesses_55 (lv_at hl 3 rfl) ?_
            refine lv_ishl (pc := 57) hx hb dX8_bitsOfProcesses_57 ?_
            refine lv_ior (pc := 58) hx hb dX8_bitsOfProcesses_58 ?_
            refine lv_topi (fun v17 ev17 => ?_)
            replace hF := bl_e hF ev17
            refine lv_istore_n (pc := 59) hx hb dX8_bitsOfProcesses_59 rfl hl (by decide) rfl (fun ls hl => ?_)
            replace hl : lv_has ls 5 [(3, .int v17), (0, .ref (B + a0)), (2, .int v2), (4, .int v7)] := hl
            obtain ⟨v18, ev18, hF⟩ := bl_o hF
            refine lv_iinc (pc := 60) (k := 3) (v := v18) hx hb dX8_bitsOfProcesses_60 hl rfl ev18 (by decide) rfl (fun ls hl => ?_)
            replace hl : lv_has ls 5 [(4, .int v18), (3, .int v17), (0, .ref (B + a0)), (2, .int v2)] := hl
            refine lv_goto (pc := 63) (tgt := 14) hx hb dX8_bitsOfProcesses_63 (by decide) ?_
            exact ih _ _ _ _ _ P (lv_sub hl [2, 3, 1, 0] rfl) (hI3 _ (Option.some.inj hF).symm)
  exact hL3 _ _ _ _ _ _ P (lv_sub hl [3, 2, 1, 0] rfl) hLp3
def F_X8_addPages (h : Hp) (a0 : Nat) (vp1 : Int32) (vp2 : Int32) (vp3 : Int32) : Option (Hp) :=
(gR h a0 8 1).bind fun a1 =>
(gR h a1 0 2).bind fun a2 =>
(aR h a2 15 vp2).bind fun a3 =>
(aI h a3 vp1).bind fun v4 =>
(sI h a3 vp1 (v4 + vp3)).bind fun h5 =>
(gR h5 a0 8 0).bind fun a6 =>
(gR h5 a0 8 1).bind fun a7 =>
(gR h5 a7 0 0).bind fun a8 =>
(aI h5 a8 vp1).bind fun v9 =>
(cO h5 a6 6 (F_X6_addTotal h5 a6 v9 vp3)).bind fun h10 =>
some h10
set_option maxRecDepth 100000 in
set_option maxHeartbeats 4000000 in
theorem c_X8_addPages (l : Launch) (G : GG) (B : Nat) (h : Hp) (a0 : Nat) (vp1 : Int32) (vp2 : Int32) (vp3 : Int32) (hr : Hp) (hF : F_X8_addPages h a0 vp1 vp2 vp3 = some hr) : CV l yX8_addPages cX8_addPages 4 1 24 0 0 G B h [.ref (B + a0), .int vp1, .int vp2, .int vp3] hr := by
  refine ent_v rfl (Nat.le_of_ble_eq_true rfl) ?_
  intro p e s m args below meth c ls Q CX hnm hret P hl
  have CX : Cxt p m c cX8_addPages 4 s args RX8 G B := CX
  obtain ⟨⟨hx, hb, hml, hown, hts⟩, -, -⟩ := id CX
  replace hl : lv_has ls 4 [(0, .ref (B + a0)), (1, .int vp1), (2, .int vp2), (3, .int vp3)] := hl
  generalize s.heap = H at P ⊢
  generalize ([] : List Loc) = locs at P ⊢
  unfold F_X8_addPages at hF
  refine lv_aload_n (pc := 0) hx hb dX8_addPages_0 rfl (lv_at hl 0 rfl) ?_
  refine r_gR (pc := 1) CX P hF fl_X8_21 dX8_addPages_1 (fun a1 hF => ?_)
  refine r_gR (pc := 4) CX P hF fl_X8_88 dX8_addPages_4 (fun a2 hF => ?_)
  refine lv_iload_n (pc := 7) hx hb dX8_addPages_7 rfl (lv_at hl 2 rfl) ?_
  refine r_aR (pc := 8) CX P hF (Or.inr (Or.inl rfl)) dX8_addPages_8 (fun a3 hF => ?_)
  refine lv_iload_n (pc := 9) hx hb dX8_addPages_9 rfl (lv_at hl 1 rfl) ?_
  refine lv_dup2_11 (pc := 10) hx hb dX8_addPages_10 rfl rfl ?_
  refine r_aI (pc := 11) CX P hF dX8_addPages_11 (fun v4 hF => ?_)
  refine lv_iload_n (pc := 12) hx hb dX8_addPages_12 rfl (lv_at hl 3 rfl) ?_
  refine lv_iadd (pc := 13) hx hb dX8_addPages_13 ?_
  refine r_sI (pc := 14) CX P hF dX8_addPages_14 (fun h5 H locs P hF => ?_)
  refine lv_aload_n (pc := 15) hx hb dX8_addPages_15 rfl (lv_at hl 0 rfl) ?_
  refine r_gR (pc := 16) CX P hF fl_X8_12 dX8_addPages_16 (fun a6 hF => ?_)
  refine lv_aload_n (pc := 19) hx hb dX8_addPages_19 rfl (lv_at hl 0 rfl) ?_
  refine r_gR (pc := 20) CX P hF fl_X8_21 dX8_addPages_20 (fun a7 hF => ?_)
  refine r_gR (pc := 23) CX P hF fl_X8_69 dX8_addPages_23 (fun a8 hF => ?_)
  refine lv_iload_n (pc := 26) hx hb dX8_addPages_26 rfl (lv_at hl 1 rfl) ?_
  refine r_aI (pc := 27) CX P hF dX8_addPages_27 (fun v9 hF => ?_)
  refine lv_iload_n (pc := 28) hx hb dX8_addPages_28 rfl (lv_at hl 3 rfl) ?_
  refine r_cVv (pc := 29) (As := [.int v9, .int vp3]) (rest := []) CX P hl.1 hF kv_X8_91 (fun h1 q => c_X6_addTotal l G B _ _ _ _ _ q) rfl rfl ⟨Nat.le_of_ble_eq_true rfl, Nat.le_of_ble_eq_true rfl⟩ (Nat.le_of_ble_eq_true rfl) ⟨Nat.le_of_ble_eq_true rfl, Nat.le_of_ble_eq_true rfl⟩ dX8_addPages_29 (fun h10 H locs P hF => ?_)
  cases hF
  exact hret _ _ _ _ P dX8_addPages_32
def F_X8_swapOut (h : Hp) (a0 : Nat) (vp1 : Int32) (vp2 : Int32) : Option (Hp) :=
(gR h a0 8 1).bind fun a1 =>
(gR h a1 0 3).bind fun a2 =>
(aI h a2 vp1).bind fun v3 =>
(sI h a2 vp1 (v3 + vp2)).bind fun h4 =>
(gR h4 a0 8 0).bind fun a5 =>
(gR h4 a0 8 1).bind fun a6 =>
(gR h4 a6 0 0).bind fun a7 =>
(aI h4 a7 vp1).bind fun v8 =>
(cO h4 a5 6 (F_X6_addOut h4 a5 v8 vp2)).bind fun h9 =>
some h9
set_option maxRecDepth 100000 in
set_option maxHeartbeats 4000000 in
theorem c_X8_swapOut (l : Launch) (G : GG) (B : Nat) (h : Hp) (a0 : Nat) (vp1 : Int32) (vp2 : Int32) (hr : Hp) (hF : F_X8_swapOut h a0 vp1 vp2 = some hr) : CV l yX8_swapOut cX8_swapOut 3 1 24 0 0 G B h [.ref (B + a0), .int vp1, .int vp2] hr := by
  refine ent_v rfl (Nat.le_of_ble_eq_true rfl) ?_
  intro p e s m args below meth c ls Q CX hnm hret P hl
  have CX : Cxt p m c cX8_swapOut 3 s args RX8 G B := CX
  obtain ⟨⟨hx, hb, hml, hown, hts⟩, -, -⟩ := id CX
  replace hl : lv_has ls 3 [(0, .ref (B + a0)), (1, .int vp1), (2, .int vp2)] := hl
  generalize s.heap = H at P ⊢
  generalize ([] : List Loc) = locs at P ⊢
  unfold F_X8_swapOut at hF
  refine lv_aload_n (pc := 0) hx hb dX8_swapOut_0 rfl (lv_at hl 0 rfl) ?_
  refine r_gR (pc := 1) CX P hF fl_X8_21 dX8_swapOut_1 (fun a1 hF => ?_)
  refine r_gR (pc := 4) CX P hF fl_X8_95 dX8_swapOut_4 (fun a2 hF => ?_)
  refine lv_iload_n (pc := 7) hx hb dX8_swapOut_7 rfl (lv_at hl 1 rfl) ?_
  refine lv_dup2_11 (pc := 8) hx hb dX8_swapOut_8 rfl rfl ?_
  refine r_aI (pc := 9) CX P hF dX8_swapOut_9 (fun v3 hF => ?_)
  refine lv_iload_n (pc := 10) hx hb dX8_swapOut_10 rfl (lv_at hl 2 rfl) ?_
  refine lv_iadd (pc := 11) hx hb dX8_swapOut_11 ?_
  refine r_sI (pc := 12) CX P hF dX8_swapOut_12 (fun h4 H locs P hF => ?_)
  refine lv_aload_n (pc := 13) hx hb dX8_swapOut_13 rfl (lv_at hl 0 rfl) ?_
  refine r_gR (pc := 14) CX P hF fl_X8_12 dX8_swapOut_14 (fun a5 hF => ?_)
  refine lv_aload_n (pc := 17) hx hb dX8_swapOut_17 rfl (lv_at hl 0 rfl) ?_
  refine r_gR (pc := 18) CX P hF fl_X8_21 dX8_swapOut_18 (fun a6 hF => ?_)
  refine r_gR (pc := 21) CX P hF fl_X8_69 dX8_swapOut_21 (fun a7 hF => ?_)
  refine lv_iload_n (pc := 24) hx hb dX8_swapOut_24 rfl (lv_at hl 1 rfl) ?_
  refine r_aI (pc := 25) CX P hF dX8_swapOut_25 (fun v8 hF => ?_)
  refine lv_iload_n (pc := 26) hx hb dX8_swapOut_26 rfl (lv_at hl 2 rfl) ?_
  refine r_cVv (pc := 27) (As := [.int v8, .int vp2]) (rest := []) CX P hl.1 hF kv_X8_98 (fun h1 q => c_X6_addOut l G B _ _ _ _ _ q) rfl rfl ⟨Nat.le_of_ble_eq_true rfl, Nat.le_of_ble_eq_true rfl⟩ (Nat.le_of_ble_eq_true rfl) ⟨Nat.le_of_ble_eq_true rfl, Nat.le_of_ble_eq_true rfl⟩ dX8_swapOut_27 (fun h9 H locs P hF => ?_)
  cases hF
  exact hret _ _ _ _ P dX8_swapOut_30
def F_X8_victimBelow_L11 (h7 : Hp) (a3 : Nat) (v4 : Int32) (v5 : Int32) (v6 : Int32) : Option ((Int32 × Int32) ⊕ (Int32)) :=
if 16 ≤ v6 then (
some (.inr v5)) else (
(if ((v4 >>> (v6 &&& 31)) &&& 1) = 1 then (
(gR h7 a3 8 1).bind fun a9 =>
(gR h7 a9 0 1).bind fun a10 =>
(aI h7 a10 v6).bind fun v11 =>
if v11 = (-10) then (
some (0 : Int32)) else (
some (1 : Int32))) else (
some (0 : Int32))).bind fun v12 =>
if v12 = 0 then (
bl (v6 + 1) fun v13 =>
some (.inl (v5, v13))) else (
bl (fun (v20 : Int32) =>
bl (v20 + 1) fun v21 =>
some (.inl (v20, v21))) fun k14 =>
if v5 = (-1) then (
k14 (v6 : Int32)) else (
(gR h7 a3 8 1).bind fun a15 =>
(cO h7 a15 0 (F_X0_badness h7 a15 v6)).bind fun v16 =>
(gR h7 a3 8 1).bind fun a17 =>
(cO h7 a17 0 (F_X0_badness h7 a17 v5)).bind fun v18 =>
if v16 ≤ v18 then (
bl (v6 + 1) fun v19 =>
some (.inl (v5, v19))) else (
k14 (v6 : Int32)))))
def F_X8_victimBelow (h : Hp) (a0 : Nat) (vp1 : Int32) : Option (Int32) :=
(cO h a0 8 (F_X8_bitsOfProcesses h a0 vp1)).bind fun v1 =>
(loopF (fun x => F_X8_victimBelow_L11 h a0 v1 x.1 x.2) 6000 ((-1), 0)).bind fun v22 =>
some v22
set_option maxRecDepth 100000 in
set_option maxHeartbeats 4000000 in
theorem c_X8_victimBelow (l : Launch) (G : GG) (B : Nat) (h : Hp) (a0 : Nat) (vp1 : Int32) (r0 : Int32) (hF : F_X8_victimBelow h a0 vp1 = some r0) : CI l yX8_victimBelow cX8_victimBelow 6 .int 2 47 0 0 G B h [.ref (B + a0), .int vp1] r0 h := by
  refine ent_i rfl (Nat.le_of_ble_eq_true rfl) ?_
  intro p e s m args below meth c ls Q CX hnm hret P hl
  have CX : Cxt p m c cX8_victimBelow 6 s args RX8 G B := CX
  obtain ⟨⟨hx, hb, hml, hown, hts⟩, -, -⟩ := id CX
  replace hl : lv_has ls 6 [(0, .ref (B + a0)), (1, .int vp1)] := hl
  generalize s.heap = H at P ⊢
  generalize ([] : List Loc) = locs at P ⊢
  unfold F_X8_victimBelow at hF
  refine lv_aload_n (pc := 0) hx hb dX8_victimBelow_0 rfl (lv_at hl 0 rfl) ?_
  refine lv_iload_n (pc := 1) hx hb dX8_victimBelow_1 rfl (lv_at hl 1 rfl) ?_
  refine r_cVp (pc := 2) (As := [.int vp1]) (rest := []) CX P hl.1 hF kv_X8_73 (fun r q => c_X8_bitsOfProcesses l G B _ _ _ _ q) rfl rfl ⟨Nat.le_of_ble_eq_true rfl, Nat.le_of_ble_eq_true rfl⟩ (Nat.le_of_ble_eq_true rfl) ⟨Nat.le_of_ble_eq_true rfl, Nat.le_of_ble_eq_true rfl⟩ dX8_victimBelow_2 (fun v1 H locs P hF => ?_)
  refine lv_istore_n (pc := 5) hx hb dX8_victimBelow_5 rfl hl (by decide) rfl (fun ls hl => ?_)
  replace hl : lv_has ls 6 [(2, .int v1), (0, .ref (B + a0)), (1, .int vp1)] := hl
  refine lv_iconst (pc := 6) (v := (-1)) hx hb dX8_victimBelow_6 (by decide) ?_
  refine lv_istore_n (pc := 7) hx hb dX8_victimBelow_7 rfl hl (by decide) rfl (fun ls hl => ?_)
  replace hl : lv_has ls 6 [(3, .int (-1)), (2, .int v1), (0, .ref (B + a0)), (1, .int vp1)] := hl
  refine lv_iconst (pc := 8) (v := 0) hx hb dX8_victimBelow_8 (by decide) ?_
  refine lv_istore (pc := 9) hx hb dX8_victimBelow_9 hl (by decide) rfl (fun ls hl => ?_)
  replace hl : lv_has ls 6 [(4, .int 0), (3, .int (-1)), (2, .int v1), (0, .ref (B + a0)), (1, .int vp1)] := hl
  obtain ⟨r2, hLp2, hK2⟩ := bd_some hF
  have hX2 : ∀ (v22 : Int32) (H : Heap) (locs : List Loc) (ls : Array Slot), Pic G B h s H locs → lv_has ls 6 [(3, .int v22)] → v22 = r2 → W p l e (rmM 2 47 0 0) s m args below meth c H locs 0 0 Q (F0 m 89 ls []) := by
    intro v22 H locs ls P hl er
    subst er
    have hF := hK2
    refine lv_iload_n (pc := 89) hx hb dX8_victimBelow_89 rfl (lv_at hl 0 rfl) ?_
    cases hF
    exact hret _ _ _ _ P rfl dX8_victimBelow_90
  have hL2 : ∀ (n : Nat) (v5 : Int32) (v6 : Int32) (H : Heap) (locs : List Loc) (ls : Array Slot), Pic G B h s H locs → lv_has ls 6 [(0, .ref (B + a0)), (2, .int v1), (3, .int v5), (4, .int v6)] → loopF (fun x => F_X8_victimBelow_L11 h a0 v1 x.1 x.2) n (v5, v6) = some r2 → W p l e (rmM 2 47 0 0) s m args below meth c H locs 0 0 Q (F0 m 11 ls []) := by
    intro n
    induction n with
    | zero => intro v5 v6 H locs ls P hl hq; cases hq
    | succ n ih =>
      intro v5 v6 H locs ls P hl hq
      obtain ⟨z2, hS2, hI2, hR2⟩ := loop_some hq
      have hF : F_X8_victimBelow_L11 h a0 v1 v5 v6 = some z2 := hS2
      unfold F_X8_victimBelow_L11 at hF
      refine lv_iload (pc := 11) hx hb dX8_victimBelow_11 (lv_at hl 3 rfl) ?_
      refine lv_bipush (pc := 13) (v := 16) hx hb dX8_victimBelow_13 (by decide) ?_
      refine lv_icmp_ge (pc := 15) (tgt := 89) hx hb dX8_victimBelow_15 (by decide) (fun hc => ?_) (fun hc => ?_)
      · rw [if_pos hc] at hF
        exact hX2 _ _ _ _ P (lv_sub hl [2] rfl) (hR2 _ (Option.some.inj hF).symm)
      · rw [if_neg hc] at hF
        refine lv_iload_n (pc := 18) hx hb dX8_victimBelow_18 rfl (lv_at hl 1 rfl) ?_
        refine lv_iload (pc := 19) hx hb dX8_victimBelow_19 (lv_at hl 3 rfl) ?_
        refine lv_ishr (pc := 21) hx hb dX8_victimBelow_21 ?_
        refine lv_iconst (pc := 22) (v := 1) hx hb dX8_victimBelow_22 (by decide) ?_
        refine lv_iand (pc := 23) hx hb dX8_victimBelow_23 ?_
        refine lv_iconst (pc := 24) (v := 1) hx hb dX8_victimBelow_24 (by decide) ?_
        obtain ⟨j8, hA8, hK8⟩ := bd_some hF
        have hJ8 : ∀ (v12 : Int32) (H : Heap) (locs : List Loc) (ls : Array Slot), Pic G B h s H locs → lv_has ls 6 [(0, .ref (B + a0)), (2, .int v1), (3, .int v5), (4, .int v6)] → v12 = j8 → W p l e (rmM 2 47 0 0) s m args below meth c H locs 0 0 Q (F0 m 48 ls [.int v12]) := by
          intro v12 H locs ls P hl ej
          subst ej
          have hF := hK8
          refine lv_istore (pc := 48) hx hb dX8_victimBelow_48 hl (by decide) rfl (fun ls hl => ?_)
          replace hl : lv_has ls 6 [(5, .int v12), (0, .ref (B + a0)), (2, .int v1), (3, .int v5), (4, .int v6)] := hl
          refine lv_iload (pc := 50) hx hb dX8_victimBelow_50 (lv_at hl 0 rfl) ?_
          refine lv_if_eq (pc := 52) (tgt := 83) hx hb dX8_victimBelow_52 (by decide) (fun hc => ?_) (fun hc => ?_)
          · rw [if_pos hc] at hF
            obtain ⟨v13, ev13, hF⟩ := bl_o hF
            refine lv_iinc (pc := 83) (k := 4) (v := v13) hx hb dX8_victimBelow_83 hl rfl ev13 (by decide) rfl (fun ls hl => ?_)
            replace hl : lv_has ls 6 [(4, .int v13), (5, .int v12), (0, .ref (B + a0)), (2, .int v1), (3, .int v5)] := hl
            refine lv_goto (pc := 86) (tgt := 11) hx hb dX8_victimBelow_86 (by decide) ?_
            exact ih _ _ _ _ _ P (lv_sub hl [2, 3, 4, 0] rfl) (hI2 _ (Option.some.inj hF).symm)
          · rw [if_neg hc] at hF
            refine lv_iload_n (pc := 55) hx hb dX8_victimBelow_55 rfl (lv_at hl 3 rfl) ?_
            refine lv_iconst (pc := 56) (v := (-1)) hx hb dX8_victimBelow_56 (by decide) ?_
            obtain ⟨k14, ek14, hF⟩ := bl_o hF
            have hJ14 : ∀ (v20 : Int32) (H : Heap) (locs : List Loc) (ls : Array Slot), Pic G B h s H locs → lv_has ls 6 [(0, .ref (B + a0)), (2, .int v1), (4, .int v20)] → k14 v20 = some z2 → W p l e (rmM 2 47 0 0) s m args below meth c H locs 0 0 Q (F0 m 80 ls []) := by
              intro v20 H locs ls P hl hF
              rw [← ek14] at hF
              try dsimp only at hF
              refine lv_iload (pc := 80) hx hb dX8_victimBelow_80 (lv_at hl 2 rfl) ?_
              refine lv_istore_n (pc := 82) hx hb dX8_victimBelow_82 rfl hl (by decide) rfl (fun ls hl => ?_)
              replace hl : lv_has ls 6 [(3, .int v20), (0, .ref (B + a0)), (2, .int v1), (4, .int v20)] := hl
              obtain ⟨v21, ev21, hF⟩ := bl_o hF
              refine lv_iinc (pc := 83) (k := 3) (v := v21) hx hb dX8_victimBelow_83 hl rfl ev21 (by decide) rfl (fun ls hl => ?_)
              replace hl : lv_has ls 6 [(4, .int v21), (3, .int v20), (0, .ref (B + a0)), (2, .int v1)] := hl
              refine lv_goto (pc := 86) (tgt := 11) hx hb dX8_victimBelow_86 (by decide) ?_
              exact ih _ _ _ _ _ P (lv_sub hl [2, 3, 1, 0] rfl) (hI2 _ (Option.some.inj hF).symm)
            refine lv_icmp_eq (pc := 57) (tgt := 80) hx hb dX8_victimBelow_57 (by decide) (fun hc => ?_) (fun hc => ?_)
            · rw [if_pos hc] at hF
              exact hJ14 _ _ _ _ P (lv_sub hl [1, 2, 4] rfl) hF
            · rw [if_neg hc] at hF
              refine lv_aload_n (pc := 60) hx hb dX8_victimBelow_60 rfl (lv_at hl 1 rfl) ?_
              refine r_gR (pc := 61) CX P hF fl_X8_21 dX8_victimBelow_61 (fun a15 hF => ?_)
              refine lv_iload (pc := 64) hx hb dX8_victimBelow_64 (lv_at hl 4 rfl) ?_
              refine r_cVp (pc := 66) (As := [.int v6]) (rest := []) CX P hl.1 hF kv_X8_120 (fun r q => c_X0_badness l G B _ _ _ _ q) rfl rfl ⟨Nat.le_of_ble_eq_true rfl, Nat.le_of_ble_eq_true rfl⟩ (Nat.le_of_ble_eq_true rfl) ⟨Nat.le_of_ble_eq_true rfl, Nat.le_of_ble_eq_true rfl⟩ dX8_victimBelow_66 (fun v16 H locs P hF => ?_)
              refine lv_aload_n (pc := 69) hx hb dX8_victimBelow_69 rfl (lv_at hl 1 rfl) ?_
              refine r_gR (pc := 70) CX P hF fl_X8_21 dX8_victimBelow_70 (fun a17 hF => ?_)
              refine lv_iload_n (pc := 73) hx hb dX8_victimBelow_73 rfl (lv_at hl 3 rfl) ?_
              refine r_cVp (pc := 74) (As := [.int v5]) (rest := [.int v16]) CX P hl.1 hF kv_X8_120 (fun r q => c_X0_badness l G B _ _ _ _ q) rfl rfl ⟨Nat.le_of_ble_eq_true rfl, Nat.le_of_ble_eq_true rfl⟩ (Nat.le_of_ble_eq_true rfl) ⟨Nat.le_of_ble_eq_true rfl, Nat.le_of_ble_eq_true rfl⟩ dX8_victimBelow_74 (fun v18 H locs P hF => ?_)
              refine lv_icmp_le (pc := 77) (tgt := 83) hx hb dX8_victimBelow_77 (by decide) (fun hc => ?_) (fun hc => ?_)
              · rw [if_pos hc] at hF
                obtain ⟨v19, ev19, hF⟩ := bl_o hF
                refine lv_iinc (pc := 83) (k := 4) (v := v19) hx hb dX8_victimBelow_83 hl rfl ev19 (by decide) rfl (fun ls hl => ?_)
                replace hl : lv_has ls 6 [(4, .int v19), (5, .int v12), (0, .ref (B + a0)), (2, .int v1), (3, .int v5)] := hl
                refine lv_goto (pc := 86) (tgt := 11) hx hb dX8_victimBelow_86 (by decide) ?_
                exact ih _ _ _ _ _ P (lv_sub hl [2, 3, 4, 0] rfl) (hI2 _ (Option.some.inj hF).symm)
              · rw [if_neg hc] at hF
                exact hJ14 _ _ _ _ P (lv_sub hl [1, 2, 4] rfl) hF
        replace hF := hA8
        refine lv_icmp_ne (pc := 25) (tgt := 47) hx hb dX8_victimBelow_25 (by decide) (fun hc => ?_) (fun hc => ?_)
        · rw [if_neg hc] at hF
          refine lv_iconst (pc := 47) (v := 0) hx hb dX8_victimBelow_47 (by decide) ?_
          exact hJ8 _ _ _ _ P (lv_sub hl [0, 1, 2, 3] rfl) (Option.some.inj hF)
        · rw [if_pos hc] at hF
          refine lv_aload_n (pc := 28) hx hb dX8_victimBelow_28 rfl (lv_at hl 0 rfl) ?_
          refine r_gR (pc := 29) CX P hF fl_X8_21 dX8_victimBelow_29 (fun a9 hF => ?_)
          refine r_gR (pc := 32) CX P hF fl_X8_117 dX8_victimBelow_32 (fun a10 hF => ?_)
          refine lv_iload (pc := 35) hx hb dX8_victimBelow_35 (lv_at hl 3 rfl) ?_
          refine r_aI (pc := 37) CX P hF dX8_victimBelow_37 (fun v11 hF => ?_)
          refine lv_bipush (pc := 38) (v := (-10)) hx hb dX8_victimBelow_38 (by decide) ?_
          refine lv_icmp_eq (pc := 40) (tgt := 47) hx hb dX8_victimBelow_40 (by decide) (fun hc => ?_) (fun hc => ?_)
          · rw [if_pos hc] at hF
            refine lv_iconst (pc := 47) (v := 0) hx hb dX8_victimBelow_47 (by decide) ?_
            exact hJ8 _ _ _ _ P (lv_sub hl [0, 1, 2, 3] rfl) (Option.some.inj hF)
          · rw [if_neg hc] at hF
            refine lv_iconst (pc := 43) (v := 1) hx hb dX8_victimBelow_43 (by decide) ?_
            refine lv_goto (pc := 44) (tgt := 48) hx hb dX8_victimBelow_44 (by decide) ?_
            exact hJ8 _ _ _ _ P (lv_sub hl [0, 1, 2, 3] rfl) (Option.some.inj hF)
  exact hL2 _ _ _ _ _ _ P (lv_sub hl [3, 2, 1, 0] rfl) hLp2
def F_X8_mortalBelow_L8 (h6 : Hp) (a3 : Nat) (v4 : Int32) (v5 : Int32) : Option ((Int32 × Int32) ⊕ (Int32)) :=
if 16 ≤ v5 then (
some (.inr v4)) else (
(gR h6 a3 8 1).bind fun a7 =>
(gR h6 a7 0 1).bind fun a8 =>
(aI h6 a8 v5).bind fun v9 =>
if v9 = (-10) then (
bl (v4 &&& ((1 <<< (v5 &&& 31)) ^^^ (-1))) fun v11 =>
bl (v5 + 1) fun v12 =>
some (.inl (v11, v12))) else (
bl (v5 + 1) fun v10 =>
some (.inl (v4, v10))))
def F_X8_mortalBelow (h : Hp) (a0 : Nat) (vp1 : Int32) : Option (Int32) :=
(cO h a0 8 (F_X8_bitsOfProcesses h a0 vp1)).bind fun v1 =>
(loopF (fun x => F_X8_mortalBelow_L8 h a0 x.1 x.2) 6000 (v1, 0)).bind fun v13 =>
some v13
set_option maxRecDepth 100000 in
set_option maxHeartbeats 4000000 in
theorem c_X8_mortalBelow (l : Launch) (G : GG) (B : Nat) (h : Hp) (a0 : Nat) (vp1 : Int32) (r0 : Int32) (hF : F_X8_mortalBelow h a0 vp1 = some r0) : CI l yX8_mortalBelow cX8_mortalBelow 4 .int 2 47 0 0 G B h [.ref (B + a0), .int vp1] r0 h := by
  refine ent_i rfl (Nat.le_of_ble_eq_true rfl) ?_
  intro p e s m args below meth c ls Q CX hnm hret P hl
  have CX : Cxt p m c cX8_mortalBelow 4 s args RX8 G B := CX
  obtain ⟨⟨hx, hb, hml, hown, hts⟩, -, -⟩ := id CX
  replace hl : lv_has ls 4 [(0, .ref (B + a0)), (1, .int vp1)] := hl
  generalize s.heap = H at P ⊢
  generalize ([] : List Loc) = locs at P ⊢
  unfold F_X8_mortalBelow at hF
  refine lv_aload_n (pc := 0) hx hb dX8_mortalBelow_0 rfl (lv_at hl 0 rfl) ?_
  refine lv_iload_n (pc := 1) hx hb dX8_mortalBelow_1 rfl (lv_at hl 1 rfl) ?_
  refine r_cVp (pc := 2) (As := [.int vp1]) (rest := []) CX P hl.1 hF kv_X8_73 (fun r q => c_X8_bitsOfProcesses l G B _ _ _ _ q) rfl rfl ⟨Nat.le_of_ble_eq_true rfl, Nat.le_of_ble_eq_true rfl⟩ (Nat.le_of_ble_eq_true rfl) ⟨Nat.le_of_ble_eq_true rfl, Nat.le_of_ble_eq_true rfl⟩ dX8_mortalBelow_2 (fun v1 H locs P hF => ?_)
  refine lv_istore_n (pc := 5) hx hb dX8_mortalBelow_5 rfl hl (by decide) rfl (fun ls hl => ?_)
  replace hl : lv_has ls 4 [(2, .int v1), (0, .ref (B + a0)), (1, .int vp1)] := hl
  refine lv_iconst (pc := 6) (v := 0) hx hb dX8_mortalBelow_6 (by decide) ?_
  refine lv_istore_n (pc := 7) hx hb dX8_mortalBelow_7 rfl hl (by decide) rfl (fun ls hl => ?_)
  replace hl : lv_has ls 4 [(3, .int 0), (2, .int v1), (0, .ref (B + a0)), (1, .int vp1)] := hl
  obtain ⟨r2, hLp2, hK2⟩ := bd_some hF
  have hX2 : ∀ (v13 : Int32) (H : Heap) (locs : List Loc) (ls : Array Slot), Pic G B h s H locs → lv_has ls 4 [(2, .int v13)] → v13 = r2 → W p l e (rmM 2 47 0 0) s m args below meth c H locs 0 0 Q (F0 m 42 ls []) := by
    intro v13 H locs ls P hl er
    subst er
    have hF := hK2
    refine lv_iload_n (pc := 42) hx hb dX8_mortalBelow_42 rfl (lv_at hl 0 rfl) ?_
    cases hF
    exact hret _ _ _ _ P rfl dX8_mortalBelow_43
  have hL2 : ∀ (n : Nat) (v4 : Int32) (v5 : Int32) (H : Heap) (locs : List Loc) (ls : Array Slot), Pic G B h s H locs → lv_has ls 4 [(0, .ref (B + a0)), (2, .int v4), (3, .int v5)] → loopF (fun x => F_X8_mortalBelow_L8 h a0 x.1 x.2) n (v4, v5) = some r2 → W p l e (rmM 2 47 0 0) s m args below meth c H locs 0 0 Q (F0 m 8 ls []) := by
    intro n
    induction n with
    | zero => intro v4 v5 H locs ls P hl hq; cases hq
    | succ n ih =>
      intro v4 v5 H locs ls P hl hq
      obtain ⟨z2, hS2, hI2, hR2⟩ := loop_some hq
      have hF : F_X8_mortalBelow_L8 h a0 v4 v5 = some z2 := hS2
      unfold F_X8_mortalBelow_L8 at hF
      refine lv_iload_n (pc := 8) hx hb dX8_mortalBelow_8 rfl (lv_at hl 2 rfl) ?_
      refine lv_bipush (pc := 9) (v := 16) hx hb dX8_mortalBelow_9 (by decide) ?_
      refine lv_icmp_ge (pc := 11) (tgt := 42) hx hb dX8_mortalBelow_11 (by decide) (fun hc => ?_) (fun hc => ?_)
      · rw [if_pos hc] at hF
        exact hX2 _ _ _ _ P (lv_sub hl [1] rfl) (hR2 _ (Option.some.inj hF).symm)
      · rw [if_neg hc] at hF
        refine lv_aload_n (pc := 14) hx hb dX8_mortalBelow_14 rfl (lv_at hl 0 rfl) ?_
        refine r_gR (pc := 15) CX P hF fl_X8_21 dX8_mortalBelow_15 (fun a7 hF => ?_)
        refine r_gR (pc := 18) CX P hF fl_X8_117 dX8_mortalBelow_18 (fun a8 hF => ?_)
        refine lv_iload_n (pc := 21) hx hb dX8_mortalBelow_21 rfl (lv_at hl 2 rfl) ?_
        refine r_aI (pc := 22) CX P hF dX8_mortalBelow_22 (fun v9 hF => ?_)
        refine lv_bipush (pc := 23) (v := (-10)) hx hb dX8_mortalBelow_23 (by decide) ?_
        refine lv_icmp_ne (pc := 25) (tgt := 36) hx hb dX8_mortalBelow_25 (by decide) (fun hc => ?_) (fun hc => ?_)
        · rw [if_neg hc] at hF
          obtain ⟨v10, ev10, hF⟩ := bl_o hF
          refine lv_iinc (pc := 36) (k := 2) (v := v10) hx hb dX8_mortalBelow_36 hl rfl ev10 (by decide) rfl (fun ls hl => ?_)
          replace hl : lv_has ls 4 [(3, .int v10), (0, .ref (B + a0)), (2, .int v4)] := hl
          refine lv_goto (pc := 39) (tgt := 8) hx hb dX8_mortalBelow_39 (by decide) ?_
          exact ih _ _ _ _ _ P (lv_sub hl [1, 2, 0] rfl) (hI2 _ (Option.some.inj hF).symm)
        · rw [if_pos hc] at hF
          refine lv_iload_n (pc := 28) hx hb dX8_mortalBelow_28 rfl (lv_at hl 1 rfl) ?_
          refine lv_iconst (pc := 29) (v := 1) hx hb dX8_mortalBelow_29 (by decide) ?_
          refine lv_iload_n (pc := 30) hx hb dX8_mortalBelow_30 rfl (lv_at hl 2 rfl) ?_
          refine lv_ishl (pc := 31) hx hb dX8_mortalBelow_31 ?_
          refine lv_iconst (pc := 32) (v := (-1)) hx hb dX8_mortalBelow_32 (by decide) ?_
          refine lv_ixor (pc := 33) hx hb dX8_mortalBelow_33 ?_
          refine lv_iand (pc := 34) hx hb dX8_mortalBelow_34 ?_
          refine lv_topi (fun v11 ev11 => ?_)
          replace hF := bl_e hF ev11
          refine lv_istore_n (pc := 35) hx hb dX8_mortalBelow_35 rfl hl (by decide) rfl (fun ls hl => ?_)
          replace hl : lv_has ls 4 [(2, .int v11), (0, .ref (B + a0)), (3, .int v5)] := hl
          obtain ⟨v12, ev12, hF⟩ := bl_o hF
          refine lv_iinc (pc := 36) (k := 2) (v := v12) hx hb dX8_mortalBelow_36 hl rfl ev12 (by decide) rfl (fun ls hl => ?_)
          replace hl : lv_has ls 4 [(3, .int v12), (2, .int v11), (0, .ref (B + a0))] := hl
          refine lv_goto (pc := 39) (tgt := 8) hx hb dX8_mortalBelow_39 (by decide) ?_
          exact ih _ _ _ _ _ P (lv_sub hl [2, 1, 0] rfl) (hI2 _ (Option.some.inj hF).symm)
  exact hL2 _ _ _ _ _ _ P (lv_sub hl [2, 1, 0] rfl) hLp2
def F_X8_dyingBelow_L29 (h12 : Hp) (a6 : Nat) (v7 : Int32) (v8 : Int32) (v9 : Int32) (v10 : Int32) (v11 : Int32) : Option ((Int32 × Int32 × Int32) ⊕ (Int32)) :=
if v10 = (-1) then (
some (.inr v9)) else (
(gR h12 a6 8 0).bind fun a13 =>
(gR h12 a13 6 0).bind fun a14 =>
(aI h12 a14 v7).bind fun v15 =>
if v10 = v15 then (
some (.inr v9)) else (
if 12 ≤ v11 then (
some (.inr v9)) else (
(gR h12 a6 8 0).bind fun a16 =>
(gR h12 a16 6 3).bind fun a17 =>
(aR h12 a17 15 4).bind fun a18 =>
(aI h12 a18 v10).bind fun v19 =>
(if v19 = 1 then (
some (v10 : Int32)) else (
some (v9 : Int32))).bind fun v21 =>
(gR h12 a6 8 0).bind fun a22 =>
(gR h12 a22 6 0).bind fun a23 =>
(aI h12 a23 v10).bind fun v24 =>
bl (v11 + 1) fun v25 =>
some (.inl (v21, v24, v25)))))
def F_X8_dyingBelow (h : Hp) (a0 : Nat) (vp1 : Int32) : Option (Int32) :=
(cO h a0 8 (F_X8_victimBelow h a0 vp1)).bind fun v1 =>
if v1 = (-1) then (
some 0) else (
(gR h a0 8 1).bind fun a2 =>
(gR h a2 0 0).bind fun a3 =>
(aI h a3 v1).bind fun v4 =>
(loopF (fun x => F_X8_dyingBelow_L29 h a0 vp1 v1 x.1 x.2.1 x.2.2) 6000 ((-1), v4, 0)).bind fun v26 =>
if v26 = (-1) then (
some (1 <<< (v1 &&& 31))) else (
(cO h a0 8 (F_X8_mortalBelow h a0 v26)).bind fun v27 =>
some v27))
set_option maxRecDepth 100000 in
set_option maxHeartbeats 4000000 in
theorem c_X8_dyingBelow (l : Launch) (G : GG) (B : Nat) (h : Hp) (a0 : Nat) (vp1 : Int32) (r0 : Int32) (hF : F_X8_dyingBelow h a0 vp1 = some r0) : CI l yX8_dyingBelow cX8_dyingBelow 6 .int 3 72 0 0 G B h [.ref (B + a0), .int vp1] r0 h := by
  refine ent_i rfl (Nat.le_of_ble_eq_true rfl) ?_
  intro p e s m args below meth c ls Q CX hnm hret P hl
  have CX : Cxt p m c cX8_dyingBelow 6 s args RX8 G B := CX
  obtain ⟨⟨hx, hb, hml, hown, hts⟩, -, -⟩ := id CX
  replace hl : lv_has ls 6 [(0, .ref (B + a0)), (1, .int vp1)] := hl
  generalize s.heap = H at P ⊢
  generalize ([] : List Loc) = locs at P ⊢
  unfold F_X8_dyingBelow at hF
  refine lv_aload_n (pc := 0) hx hb dX8_dyingBelow_0 rfl (lv_at hl 0 rfl) ?_
  refine lv_iload_n (pc := 1) hx hb dX8_dyingBelow_1 rfl (lv_at hl 1 rfl) ?_
  refine r_cVp (pc := 2) (As := [.int vp1]) (rest := []) CX P hl.1 hF kv_X8_123 (fun r q => c_X8_victimBelow l G B _ _ _ _ q) rfl rfl ⟨Nat.le_of_ble_eq_true rfl, Nat.le_of_ble_eq_true rfl⟩ (Nat.le_of_ble_eq_true rfl) ⟨Nat.le_of_ble_eq_true rfl, Nat.le_of_ble_eq_true rfl⟩ dX8_dyingBelow_2 (fun v1 H locs P hF => ?_)
  refine lv_istore_n (pc := 5) hx hb dX8_dyingBelow_5 rfl hl (by decide) rfl (fun ls hl => ?_)
  replace hl : lv_has ls 6 [(2, .int v1), (0, .ref (B + a0)), (1, .int vp1)] := hl
  refine lv_iload_n (pc := 6) hx hb dX8_dyingBelow_6 rfl (lv_at hl 0 rfl) ?_
  refine lv_iconst (pc := 7) (v := (-1)) hx hb dX8_dyingBelow_7 (by decide) ?_
  refine lv_icmp_ne (pc := 8) (tgt := 13) hx hb dX8_dyingBelow_8 (by decide) (fun hc => ?_) (fun hc => ?_)
  · rw [if_neg hc] at hF
    refine lv_iconst (pc := 13) (v := (-1)) hx hb dX8_dyingBelow_13 (by decide) ?_
    refine lv_istore_n (pc := 14) hx hb dX8_dyingBelow_14 rfl hl (by decide) rfl (fun ls hl => ?_)
    replace hl : lv_has ls 6 [(3, .int (-1)), (2, .int v1), (0, .ref (B + a0)), (1, .int vp1)] := hl
    refine lv_aload_n (pc := 15) hx hb dX8_dyingBelow_15 rfl (lv_at hl 2 rfl) ?_
    refine r_gR (pc := 16) CX P hF fl_X8_21 dX8_dyingBelow_16 (fun a2 hF => ?_)
    refine r_gR (pc := 19) CX P hF fl_X8_69 dX8_dyingBelow_19 (fun a3 hF => ?_)
    refine lv_iload_n (pc := 22) hx hb dX8_dyingBelow_22 rfl (lv_at hl 1 rfl) ?_
    refine r_aI (pc := 23) CX P hF dX8_dyingBelow_23 (fun v4 hF => ?_)
    refine lv_istore (pc := 24) hx hb dX8_dyingBelow_24 hl (by decide) rfl (fun ls hl => ?_)
    replace hl : lv_has ls 6 [(4, .int v4), (3, .int (-1)), (2, .int v1), (0, .ref (B + a0)), (1, .int vp1)] := hl
    refine lv_iconst (pc := 26) (v := 0) hx hb dX8_dyingBelow_26 (by decide) ?_
    refine lv_istore (pc := 27) hx hb dX8_dyingBelow_27 hl (by decide) rfl (fun ls hl => ?_)
    replace hl : lv_has ls 6 [(5, .int 0), (4, .int v4), (3, .int (-1)), (2, .int v1), (0, .ref (B + a0)), (1, .int vp1)] := hl
    obtain ⟨r5, hLp5, hK5⟩ := bd_some hF
    have hX5 : ∀ (v26 : Int32) (H : Heap) (locs : List Loc) (ls : Array Slot), Pic G B h s H locs → lv_has ls 6 [(0, .ref (B + a0)), (2, .int v1), (3, .int v26)] → v26 = r5 → W p l e (rmM 3 72 0 0) s m args below meth c H locs 0 0 Q (F0 m 93 ls []) := by
      intro v26 H locs ls P hl er
      subst er
      have hF := hK5
      refine lv_iload_n (pc := 93) hx hb dX8_dyingBelow_93 rfl (lv_at hl 2 rfl) ?_
      refine lv_iconst (pc := 94) (v := (-1)) hx hb dX8_dyingBelow_94 (by decide) ?_
      refine lv_icmp_ne (pc := 95) (tgt := 104) hx hb dX8_dyingBelow_95 (by decide) (fun hc => ?_) (fun hc => ?_)
      · rw [if_neg hc] at hF
        refine lv_aload_n (pc := 104) hx hb dX8_dyingBelow_104 rfl (lv_at hl 0 rfl) ?_
        refine lv_iload_n (pc := 105) hx hb dX8_dyingBelow_105 rfl (lv_at hl 2 rfl) ?_
        refine r_cVp (pc := 106) (As := [.int v26]) (rest := []) CX P hl.1 hF kv_X8_126 (fun r q => c_X8_mortalBelow l G B _ _ _ _ q) rfl rfl ⟨Nat.le_of_ble_eq_true rfl, Nat.le_of_ble_eq_true rfl⟩ (Nat.le_of_ble_eq_true rfl) ⟨Nat.le_of_ble_eq_true rfl, Nat.le_of_ble_eq_true rfl⟩ dX8_dyingBelow_106 (fun v27 H locs P hF => ?_)
        cases hF
        exact hret _ _ _ _ P rfl dX8_dyingBelow_109
      · rw [if_pos hc] at hF
        refine lv_iconst (pc := 98) (v := 1) hx hb dX8_dyingBelow_98 (by decide) ?_
        refine lv_iload_n (pc := 99) hx hb dX8_dyingBelow_99 rfl (lv_at hl 1 rfl) ?_
        refine lv_ishl (pc := 100) hx hb dX8_dyingBelow_100 ?_
        refine lv_goto (pc := 101) (tgt := 109) hx hb dX8_dyingBelow_101 (by decide) ?_
        cases hF
        exact hret _ _ _ _ P rfl dX8_dyingBelow_109
    have hL5 : ∀ (n : Nat) (v9 : Int32) (v10 : Int32) (v11 : Int32) (H : Heap) (locs : List Loc) (ls : Array Slot), Pic G B h s H locs → lv_has ls 6 [(0, .ref (B + a0)), (1, .int vp1), (2, .int v1), (3, .int v9), (4, .int v10), (5, .int v11)] → loopF (fun x => F_X8_dyingBelow_L29 h a0 vp1 v1 x.1 x.2.1 x.2.2) n (v9, v10, v11) = some r5 → W p l e (rmM 3 72 0 0) s m args below meth c H locs 0 0 Q (F0 m 29 ls []) := by
      intro n
      induction n with
      | zero => intro v9 v10 v11 H locs ls P hl hq; cases hq
      | succ n ih =>
        intro v9 v10 v11 H locs ls P hl hq
        obtain ⟨z5, hS5, hI5, hR5⟩ := loop_some hq
        have hF : F_X8_dyingBelow_L29 h a0 vp1 v1 v9 v10 v11 = some z5 := hS5
        unfold F_X8_dyingBelow_L29 at hF
        refine lv_iload (pc := 29) hx hb dX8_dyingBelow_29 (lv_at hl 4 rfl) ?_
        refine lv_iconst (pc := 31) (v := (-1)) hx hb dX8_dyingBelow_31 (by decide) ?_
        refine lv_icmp_eq (pc := 32) (tgt := 93) hx hb dX8_dyingBelow_32 (by decide) (fun hc => ?_) (fun hc => ?_)
        · rw [if_pos hc] at hF
          exact hX5 _ _ _ _ P (lv_sub hl [0, 2, 3] rfl) (hR5 _ (Option.some.inj hF).symm)
        · rw [if_neg hc] at hF
          refine lv_iload (pc := 35) hx hb dX8_dyingBelow_35 (lv_at hl 4 rfl) ?_
          refine lv_aload_n (pc := 37) hx hb dX8_dyingBelow_37 rfl (lv_at hl 0 rfl) ?_
          refine r_gR (pc := 38) CX P hF fl_X8_12 dX8_dyingBelow_38 (fun a13 hF => ?_)
          refine r_gR (pc := 41) CX P hF fl_X8_85 dX8_dyingBelow_41 (fun a14 hF => ?_)
          refine lv_iload_n (pc := 44) hx hb dX8_dyingBelow_44 rfl (lv_at hl 1 rfl) ?_
          refine r_aI (pc := 45) CX P hF dX8_dyingBelow_45 (fun v15 hF => ?_)
          refine lv_icmp_eq (pc := 46) (tgt := 93) hx hb dX8_dyingBelow_46 (by decide) (fun hc => ?_) (fun hc => ?_)
          · rw [if_pos hc] at hF
            exact hX5 _ _ _ _ P (lv_sub hl [0, 2, 3] rfl) (hR5 _ (Option.some.inj hF).symm)
          · rw [if_neg hc] at hF
            refine lv_iload (pc := 49) hx hb dX8_dyingBelow_49 (lv_at hl 5 rfl) ?_
            refine lv_bipush (pc := 51) (v := 12) hx hb dX8_dyingBelow_51 (by decide) ?_
            refine lv_icmp_ge (pc := 53) (tgt := 93) hx hb dX8_dyingBelow_53 (by decide) (fun hc => ?_) (fun hc => ?_)
            · rw [if_pos hc] at hF
              exact hX5 _ _ _ _ P (lv_sub hl [0, 2, 3] rfl) (hR5 _ (Option.some.inj hF).symm)
            · rw [if_neg hc] at hF
              refine lv_aload_n (pc := 56) hx hb dX8_dyingBelow_56 rfl (lv_at hl 0 rfl) ?_
              refine r_gR (pc := 57) CX P hF fl_X8_12 dX8_dyingBelow_57 (fun a16 hF => ?_)
              refine r_gR (pc := 60) CX P hF fl_X8_81 dX8_dyingBelow_60 (fun a17 hF => ?_)
              refine lv_iconst (pc := 63) (v := 4) hx hb dX8_dyingBelow_63 (by decide) ?_
              refine r_aR (pc := 64) CX P hF (Or.inr (Or.inl rfl)) dX8_dyingBelow_64 (fun a18 hF => ?_)
              refine lv_iload (pc := 65) hx hb dX8_dyingBelow_65 (lv_at hl 4 rfl) ?_
              refine r_aI (pc := 67) CX P hF dX8_dyingBelow_67 (fun v19 hF => ?_)
              refine lv_iconst (pc := 68) (v := 1) hx hb dX8_dyingBelow_68 (by decide) ?_
              obtain ⟨j20, hA20, hK20⟩ := bd_some hF
              have hJ20 : ∀ (v21 : Int32) (H : Heap) (locs : List Loc) (ls : Array Slot), Pic G B h s H locs → lv_has ls 6 [(0, .ref (B + a0)), (1, .int vp1), (2, .int v1), (3, .int v21), (4, .int v10), (5, .int v11)] → v21 = j20 → W p l e (rmM 3 72 0 0) s m args below meth c H locs 0 0 Q (F0 m 75 ls []) := by
                intro v21 H locs ls P hl ej
                subst ej
                have hF := hK20
                refine lv_aload_n (pc := 75) hx hb dX8_dyingBelow_75 rfl (lv_at hl 0 rfl) ?_
                refine r_gR (pc := 76) CX P hF fl_X8_12 dX8_dyingBelow_76 (fun a22 hF => ?_)
                refine r_gR (pc := 79) CX P hF fl_X8_85 dX8_dyingBelow_79 (fun a23 hF => ?_)
                refine lv_iload (pc := 82) hx hb dX8_dyingBelow_82 (lv_at hl 4 rfl) ?_
                refine r_aI (pc := 84) CX P hF dX8_dyingBelow_84 (fun v24 hF => ?_)
                refine lv_istore (pc := 85) hx hb dX8_dyingBelow_85 hl (by decide) rfl (fun ls hl => ?_)
                replace hl : lv_has ls 6 [(4, .int v24), (0, .ref (B + a0)), (1, .int vp1), (2, .int v1), (3, .int v21), (5, .int v11)] := hl
                obtain ⟨v25, ev25, hF⟩ := bl_o hF
                refine lv_iinc (pc := 87) (k := 5) (v := v25) hx hb dX8_dyingBelow_87 hl rfl ev25 (by decide) rfl (fun ls hl => ?_)
                replace hl : lv_has ls 6 [(5, .int v25), (4, .int v24), (0, .ref (B + a0)), (1, .int vp1), (2, .int v1), (3, .int v21)] := hl
                refine lv_goto (pc := 90) (tgt := 29) hx hb dX8_dyingBelow_90 (by decide) ?_
                exact ih _ _ _ _ _ _ P (lv_sub hl [2, 3, 4, 5, 1, 0] rfl) (hI5 _ (Option.some.inj hF).symm)
              replace hF := hA20
              refine lv_icmp_ne (pc := 69) (tgt := 75) hx hb dX8_dyingBelow_69 (by decide) (fun hc => ?_) (fun hc => ?_)
              · rw [if_neg hc] at hF
                exact hJ20 _ _ _ _ P (lv_sub hl [0, 1, 2, 3, 4, 5] rfl) (Option.some.inj hF)
              · rw [if_pos hc] at hF
                refine lv_iload (pc := 72) hx hb dX8_dyingBelow_72 (lv_at hl 4 rfl) ?_
                refine lv_istore_n (pc := 74) hx hb dX8_dyingBelow_74 rfl hl (by decide) rfl (fun ls hl => ?_)
                replace hl : lv_has ls 6 [(3, .int v10), (0, .ref (B + a0)), (1, .int vp1), (2, .int v1), (4, .int v10), (5, .int v11)] := hl
                exact hJ20 _ _ _ _ P (lv_sub hl [1, 2, 3, 0, 4, 5] rfl) (Option.some.inj hF)
    exact hL5 _ _ _ _ _ _ _ P (lv_sub hl [4, 5, 3, 2, 1, 0] rfl) hLp5
  · rw [if_pos hc] at hF
    refine lv_iconst (pc := 11) (v := 0) hx hb dX8_dyingBelow_11 (by decide) ?_
    cases hF
    exact hret _ _ _ _ P rfl dX8_dyingBelow_12
def F_X8_bury (h : Hp) (a0 : Nat) (vp1 : Int32) : Option (Hp) :=
(gR h a0 8 0).bind fun a1 =>
(gR h a0 8 1).bind fun a2 =>
(gR h a2 0 0).bind fun a3 =>
(aI h a3 vp1).bind fun v4 =>
(gR h a0 8 1).bind fun a5 =>
(cO h a5 0 (F_X0_held h a5 vp1)).bind fun v6 =>
(cO h a1 6 (F_X6_addTotal h a1 v4 (-v6))).bind fun h7 =>
(gR h7 a0 8 0).bind fun a8 =>
(gR h7 a0 8 1).bind fun a9 =>
(gR h7 a9 0 0).bind fun a10 =>
(aI h7 a10 vp1).bind fun v11 =>
(gR h7 a0 8 1).bind fun a12 =>
(gR h7 a12 0 3).bind fun a13 =>
(aI h7 a13 vp1).bind fun v14 =>
(cO h7 a8 6 (F_X6_addOut h7 a8 v11 (-v14))).bind fun h15 =>
(gR h15 a0 8 1).bind fun a16 =>
(cO h15 a16 0 (F_X0_putProcess h15 a16 vp1 (-1) 0)).bind fun h17 =>
some h17
set_option maxRecDepth 100000 in
set_option maxHeartbeats 4000000 in
theorem c_X8_bury (l : Launch) (G : GG) (B : Nat) (h : Hp) (a0 : Nat) (vp1 : Int32) (hr : Hp) (hF : F_X8_bury h a0 vp1 = some hr) : CV l yX8_bury cX8_bury 2 1 24 0 0 G B h [.ref (B + a0), .int vp1] hr := by
  refine ent_v rfl (Nat.le_of_ble_eq_true rfl) ?_
  intro p e s m args below meth c ls Q CX hnm hret P hl
  have CX : Cxt p m c cX8_bury 2 s args RX8 G B := CX
  obtain ⟨⟨hx, hb, hml, hown, hts⟩, -, -⟩ := id CX
  replace hl : lv_has ls 2 [(0, .ref (B + a0)), (1, .int vp1)] := hl
  generalize s.heap = H at P ⊢
  generalize ([] : List Loc) = locs at P ⊢
  unfold F_X8_bury at hF
  refine lv_aload_n (pc := 0) hx hb dX8_bury_0 rfl (lv_at hl 0 rfl) ?_
  refine r_gR (pc := 1) CX P hF fl_X8_12 dX8_bury_1 (fun a1 hF => ?_)
  refine lv_aload_n (pc := 4) hx hb dX8_bury_4 rfl (lv_at hl 0 rfl) ?_
  refine r_gR (pc := 5) CX P hF fl_X8_21 dX8_bury_5 (fun a2 hF => ?_)
  refine r_gR (pc := 8) CX P hF fl_X8_69 dX8_bury_8 (fun a3 hF => ?_)
  refine lv_iload_n (pc := 11) hx hb dX8_bury_11 rfl (lv_at hl 1 rfl) ?_
  refine r_aI (pc := 12) CX P hF dX8_bury_12 (fun v4 hF => ?_)
  refine lv_aload_n (pc := 13) hx hb dX8_bury_13 rfl (lv_at hl 0 rfl) ?_
  refine r_gR (pc := 14) CX P hF fl_X8_21 dX8_bury_14 (fun a5 hF => ?_)
  refine lv_iload_n (pc := 17) hx hb dX8_bury_17 rfl (lv_at hl 1 rfl) ?_
  refine r_cVp (pc := 18) (As := [.int vp1]) (rest := [.int v4, .ref (B + a1)]) CX P hl.1 hF kv_X8_111 (fun r q => c_X0_held l G B _ _ _ _ q) rfl rfl ⟨Nat.le_of_ble_eq_true rfl, Nat.le_of_ble_eq_true rfl⟩ (Nat.le_of_ble_eq_true rfl) ⟨Nat.le_of_ble_eq_true rfl, Nat.le_of_ble_eq_true rfl⟩ dX8_bury_18 (fun v6 H locs P hF => ?_)
  refine lv_ineg (pc := 21) hx hb dX8_bury_21 ?_
  refine r_cVv (pc := 22) (As := [.int v4, .int (-v6)]) (rest := []) CX P hl.1 hF kv_X8_91 (fun h1 q => c_X6_addTotal l G B _ _ _ _ _ q) rfl rfl ⟨Nat.le_of_ble_eq_true rfl, Nat.le_of_ble_eq_true rfl⟩ (Nat.le_of_ble_eq_true rfl) ⟨Nat.le_of_ble_eq_true rfl, Nat.le_of_ble_eq_true rfl⟩ dX8_bury_22 (fun h7 H locs P hF => ?_)
  refine lv_aload_n (pc := 25) hx hb dX8_bury_25 rfl (lv_at hl 0 rfl) ?_
  refine r_gR (pc := 26) CX P hF fl_X8_12 dX8_bury_26 (fun a8 hF => ?_)
  refine lv_aload_n (pc := 29) hx hb dX8_bury_29 rfl (lv_at hl 0 rfl) ?_
  refine r_gR (pc := 30) CX P hF fl_X8_21 dX8_bury_30 (fun a9 hF => ?_)
  refine r_gR (pc := 33) CX P hF fl_X8_69 dX8_bury_33 (fun a10 hF => ?_)
  refine lv_iload_n (pc := 36) hx hb dX8_bury_36 rfl (lv_at hl 1 rfl) ?_
  refine r_aI (pc := 37) CX P hF dX8_bury_37 (fun v11 hF => ?_)
  refine lv_aload_n (pc := 38) hx hb dX8_bury_38 rfl (lv_at hl 0 rfl) ?_
  refine r_gR (pc := 39) CX P hF fl_X8_21 dX8_bury_39 (fun a12 hF => ?_)
  refine r_gR (pc := 42) CX P hF fl_X8_95 dX8_bury_42 (fun a13 hF => ?_)
  refine lv_iload_n (pc := 45) hx hb dX8_bury_45 rfl (lv_at hl 1 rfl) ?_
  refine r_aI (pc := 46) CX P hF dX8_bury_46 (fun v14 hF => ?_)
  refine lv_ineg (pc := 47) hx hb dX8_bury_47 ?_
  refine r_cVv (pc := 48) (As := [.int v11, .int (-v14)]) (rest := []) CX P hl.1 hF kv_X8_98 (fun h1 q => c_X6_addOut l G B _ _ _ _ _ q) rfl rfl ⟨Nat.le_of_ble_eq_true rfl, Nat.le_of_ble_eq_true rfl⟩ (Nat.le_of_ble_eq_true rfl) ⟨Nat.le_of_ble_eq_true rfl, Nat.le_of_ble_eq_true rfl⟩ dX8_bury_48 (fun h15 H locs P hF => ?_)
  refine lv_aload_n (pc := 51) hx hb dX8_bury_51 rfl (lv_at hl 0 rfl) ?_
  refine r_gR (pc := 52) CX P hF fl_X8_21 dX8_bury_52 (fun a16 hF => ?_)
  refine lv_iload_n (pc := 55) hx hb dX8_bury_55 rfl (lv_at hl 1 rfl) ?_
  refine lv_iconst (pc := 56) (v := (-1)) hx hb dX8_bury_56 (by decide) ?_
  refine lv_iconst (pc := 57) (v := 0) hx hb dX8_bury_57 (by decide) ?_
  refine r_cVv (pc := 58) (As := [.int vp1, .int (-1), .int 0]) (rest := []) CX P hl.1 hF kv_X8_114 (fun h1 q => c_X0_putProcess l G B _ _ _ _ _ _ q) rfl rfl ⟨Nat.le_of_ble_eq_true rfl, Nat.le_of_ble_eq_true rfl⟩ (Nat.le_of_ble_eq_true rfl) ⟨Nat.le_of_ble_eq_true rfl, Nat.le_of_ble_eq_true rfl⟩ dX8_bury_58 (fun h17 H locs P hF => ?_)
  cases hF
  exact hret _ _ _ _ P dX8_bury_61
