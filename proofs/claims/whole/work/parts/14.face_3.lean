def F_X9_procs (h : Hp) (a0 : Nat) (vp1 : Int32) : Option (Int32) :=
(gR h a0 9 0).bind fun a1 =>
(gR h a1 8 0).bind fun a2 =>
(cO h a2 6 (F_X6_has h a2 vp1)).bind fun v3 =>
if v3 = 0 then (
some (-2)) else (
(gR h a0 9 0).bind fun a4 =>
(cO h a4 8 (F_X8_bitsOfProcesses h a4 vp1)).bind fun v5 =>
some v5)
set_option maxRecDepth 100000 in
set_option maxHeartbeats 4000000 in
theorem c_X9_procs (l : Launch) (G : GG) (B : Nat) (h : Hp) (a0 : Nat) (vp1 : Int32) (r0 : Int32) (hF : F_X9_procs h a0 vp1 = some r0) : CI l yX9_procs cX9_procs 2 .int 2 47 0 0 G B h [.ref (B + a0), .int vp1] r0 h := by
  refine ent_i rfl (Nat.le_of_ble_eq_true rfl) ?_
  intro p e s m args below meth c ls Q CX hnm hret P hl
  have CX : Cxt p m c cX9_procs 2 s args RX9 G B := CX
  obtain ⟨⟨hx, hb, hml, hown, hts⟩, -, -⟩ := id CX
  replace hl : lv_has ls 2 [(0, .ref (B + a0)), (1, .int vp1)] := hl
  generalize s.heap = H at P ⊢
  generalize ([] : List Loc) = locs at P ⊢
  unfold F_X9_procs at hF
  refine lv_aload_n (pc := 0) hx hb dX9_procs_0 rfl (lv_at hl 0 rfl) ?_
  refine r_gR (pc := 1) CX P hF fl_X9_10 dX9_procs_1 (fun a1 hF => ?_)
  refine r_gR (pc := 4) CX P hF fl_X9_53 dX9_procs_4 (fun a2 hF => ?_)
  refine lv_iload_n (pc := 7) hx hb dX9_procs_7 rfl (lv_at hl 1 rfl) ?_
  refine r_cVp (pc := 8) (As := [.int vp1]) (rest := []) CX P hl.1 hF kv_X9_57 (fun r q => c_X6_has l G B _ _ _ _ q) rfl rfl ⟨Nat.le_of_ble_eq_true rfl, Nat.le_of_ble_eq_true rfl⟩ (Nat.le_of_ble_eq_true rfl) ⟨Nat.le_of_ble_eq_true rfl, Nat.le_of_ble_eq_true rfl⟩ dX9_procs_8 (fun v3 H locs P hF => ?_)
  refine lv_if_eq (pc := 11) (tgt := 25) hx hb dX9_procs_11 (by decide) (fun hc => ?_) (fun hc => ?_)
  · rw [if_pos hc] at hF
    refine lv_bipush (pc := 25) (v := (-2)) hx hb dX9_procs_25 (by decide) ?_
    cases hF
    exact hret _ _ _ _ P rfl dX9_procs_27
  · rw [if_neg hc] at hF
    refine lv_aload_n (pc := 14) hx hb dX9_procs_14 rfl (lv_at hl 0 rfl) ?_
    refine r_gR (pc := 15) CX P hF fl_X9_10 dX9_procs_15 (fun a4 hF => ?_)
    refine lv_iload_n (pc := 18) hx hb dX9_procs_18 rfl (lv_at hl 1 rfl) ?_
    refine r_cVp (pc := 19) (As := [.int vp1]) (rest := []) CX P hl.1 hF kv_X9_92 (fun r q => c_X8_bitsOfProcesses l G B _ _ _ _ q) rfl rfl ⟨Nat.le_of_ble_eq_true rfl, Nat.le_of_ble_eq_true rfl⟩ (Nat.le_of_ble_eq_true rfl) ⟨Nat.le_of_ble_eq_true rfl, Nat.le_of_ble_eq_true rfl⟩ dX9_procs_19 (fun v5 H locs P hF => ?_)
    refine lv_goto (pc := 22) (tgt := 27) hx hb dX9_procs_22 (by decide) ?_
    cases hF
    exact hret _ _ _ _ P rfl dX9_procs_27
def F_X9_common (h : Hp) (a0 : Nat) (vp1 : Int32) (vp2 : Int32) : Option (Int32) :=
(gR h a0 9 0).bind fun a1 =>
(gR h a1 8 0).bind fun a2 =>
(cO h a2 6 (F_X6_has h a2 vp1)).bind fun v3 =>
if v3 = 0 then (
some (-2)) else (
(gR h a0 9 0).bind fun a4 =>
(gR h a4 8 0).bind fun a5 =>
(cO h a5 6 (F_X6_has h a5 vp2)).bind fun v6 =>
if v6 = 0 then (
some (-2)) else (
(gR h a0 9 0).bind fun a7 =>
(gR h a7 8 0).bind fun a8 =>
(cO h a8 6 (F_X6_lowestCommon h a8 vp1 vp2)).bind fun v9 =>
some v9))
set_option maxRecDepth 100000 in
set_option maxHeartbeats 4000000 in
theorem c_X9_common (l : Launch) (G : GG) (B : Nat) (h : Hp) (a0 : Nat) (vp1 : Int32) (vp2 : Int32) (r0 : Int32) (hF : F_X9_common h a0 vp1 vp2 = some r0) : CI l yX9_common cX9_common 3 .int 2 49 0 0 G B h [.ref (B + a0), .int vp1, .int vp2] r0 h := by
  refine ent_i rfl (Nat.le_of_ble_eq_true rfl) ?_
  intro p e s m args below meth c ls Q CX hnm hret P hl
  have CX : Cxt p m c cX9_common 3 s args RX9 G B := CX
  obtain ⟨⟨hx, hb, hml, hown, hts⟩, -, -⟩ := id CX
  replace hl : lv_has ls 3 [(0, .ref (B + a0)), (1, .int vp1), (2, .int vp2)] := hl
  generalize s.heap = H at P ⊢
  generalize ([] : List Loc) = locs at P ⊢
  unfold F_X9_common at hF
  refine lv_aload_n (pc := 0) hx hb dX9_common_0 rfl (lv_at hl 0 rfl) ?_
  refine r_gR (pc := 1) CX P hF fl_X9_10 dX9_common_1 (fun a1 hF => ?_)
  refine r_gR (pc := 4) CX P hF fl_X9_53 dX9_common_4 (fun a2 hF => ?_)
  refine lv_iload_n (pc := 7) hx hb dX9_common_7 rfl (lv_at hl 1 rfl) ?_
  refine r_cVp (pc := 8) (As := [.int vp1]) (rest := []) CX P hl.1 hF kv_X9_57 (fun r q => c_X6_has l G B _ _ _ _ q) rfl rfl ⟨Nat.le_of_ble_eq_true rfl, Nat.le_of_ble_eq_true rfl⟩ (Nat.le_of_ble_eq_true rfl) ⟨Nat.le_of_ble_eq_true rfl, Nat.le_of_ble_eq_true rfl⟩ dX9_common_8 (fun v3 H locs P hF => ?_)
  refine lv_if_eq (pc := 11) (tgt := 28) hx hb dX9_common_11 (by decide) (fun hc => ?_) (fun hc => ?_)
  · rw [if_pos hc] at hF
    refine lv_bipush (pc := 28) (v := (-2)) hx hb dX9_common_28 (by decide) ?_
    cases hF
    exact hret _ _ _ _ P rfl dX9_common_30
  · rw [if_neg hc] at hF
    refine lv_aload_n (pc := 14) hx hb dX9_common_14 rfl (lv_at hl 0 rfl) ?_
    refine r_gR (pc := 15) CX P hF fl_X9_10 dX9_common_15 (fun a4 hF => ?_)
    refine r_gR (pc := 18) CX P hF fl_X9_53 dX9_common_18 (fun a5 hF => ?_)
    refine lv_iload_n (pc := 21) hx hb dX9_common_21 rfl (lv_at hl 2 rfl) ?_
    refine r_cVp (pc := 22) (As := [.int vp2]) (rest := []) CX P hl.1 hF kv_X9_57 (fun r q => c_X6_has l G B _ _ _ _ q) rfl rfl ⟨Nat.le_of_ble_eq_true rfl, Nat.le_of_ble_eq_true rfl⟩ (Nat.le_of_ble_eq_true rfl) ⟨Nat.le_of_ble_eq_true rfl, Nat.le_of_ble_eq_true rfl⟩ dX9_common_22 (fun v6 H locs P hF => ?_)
    refine lv_if_ne (pc := 25) (tgt := 31) hx hb dX9_common_25 (by decide) (fun hc => ?_) (fun hc => ?_)
    · rw [if_neg hc] at hF
      refine lv_aload_n (pc := 31) hx hb dX9_common_31 rfl (lv_at hl 0 rfl) ?_
      refine r_gR (pc := 32) CX P hF fl_X9_10 dX9_common_32 (fun a7 hF => ?_)
      refine r_gR (pc := 35) CX P hF fl_X9_53 dX9_common_35 (fun a8 hF => ?_)
      refine lv_iload_n (pc := 38) hx hb dX9_common_38 rfl (lv_at hl 1 rfl) ?_
      refine lv_iload_n (pc := 39) hx hb dX9_common_39 rfl (lv_at hl 2 rfl) ?_
      refine r_cVp (pc := 40) (As := [.int vp1, .int vp2]) (rest := []) CX P hl.1 hF kv_X9_278 (fun r q => c_X6_lowestCommon l G B _ _ _ _ _ q) rfl rfl ⟨Nat.le_of_ble_eq_true rfl, Nat.le_of_ble_eq_true rfl⟩ (Nat.le_of_ble_eq_true rfl) ⟨Nat.le_of_ble_eq_true rfl, Nat.le_of_ble_eq_true rfl⟩ dX9_common_40 (fun v9 H locs P hF => ?_)
      cases hF
      exact hret _ _ _ _ P rfl dX9_common_43
    · rw [if_pos hc] at hF
      refine lv_bipush (pc := 28) (v := (-2)) hx hb dX9_common_28 (by decide) ?_
      cases hF
      exact hret _ _ _ _ P rfl dX9_common_30
def F_X9_pressure (h : Hp) (a0 : Nat) (vp1 : Int32) (vp2 : Int32) (vp3 : Int32) : Option (Int32) :=
(gR h a0 9 0).bind fun a1 =>
(gR h a1 8 0).bind fun a2 =>
(cO h a2 6 (F_X6_has h a2 vp1)).bind fun v3 =>
if v3 = 0 then (
some (-2)) else (
(F_X9_outside h vp2 0 2).bind fun v4 =>
if v4 = 0 then (
(F_X9_outside h vp3 1 40).bind fun v5 =>
if v5 = 0 then (
(gR h a0 9 0).bind fun a6 =>
(gR h a6 8 2).bind fun a7 =>
(cO h a7 1 (F_X1_recent h a7 vp1 vp2 vp3)).bind fun v8 =>
some v8) else (
some (-3))) else (
some (-3)))
set_option maxRecDepth 100000 in
set_option maxHeartbeats 4000000 in
theorem c_X9_pressure (l : Launch) (G : GG) (B : Nat) (h : Hp) (a0 : Nat) (vp1 : Int32) (vp2 : Int32) (vp3 : Int32) (r0 : Int32) (hF : F_X9_pressure h a0 vp1 vp2 vp3 = some r0) : CI l yX9_pressure cX9_pressure 4 .int 2 44 0 0 G B h [.ref (B + a0), .int vp1, .int vp2, .int vp3] r0 h := by
  refine ent_i rfl (Nat.le_of_ble_eq_true rfl) ?_
  intro p e s m args below meth c ls Q CX hnm hret P hl
  have CX : Cxt p m c cX9_pressure 4 s args RX9 G B := CX
  obtain ⟨⟨hx, hb, hml, hown, hts⟩, -, -⟩ := id CX
  replace hl : lv_has ls 4 [(0, .ref (B + a0)), (1, .int vp1), (2, .int vp2), (3, .int vp3)] := hl
  generalize s.heap = H at P ⊢
  generalize ([] : List Loc) = locs at P ⊢
  unfold F_X9_pressure at hF
  refine lv_aload_n (pc := 0) hx hb dX9_pressure_0 rfl (lv_at hl 0 rfl) ?_
  refine r_gR (pc := 1) CX P hF fl_X9_10 dX9_pressure_1 (fun a1 hF => ?_)
  refine r_gR (pc := 4) CX P hF fl_X9_53 dX9_pressure_4 (fun a2 hF => ?_)
  refine lv_iload_n (pc := 7) hx hb dX9_pressure_7 rfl (lv_at hl 1 rfl) ?_
  refine r_cVp (pc := 8) (As := [.int vp1]) (rest := []) CX P hl.1 hF kv_X9_57 (fun r q => c_X6_has l G B _ _ _ _ q) rfl rfl ⟨Nat.le_of_ble_eq_true rfl, Nat.le_of_ble_eq_true rfl⟩ (Nat.le_of_ble_eq_true rfl) ⟨Nat.le_of_ble_eq_true rfl, Nat.le_of_ble_eq_true rfl⟩ dX9_pressure_8 (fun v3 H locs P hF => ?_)
  refine lv_if_ne (pc := 11) (tgt := 17) hx hb dX9_pressure_11 (by decide) (fun hc => ?_) (fun hc => ?_)
  · rw [if_neg hc] at hF
    refine lv_iload_n (pc := 17) hx hb dX9_pressure_17 rfl (lv_at hl 2 rfl) ?_
    refine lv_iconst (pc := 18) (v := 0) hx hb dX9_pressure_18 (by decide) ?_
    refine lv_iconst (pc := 19) (v := 2) hx hb dX9_pressure_19 (by decide) ?_
    refine r_cSp (pc := 20) (As := [.int vp2, .int 0, .int 2]) (rest := []) CX P hl.1 hF ks_X9_111 (fun r q => c_X9_outside l G B _ _ _ _ _ q) rfl rfl ⟨Nat.le_of_ble_eq_true rfl, Nat.le_of_ble_eq_true rfl⟩ (Nat.le_of_ble_eq_true rfl) ⟨Nat.le_of_ble_eq_true rfl, Nat.le_of_ble_eq_true rfl⟩ dX9_pressure_20 (fun v4 H locs P hF => ?_)
    refine lv_if_ne (pc := 23) (tgt := 36) hx hb dX9_pressure_23 (by decide) (fun hc => ?_) (fun hc => ?_)
    · rw [if_neg hc] at hF
      refine lv_bipush (pc := 36) (v := (-3)) hx hb dX9_pressure_36 (by decide) ?_
      cases hF
      exact hret _ _ _ _ P rfl dX9_pressure_38
    · rw [if_pos hc] at hF
      refine lv_iload_n (pc := 26) hx hb dX9_pressure_26 rfl (lv_at hl 3 rfl) ?_
      refine lv_iconst (pc := 27) (v := 1) hx hb dX9_pressure_27 (by decide) ?_
      refine lv_bipush (pc := 28) (v := 40) hx hb dX9_pressure_28 (by decide) ?_
      refine r_cSp (pc := 30) (As := [.int vp3, .int 1, .int 40]) (rest := []) CX P hl.1 hF ks_X9_111 (fun r q => c_X9_outside l G B _ _ _ _ _ q) rfl rfl ⟨Nat.le_of_ble_eq_true rfl, Nat.le_of_ble_eq_true rfl⟩ (Nat.le_of_ble_eq_true rfl) ⟨Nat.le_of_ble_eq_true rfl, Nat.le_of_ble_eq_true rfl⟩ dX9_pressure_30 (fun v5 H locs P hF => ?_)
      refine lv_if_eq (pc := 33) (tgt := 39) hx hb dX9_pressure_33 (by decide) (fun hc => ?_) (fun hc => ?_)
      · rw [if_pos hc] at hF
        refine lv_aload_n (pc := 39) hx hb dX9_pressure_39 rfl (lv_at hl 0 rfl) ?_
        refine r_gR (pc := 40) CX P hF fl_X9_10 dX9_pressure_40 (fun a6 hF => ?_)
        refine r_gR (pc := 43) CX P hF fl_X9_75 dX9_pressure_43 (fun a7 hF => ?_)
        refine lv_iload_n (pc := 46) hx hb dX9_pressure_46 rfl (lv_at hl 1 rfl) ?_
        refine lv_iload_n (pc := 47) hx hb dX9_pressure_47 rfl (lv_at hl 2 rfl) ?_
        refine lv_iload_n (pc := 48) hx hb dX9_pressure_48 rfl (lv_at hl 3 rfl) ?_
        refine r_cVp (pc := 49) (As := [.int vp1, .int vp2, .int vp3]) (rest := []) CX P hl.1 hF kv_X9_281 (fun r q => c_X1_recent l G B _ _ _ _ _ _ q) rfl rfl ⟨Nat.le_of_ble_eq_true rfl, Nat.le_of_ble_eq_true rfl⟩ (Nat.le_of_ble_eq_true rfl) ⟨Nat.le_of_ble_eq_true rfl, Nat.le_of_ble_eq_true rfl⟩ dX9_pressure_49 (fun v8 H locs P hF => ?_)
        cases hF
        exact hret _ _ _ _ P rfl dX9_pressure_52
      · rw [if_neg hc] at hF
        refine lv_bipush (pc := 36) (v := (-3)) hx hb dX9_pressure_36 (by decide) ?_
        cases hF
        exact hret _ _ _ _ P rfl dX9_pressure_38
  · rw [if_pos hc] at hF
    refine lv_bipush (pc := 14) (v := (-2)) hx hb dX9_pressure_14 (by decide) ?_
    cases hF
    exact hret _ _ _ _ P rfl dX9_pressure_16
def F_X9_average (h : Hp) (a0 : Nat) (vp1 : Int32) (vp2 : Int32) (vp3 : Int32) : Option (Int32) :=
(gR h a0 9 0).bind fun a1 =>
(gR h a1 8 0).bind fun a2 =>
(cO h a2 6 (F_X6_has h a2 vp1)).bind fun v3 =>
if v3 = 0 then (
some (-2)) else (
(F_X9_outside h vp2 0 2).bind fun v4 =>
if v4 = 0 then (
(F_X9_outside h vp3 0 2).bind fun v5 =>
if v5 = 0 then (
(gR h a0 9 0).bind fun a6 =>
(gR h a6 8 2).bind fun a7 =>
(gR h a7 1 2).bind fun a8 =>
(aR h a8 15 ((vp2 * 3) + vp3)).bind fun a9 =>
(aI h a9 vp1).bind fun v10 =>
some v10) else (
some (-3))) else (
some (-3)))
set_option maxRecDepth 100000 in
set_option maxHeartbeats 4000000 in
theorem c_X9_average (l : Launch) (G : GG) (B : Nat) (h : Hp) (a0 : Nat) (vp1 : Int32) (vp2 : Int32) (vp3 : Int32) (r0 : Int32) (hF : F_X9_average h a0 vp1 vp2 vp3 = some r0) : CI l yX9_average cX9_average 4 .int 1 22 0 0 G B h [.ref (B + a0), .int vp1, .int vp2, .int vp3] r0 h := by
  refine ent_i rfl (Nat.le_of_ble_eq_true rfl) ?_
  intro p e s m args below meth c ls Q CX hnm hret P hl
  have CX : Cxt p m c cX9_average 4 s args RX9 G B := CX
  obtain ⟨⟨hx, hb, hml, hown, hts⟩, -, -⟩ := id CX
  replace hl : lv_has ls 4 [(0, .ref (B + a0)), (1, .int vp1), (2, .int vp2), (3, .int vp3)] := hl
  generalize s.heap = H at P ⊢
  generalize ([] : List Loc) = locs at P ⊢
  unfold F_X9_average at hF
  refine lv_aload_n (pc := 0) hx hb dX9_average_0 rfl (lv_at hl 0 rfl) ?_
  refine r_gR (pc := 1) CX P hF fl_X9_10 dX9_average_1 (fun a1 hF => ?_)
  refine r_gR (pc := 4) CX P hF fl_X9_53 dX9_average_4 (fun a2 hF => ?_)
  refine lv_iload_n (pc := 7) hx hb dX9_average_7 rfl (lv_at hl 1 rfl) ?_
  refine r_cVp (pc := 8) (As := [.int vp1]) (rest := []) CX P hl.1 hF kv_X9_57 (fun r q => c_X6_has l G B _ _ _ _ q) rfl rfl ⟨Nat.le_of_ble_eq_true rfl, Nat.le_of_ble_eq_true rfl⟩ (Nat.le_of_ble_eq_true rfl) ⟨Nat.le_of_ble_eq_true rfl, Nat.le_of_ble_eq_true rfl⟩ dX9_average_8 (fun v3 H locs P hF => ?_)
  refine lv_if_ne (pc := 11) (tgt := 17) hx hb dX9_average_11 (by decide) (fun hc => ?_) (fun hc => ?_)
  · rw [if_neg hc] at hF
    refine lv_iload_n (pc := 17) hx hb dX9_average_17 rfl (lv_at hl 2 rfl) ?_
    refine lv_iconst (pc := 18) (v := 0) hx hb dX9_average_18 (by decide) ?_
    refine lv_iconst (pc := 19) (v := 2) hx hb dX9_average_19 (by decide) ?_
    refine r_cSp (pc := 20) (As := [.int vp2, .int 0, .int 2]) (rest := []) CX P hl.1 hF ks_X9_111 (fun r q => c_X9_outside l G B _ _ _ _ _ q) rfl rfl ⟨Nat.le_of_ble_eq_true rfl, Nat.le_of_ble_eq_true rfl⟩ (Nat.le_of_ble_eq_true rfl) ⟨Nat.le_of_ble_eq_true rfl, Nat.le_of_ble_eq_true rfl⟩ dX9_average_20 (fun v4 H locs P hF => ?_)
    refine lv_if_ne (pc := 23) (tgt := 35) hx hb dX9_average_23 (by decide) (fun hc => ?_) (fun hc => ?_)
    · rw [if_neg hc] at hF
      refine lv_bipush (pc := 35) (v := (-3)) hx hb dX9_average_35 (by decide) ?_
      cases hF
      exact hret _ _ _ _ P rfl dX9_average_37
    · rw [if_pos hc] at hF
      refine lv_iload_n (pc := 26) hx hb dX9_average_26 rfl (lv_at hl 3 rfl) ?_
      refine lv_iconst (pc := 27) (v := 0) hx hb dX9_average_27 (by decide) ?_
      refine lv_iconst (pc := 28) (v := 2) hx hb dX9_average_28 (by decide) ?_
      refine r_cSp (pc := 29) (As := [.int vp3, .int 0, .int 2]) (rest := []) CX P hl.1 hF ks_X9_111 (fun r q => c_X9_outside l G B _ _ _ _ _ q) rfl rfl ⟨Nat.le_of_ble_eq_true rfl, Nat.le_of_ble_eq_true rfl⟩ (Nat.le_of_ble_eq_true rfl) ⟨Nat.le_of_ble_eq_true rfl, Nat.le_of_ble_eq_true rfl⟩ dX9_average_29 (fun v5 H locs P hF => ?_)
      refine lv_if_eq (pc := 32) (tgt := 38) hx hb dX9_average_32 (by decide) (fun hc => ?_) (fun hc => ?_)
      · rw [if_pos hc] at hF
        refine lv_aload_n (pc := 38) hx hb dX9_average_38 rfl (lv_at hl 0 rfl) ?_
        refine r_gR (pc := 39) CX P hF fl_X9_10 dX9_average_39 (fun a6 hF => ?_)
        refine r_gR (pc := 42) CX P hF fl_X9_75 dX9_average_42 (fun a7 hF => ?_)
        refine r_gR (pc := 45) CX P hF fl_X9_284 dX9_average_45 (fun a8 hF => ?_)
        refine lv_iload_n (pc := 48) hx hb dX9_average_48 rfl (lv_at hl 2 rfl) ?_
        refine lv_iconst (pc := 49) (v := 3) hx hb dX9_average_49 (by decide) ?_
        refine lv_imul (pc := 50) hx hb dX9_average_50 ?_
        refine lv_iload_n (pc := 51) hx hb dX9_average_51 rfl (lv_at hl 3 rfl) ?_
        refine lv_iadd (pc := 52) hx hb dX9_average_52 ?_
        refine r_aR (pc := 53) CX P hF (Or.inr (Or.inl rfl)) dX9_average_53 (fun a9 hF => ?_)
        refine lv_iload_n (pc := 54) hx hb dX9_average_54 rfl (lv_at hl 1 rfl) ?_
        refine r_aI (pc := 55) CX P hF dX9_average_55 (fun v10 hF => ?_)
        cases hF
        exact hret _ _ _ _ P rfl dX9_average_56
      · rw [if_neg hc] at hF
        refine lv_bipush (pc := 35) (v := (-3)) hx hb dX9_average_35 (by decide) ?_
        cases hF
        exact hret _ _ _ _ P rfl dX9_average_37
  · rw [if_pos hc] at hF
    refine lv_bipush (pc := 14) (v := (-2)) hx hb dX9_average_14 (by decide) ?_
    cases hF
    exact hret _ _ _ _ P rfl dX9_average_16
def F_X9_stalls (h : Hp) (a0 : Nat) (vp1 : Int32) (vp2 : Int32) : Option (Int32) :=
(gR h a0 9 0).bind fun a1 =>
(gR h a1 8 0).bind fun a2 =>
(cO h a2 6 (F_X6_has h a2 vp1)).bind fun v3 =>
if v3 = 0 then (
some (-2)) else (
(F_X9_outside h vp2 0 2).bind fun v4 =>
if v4 = 0 then (
(gR h a0 9 0).bind fun a5 =>
(gR h a5 8 2).bind fun a6 =>
(gR h a6 1 1).bind fun a7 =>
(aR h a7 15 vp2).bind fun a8 =>
(aI h a8 vp1).bind fun v9 =>
some v9) else (
some (-3)))
set_option maxRecDepth 100000 in
set_option maxHeartbeats 4000000 in
theorem c_X9_stalls (l : Launch) (G : GG) (B : Nat) (h : Hp) (a0 : Nat) (vp1 : Int32) (vp2 : Int32) (r0 : Int32) (hF : F_X9_stalls h a0 vp1 vp2 = some r0) : CI l yX9_stalls cX9_stalls 3 .int 1 22 0 0 G B h [.ref (B + a0), .int vp1, .int vp2] r0 h := by
  refine ent_i rfl (Nat.le_of_ble_eq_true rfl) ?_
  intro p e s m args below meth c ls Q CX hnm hret P hl
  have CX : Cxt p m c cX9_stalls 3 s args RX9 G B := CX
  obtain ⟨⟨hx, hb, hml, hown, hts⟩, -, -⟩ := id CX
  replace hl : lv_has ls 3 [(0, .ref (B + a0)), (1, .int vp1), (2, .int vp2)] := hl
  generalize s.heap = H at P ⊢
  generalize ([] : List Loc) = locs at P ⊢
  unfold F_X9_stalls at hF
  refine lv_aload_n (pc := 0) hx hb dX9_stalls_0 rfl (lv_at hl 0 rfl) ?_
  refine r_gR (pc := 1) CX P hF fl_X9_10 dX9_stalls_1 (fun a1 hF => ?_)
  refine r_gR (pc := 4) CX P hF fl_X9_53 dX9_stalls_4 (fun a2 hF => ?_)
  refine lv_iload_n (pc := 7) hx hb dX9_stalls_7 rfl (lv_at hl 1 rfl) ?_
  refine r_cVp (pc := 8) (As := [.int vp1]) (rest := []) CX P hl.1 hF kv_X9_57 (fun r q => c_X6_has l G B _ _ _ _ q) rfl rfl ⟨Nat.le_of_ble_eq_true rfl, Nat.le_of_ble_eq_true rfl⟩ (Nat.le_of_ble_eq_true rfl) ⟨Nat.le_of_ble_eq_true rfl, Nat.le_of_ble_eq_true rfl⟩ dX9_stalls_8 (fun v3 H locs P hF => ?_)
  refine lv_if_ne (pc := 11) (tgt := 17) hx hb dX9_stalls_11 (by decide) (fun hc => ?_) (fun hc => ?_)
  · rw [if_neg hc] at hF
    refine lv_iload_n (pc := 17) hx hb dX9_stalls_17 rfl (lv_at hl 2 rfl) ?_
    refine lv_iconst (pc := 18) (v := 0) hx hb dX9_stalls_18 (by decide) ?_
    refine lv_iconst (pc := 19) (v := 2) hx hb dX9_stalls_19 (by decide) ?_
    refine r_cSp (pc := 20) (As := [.int vp2, .int 0, .int 2]) (rest := []) CX P hl.1 hF ks_X9_111 (fun r q => c_X9_outside l G B _ _ _ _ _ q) rfl rfl ⟨Nat.le_of_ble_eq_true rfl, Nat.le_of_ble_eq_true rfl⟩ (Nat.le_of_ble_eq_true rfl) ⟨Nat.le_of_ble_eq_true rfl, Nat.le_of_ble_eq_true rfl⟩ dX9_stalls_20 (fun v4 H locs P hF => ?_)
    refine lv_if_eq (pc := 23) (tgt := 29) hx hb dX9_stalls_23 (by decide) (fun hc => ?_) (fun hc => ?_)
    · rw [if_pos hc] at hF
      refine lv_aload_n (pc := 29) hx hb dX9_stalls_29 rfl (lv_at hl 0 rfl) ?_
      refine r_gR (pc := 30) CX P hF fl_X9_10 dX9_stalls_30 (fun a5 hF => ?_)
      refine r_gR (pc := 33) CX P hF fl_X9_75 dX9_stalls_33 (fun a6 hF => ?_)
      refine r_gR (pc := 36) CX P hF fl_X9_287 dX9_stalls_36 (fun a7 hF => ?_)
      refine lv_iload_n (pc := 39) hx hb dX9_stalls_39 rfl (lv_at hl 2 rfl) ?_
      refine r_aR (pc := 40) CX P hF (Or.inr (Or.inl rfl)) dX9_stalls_40 (fun a8 hF => ?_)
      refine lv_iload_n (pc := 41) hx hb dX9_stalls_41 rfl (lv_at hl 1 rfl) ?_
      refine r_aI (pc := 42) CX P hF dX9_stalls_42 (fun v9 hF => ?_)
      cases hF
      exact hret _ _ _ _ P rfl dX9_stalls_43
    · rw [if_neg hc] at hF
      refine lv_bipush (pc := 26) (v := (-3)) hx hb dX9_stalls_26 (by decide) ?_
      cases hF
      exact hret _ _ _ _ P rfl dX9_stalls_28
  · rw [if_pos hc] at hF
    refine lv_bipush (pc := 14) (v := (-2)) hx hb dX9_stalls_14 (by decide) ?_
    cases hF
    exact hret _ _ _ _ P rfl dX9_stalls_16
def F_X9_worst_L6 (h6 : Hp) (a2 : Nat) (v3 : Int32) (v4 : Int32) (v5 : Int32) : Option ((Int32 × Int32 × Int32) ⊕ (Int32)) :=
if 12 ≤ v5 then (
some (.inr v3)) else (
(gR h6 a2 9 0).bind fun a7 =>
(gR h6 a7 8 0).bind fun a8 =>
(cO h6 a8 6 (F_X6_has h6 a8 v5)).bind fun v9 =>
(if v9 = 0 then (
some 0) else (
(gR h6 a2 9 0).bind fun a11 =>
(gR h6 a11 8 2).bind fun a12 =>
(cO h6 a12 1 (F_X1_recent h6 a12 v5 0 10)).bind fun v13 =>
some v13)).bind fun v14 =>
if v14 ≤ v4 then (
bl (v5 + 1) fun v15 =>
some (.inl (v3, v4, v15))) else (
bl (v5 + 1) fun v16 =>
some (.inl (v5, v14, v16))))
def F_X9_worst (h : Hp) (a0 : Nat) : Option (Int32) :=
(loopF (fun x => F_X9_worst_L6 h a0 x.1 x.2.1 x.2.2) 6000 ((-1), 0, 1)).bind fun v17 =>
some v17
set_option maxRecDepth 100000 in
set_option maxHeartbeats 4000000 in
theorem c_X9_worst (l : Launch) (G : GG) (B : Nat) (h : Hp) (a0 : Nat) (r0 : Int32) (hF : F_X9_worst h a0 = some r0) : CI l yX9_worst cX9_worst 5 .int 2 44 0 0 G B h [.ref (B + a0)] r0 h := by
  refine ent_i rfl (Nat.le_of_ble_eq_true rfl) ?_
  intro p e s m args below meth c ls Q CX hnm hret P hl
  have CX : Cxt p m c cX9_worst 5 s args RX9 G B := CX
  obtain ⟨⟨hx, hb, hml, hown, hts⟩, -, -⟩ := id CX
  replace hl : lv_has ls 5 [(0, .ref (B + a0))] := hl
  generalize s.heap = H at P ⊢
  generalize ([] : List Loc) = locs at P ⊢
  unfold F_X9_worst at hF
  refine lv_iconst (pc := 0) (v := (-1)) hx hb dX9_worst_0 (by decide) ?_
  refine lv_istore_n (pc := 1) hx hb dX9_worst_1 rfl hl (by decide) rfl (fun ls hl => ?_)
  replace hl : lv_has ls 5 [(1, .int (-1)), (0, .ref (B + a0))] := hl
  refine lv_iconst (pc := 2) (v := 0) hx hb dX9_worst_2 (by decide) ?_
  refine lv_istore_n (pc := 3) hx hb dX9_worst_3 rfl hl (by decide) rfl (fun ls hl => ?_)
  replace hl : lv_has ls 5 [(2, .int 0), (1, .int (-1)), (0, .ref (B + a0))] := hl
  refine lv_iconst (pc := 4) (v := 1) hx hb dX9_worst_4 (by decide) ?_
  refine lv_istore_n (pc := 5) hx hb dX9_worst_5 rfl hl (by decide) rfl (fun ls hl => ?_)
  replace hl : lv_has ls 5 [(3, .int 1), (2, .int 0), (1, .int (-1)), (0, .ref (B + a0))] := hl
  obtain ⟨r1, hLp1, hK1⟩ := bd_some hF
  have hX1 : ∀ (v17 : Int32) (H : Heap) (locs : List Loc) (ls : Array Slot), Pic G B h s H locs → lv_has ls 5 [(1, .int v17)] → v17 = r1 → W p l e (rmM 2 44 0 0) s m args below meth c H locs 0 0 Q (F0 m 63 ls []) := by
    intro v17 H locs ls P hl er
    subst er
    have hF := hK1
    refine lv_iload_n (pc := 63) hx hb dX9_worst_63 rfl (lv_at hl 0 rfl) ?_
    cases hF
    exact hret _ _ _ _ P rfl dX9_worst_64
  have hL1 : ∀ (n : Nat) (v3 : Int32) (v4 : Int32) (v5 : Int32) (H : Heap) (locs : List Loc) (ls : Array Slot), Pic G B h s H locs → lv_has ls 5 [(0, .ref (B + a0)), (1, .int v3), (2, .int v4), (3, .int v5)] → loopF (fun x => F_X9_worst_L6 h a0 x.1 x.2.1 x.2.2) n (v3, v4, v5) = some r1 → W p l e (rmM 2 44 0 0) s m args below meth c H locs 0 0 Q (F0 m 6 ls []) := by
    intro n
    induction n with
    | zero => intro v3 v4 v5 H locs ls P hl hq; cases hq
    | succ n ih =>
      intro v3 v4 v5 H locs ls P hl hq
      obtain ⟨z1, hS1, hI1, hR1⟩ := loop_some hq
      have hF : F_X9_worst_L6 h a0 v3 v4 v5 = some z1 := hS1
      unfold F_X9_worst_L6 at hF
      refine lv_iload_n (pc := 6) hx hb dX9_worst_6 rfl (lv_at hl 3 rfl) ?_
      refine lv_bipush (pc := 7) (v := 12) hx hb dX9_worst_7 (by decide) ?_
      refine lv_icmp_ge (pc := 9) (tgt := 63) hx hb dX9_worst_9 (by decide) (fun hc => ?_) (fun hc => ?_)
      · rw [if_pos hc] at hF
        exact hX1 _ _ _ _ P (lv_sub hl [1] rfl) (hR1 _ (Option.some.inj hF).symm)
      · rw [if_neg hc] at hF
        refine lv_aload_n (pc := 12) hx hb dX9_worst_12 rfl (lv_at hl 0 rfl) ?_
        refine r_gR (pc := 13) CX P hF fl_X9_10 dX9_worst_13 (fun a7 hF => ?_)
        refine r_gR (pc := 16) CX P hF fl_X9_53 dX9_worst_16 (fun a8 hF => ?_)
        refine lv_iload_n (pc := 19) hx hb dX9_worst_19 rfl (lv_at hl 3 rfl) ?_
        refine r_cVp (pc := 20) (As := [.int v5]) (rest := []) CX P hl.1 hF kv_X9_57 (fun r q => c_X6_has l G B _ _ _ _ q) rfl rfl ⟨Nat.le_of_ble_eq_true rfl, Nat.le_of_ble_eq_true rfl⟩ (Nat.le_of_ble_eq_true rfl) ⟨Nat.le_of_ble_eq_true rfl, Nat.le_of_ble_eq_true rfl⟩ dX9_worst_20 (fun v9 H locs P hF => ?_)
        obtain ⟨j10, hA10, hK10⟩ := bd_some hF
        have hJ10 : ∀ (v14 : Int32) (H : Heap) (locs : List Loc) (ls : Array Slot), Pic G B h s H locs → lv_has ls 5 [(0, .ref (B + a0)), (1, .int v3), (2, .int v4), (3, .int v5)] → v14 = j10 → W p l e (rmM 2 44 0 0) s m args below meth c H locs 0 0 Q (F0 m 44 ls [.int v14]) := by
          intro v14 H locs ls P hl ej
          subst ej
          have hF := hK10
          refine lv_istore (pc := 44) hx hb dX9_worst_44 hl (by decide) rfl (fun ls hl => ?_)
          replace hl : lv_has ls 5 [(4, .int v14), (0, .ref (B + a0)), (1, .int v3), (2, .int v4), (3, .int v5)] := hl
          refine lv_iload (pc := 46) hx hb dX9_worst_46 (lv_at hl 0 rfl) ?_
          refine lv_iload_n (pc := 48) hx hb dX9_worst_48 rfl (lv_at hl 3 rfl) ?_
          refine lv_icmp_le (pc := 49) (tgt := 57) hx hb dX9_worst_49 (by decide) (fun hc => ?_) (fun hc => ?_)
          · rw [if_pos hc] at hF
            obtain ⟨v15, ev15, hF⟩ := bl_o hF
            refine lv_iinc (pc := 57) (k := 4) (v := v15) hx hb dX9_worst_57 hl rfl ev15 (by decide) rfl (fun ls hl => ?_)
            replace hl : lv_has ls 5 [(3, .int v15), (4, .int v14), (0, .ref (B + a0)), (1, .int v3), (2, .int v4)] := hl
            refine lv_goto (pc := 60) (tgt := 6) hx hb dX9_worst_60 (by decide) ?_
            exact ih _ _ _ _ _ _ P (lv_sub hl [2, 3, 4, 0] rfl) (hI1 _ (Option.some.inj hF).symm)
          · rw [if_neg hc] at hF
            refine lv_iload (pc := 52) hx hb dX9_worst_52 (lv_at hl 0 rfl) ?_
            refine lv_istore_n (pc := 54) hx hb dX9_worst_54 rfl hl (by decide) rfl (fun ls hl => ?_)
            replace hl : lv_has ls 5 [(2, .int v14), (4, .int v14), (0, .ref (B + a0)), (1, .int v3), (3, .int v5)] := hl
            refine lv_iload_n (pc := 55) hx hb dX9_worst_55 rfl (lv_at hl 4 rfl) ?_
            refine lv_istore_n (pc := 56) hx hb dX9_worst_56 rfl hl (by decide) rfl (fun ls hl => ?_)
            replace hl : lv_has ls 5 [(1, .int v5), (2, .int v14), (4, .int v14), (0, .ref (B + a0)), (3, .int v5)] := hl
            obtain ⟨v16, ev16, hF⟩ := bl_o hF
            refine lv_iinc (pc := 57) (k := 4) (v := v16) hx hb dX9_worst_57 hl rfl ev16 (by decide) rfl (fun ls hl => ?_)
            replace hl : lv_has ls 5 [(3, .int v16), (1, .int v5), (2, .int v14), (4, .int v14), (0, .ref (B + a0))] := hl
            refine lv_goto (pc := 60) (tgt := 6) hx hb dX9_worst_60 (by decide) ?_
            exact ih _ _ _ _ _ _ P (lv_sub hl [4, 1, 2, 0] rfl) (hI1 _ (Option.some.inj hF).symm)
        replace hF := hA10
        refine lv_if_eq (pc := 23) (tgt := 43) hx hb dX9_worst_23 (by decide) (fun hc => ?_) (fun hc => ?_)
        · rw [if_pos hc] at hF
          refine lv_iconst (pc := 43) (v := 0) hx hb dX9_worst_43 (by decide) ?_
          exact hJ10 _ _ _ _ P (lv_sub hl [0, 1, 2, 3] rfl) (Option.some.inj hF)
        · rw [if_neg hc] at hF
          refine lv_aload_n (pc := 26) hx hb dX9_worst_26 rfl (lv_at hl 0 rfl) ?_
          refine r_gR (pc := 27) CX P hF fl_X9_10 dX9_worst_27 (fun a11 hF => ?_)
          refine r_gR (pc := 30) CX P hF fl_X9_75 dX9_worst_30 (fun a12 hF => ?_)
          refine lv_iload_n (pc := 33) hx hb dX9_worst_33 rfl (lv_at hl 3 rfl) ?_
          refine lv_iconst (pc := 34) (v := 0) hx hb dX9_worst_34 (by decide) ?_
          refine lv_bipush (pc := 35) (v := 10) hx hb dX9_worst_35 (by decide) ?_
          refine r_cVp (pc := 37) (As := [.int v5, .int 0, .int 10]) (rest := []) CX P hl.1 hF kv_X9_281 (fun r q => c_X1_recent l G B _ _ _ _ _ _ q) rfl rfl ⟨Nat.le_of_ble_eq_true rfl, Nat.le_of_ble_eq_true rfl⟩ (Nat.le_of_ble_eq_true rfl) ⟨Nat.le_of_ble_eq_true rfl, Nat.le_of_ble_eq_true rfl⟩ dX9_worst_37 (fun v13 H locs P hF => ?_)
          refine lv_goto (pc := 40) (tgt := 44) hx hb dX9_worst_40 (by decide) ?_
          exact hJ10 _ _ _ _ P (lv_sub hl [0, 1, 2, 3] rfl) (Option.some.inj hF)
  exact hL1 _ _ _ _ _ _ _ P (lv_sub hl [3, 2, 1, 0] rfl) hLp1
def F_X9_units (h : Hp) (a0 : Nat) (vp1 : Int32) (vp2 : Int32) : Option (Int32 × Hp) :=
bl (fun (h26 : Hp) =>
bl (fun (h39 : Hp) =>
bl (fun (_ : Unit) =>
(gR h39 a0 9 6).bind fun a41 =>
(gR h39 a0 9 0).bind fun a42 =>
(cO h39 a41 2 (F_X2_plan h39 a41 a42)).bind fun h43 =>
(gR h43 a0 9 6).bind fun a44 =>
(gR h43 a44 2 0).bind fun a45 =>
if (0 : Int32) = 0 then (
(aI h43 a45 (12 + vp1)).bind fun v46 =>
some (v46, h43)) else (
(aI h43 a45 vp1).bind fun v47 =>
some (v47, h43))) fun k40 =>
if (0 : Int32) = 0 then (
if (0 : Int32) = 0 then (
some ((-2), h39)) else (
k40 ())) else (
k40 ())) fun k27 =>
if vp2 = 1 then (
(gR h26 a0 9 0).bind fun a28 =>
(gR h26 a28 8 1).bind fun a29 =>
(cO h26 a29 0 (F_X0_has h26 a29 vp1)).bind fun v30 =>
if v30 = 0 then (
k27 h26) else (
bl (fun (_ : Unit) =>
(gR h26 a0 9 6).bind fun a32 =>
(gR h26 a0 9 0).bind fun a33 =>
(cO h26 a32 2 (F_X2_plan h26 a32 a33)).bind fun h34 =>
(gR h34 a0 9 6).bind fun a35 =>
(gR h34 a35 2 0).bind fun a36 =>
if (0 : Int32) = 0 then (
(aI h34 a36 (12 + vp1)).bind fun v37 =>
some (v37, h34)) else (
(aI h34 a36 vp1).bind fun v38 =>
some (v38, h34))) fun k31 =>
if (0 : Int32) = 0 then (
if (1 : Int32) = 0 then (
some ((-2), h26)) else (
k31 ())) else (
k31 ()))) else (
k27 h26)) fun k1 =>
if vp2 = 0 then (
(gR h a0 9 0).bind fun a2 =>
(gR h a2 8 0).bind fun a3 =>
(cO h a3 6 (F_X6_has h a3 vp1)).bind fun v4 =>
if v4 = 0 then (
k1 h) else (
bl (fun (h17 : Hp) =>
bl (fun (_ : Unit) =>
(gR h17 a0 9 6).bind fun a19 =>
(gR h17 a0 9 0).bind fun a20 =>
(cO h17 a19 2 (F_X2_plan h17 a19 a20)).bind fun h21 =>
(gR h21 a0 9 6).bind fun a22 =>
(gR h21 a22 2 0).bind fun a23 =>
if (1 : Int32) = 0 then (
(aI h21 a23 (12 + vp1)).bind fun v24 =>
some (v24, h21)) else (
(aI h21 a23 vp1).bind fun v25 =>
some (v25, h21))) fun k18 =>
if (1 : Int32) = 0 then (
if (0 : Int32) = 0 then (
some ((-2), h17)) else (
k18 ())) else (
k18 ())) fun k5 =>
if vp2 = 1 then (
(gR h a0 9 0).bind fun a6 =>
(gR h a6 8 1).bind fun a7 =>
(cO h a7 0 (F_X0_has h a7 vp1)).bind fun v8 =>
if v8 = 0 then (
k5 h) else (
bl (fun (_ : Unit) =>
(gR h a0 9 6).bind fun a10 =>
(gR h a0 9 0).bind fun a11 =>
(cO h a10 2 (F_X2_plan h a10 a11)).bind fun h12 =>
(gR h12 a0 9 6).bind fun a13 =>
(gR h12 a13 2 0).bind fun a14 =>
if (1 : Int32) = 0 then (
(aI h12 a14 (12 + vp1)).bind fun v15 =>
some (v15, h12)) else (
(aI h12 a14 vp1).bind fun v16 =>
some (v16, h12))) fun k9 =>
if (1 : Int32) = 0 then (
if (1 : Int32) = 0 then (
some ((-2), h)) else (
k9 ())) else (
k9 ()))) else (
k5 h))) else (
k1 h)
set_option maxRecDepth 100000 in
set_option maxHeartbeats 4000000 in
theorem c_X9_units (l : Launch) (G : GG) (B : Nat) (h : Hp) (a0 : Nat) (vp1 : Int32) (vp2 : Int32) (r0 : Int32) (hr : Hp) (hF : F_X9_units h a0 vp1 vp2 = some (r0, hr)) : CI l yX9_units cX9_units 5 .int 4 110 0 0 G B h [.ref (B + a0), .int vp1, .int vp2] r0 hr := by
  refine ent_i rfl (Nat.le_of_ble_eq_true rfl) ?_
  intro p e s m args below meth c ls Q CX hnm hret P hl
  have CX : Cxt p m c cX9_units 5 s args RX9 G B := CX
  obtain ⟨⟨hx, hb, hml, hown, hts⟩, -, -⟩ := id CX
  replace hl : lv_has ls 5 [(0, .ref (B + a0)), (1, .int vp1), (2, .int vp2)] := hl
  generalize s.heap = H at P ⊢
  generalize ([] : List Loc) = locs at P ⊢
  unfold F_X9_units at hF
  refine lv_iload_n (pc := 0) hx hb dX9_units_0 rfl (lv_at hl 2 rfl) ?_
  obtain ⟨k1, ek1, hF⟩ := bl_o hF
  have hJ1 : ∀ (h26 : Hp) (H : Heap) (locs : List Loc) (ls : Array Slot), Pic G B h26 s H locs → lv_has ls 5 [(0, .ref (B + a0)), (1, .int vp1), (2, .int vp2)] → k1 h26 = some (r0, hr) → W p l e (rmM 4 110 0 0) s m args below meth c H locs 0 0 Q (F0 m 22 ls []) := by
    intro h26 H locs ls P hl hF
    rw [← ek1] at hF
    dsimp only at hF
    refine lv_iconst (pc := 22) (v := 0) hx hb dX9_units_22 (by decide) ?_
    refine lv_istore_n (pc := 23) hx hb dX9_units_23 rfl hl (by decide) rfl (fun ls hl => ?_)
    replace hl : lv_has ls 5 [(3, .int 0), (0, .ref (B + a0)), (1, .int vp1), (2, .int vp2)] := hl
    refine lv_iload_n (pc := 24) hx hb dX9_units_24 rfl (lv_at hl 3 rfl) ?_
    refine lv_iconst (pc := 25) (v := 1) hx hb dX9_units_25 (by decide) ?_
    obtain ⟨k27, ek27, hF⟩ := bl_o hF
    have hJ27 : ∀ (h39 : Hp) (H : Heap) (locs : List Loc) (ls : Array Slot), Pic G B h39 s H locs → lv_has ls 5 [(0, .ref (B + a0)), (1, .int vp1), (3, .int 0)] → k27 h39 = some (r0, hr) → W p l e (rmM 4 110 0 0) s m args below meth c H locs 0 0 Q (F0 m 47 ls []) := by
      intro h39 H locs ls P hl hF
      rw [← ek27] at hF
      dsimp only at hF
      refine lv_iconst (pc := 47) (v := 0) hx hb dX9_units_47 (by decide) ?_
      refine lv_istore (pc := 48) hx hb dX9_units_48 hl (by decide) rfl (fun ls hl => ?_)
      replace hl : lv_has ls 5 [(4, .int 0), (0, .ref (B + a0)), (1, .int vp1), (3, .int 0)] := hl
      refine lv_iload_n (pc := 50) hx hb dX9_units_50 rfl (lv_at hl 3 rfl) ?_
      obtain ⟨k40, ek40, hF⟩ := bl_o hF
      have hJ40 : ∀  (H : Heap) (locs : List Loc) (ls : Array Slot), Pic G B h39 s H locs → lv_has ls 5 [(0, .ref (B + a0)), (1, .int vp1), (3, .int 0)] → k40 () = some (r0, hr) → W p l e (rmM 4 110 0 0) s m args below meth c H locs 0 0 Q (F0 m 62 ls []) := by
        intro  H locs ls P hl hF
        rw [← ek40] at hF
        dsimp only at hF
        refine lv_aload_n (pc := 62) hx hb dX9_units_62 rfl (lv_at hl 0 rfl) ?_
        refine r_gR (pc := 63) CX P hF fl_X9_49 dX9_units_63 (fun a41 hF => ?_)
        refine lv_aload_n (pc := 66) hx hb dX9_units_66 rfl (lv_at hl 0 rfl) ?_
        refine r_gR (pc := 67) CX P hF fl_X9_10 dX9_units_67 (fun a42 hF => ?_)
        refine r_cVv (pc := 70) (As := [.ref (B + a42)]) (rest := []) CX P hl.1 hF kv_X9_290 (fun h1 q => c_X2_plan l G B _ _ _ _ q) rfl rfl ⟨Nat.le_of_ble_eq_true rfl, Nat.le_of_ble_eq_true rfl⟩ (Nat.le_of_ble_eq_true rfl) ⟨Nat.le_of_ble_eq_true rfl, Nat.le_of_ble_eq_true rfl⟩ dX9_units_70 (fun h43 H locs P hF => ?_)
        refine lv_aload_n (pc := 73) hx hb dX9_units_73 rfl (lv_at hl 0 rfl) ?_
        refine r_gR (pc := 74) CX P hF fl_X9_49 dX9_units_74 (fun a44 hF => ?_)
        refine r_gR (pc := 77) CX P hF fl_X9_293 dX9_units_77 (fun a45 hF => ?_)
        refine lv_iload_n (pc := 80) hx hb dX9_units_80 rfl (lv_at hl 2 rfl) ?_
        refine lv_if_eq (pc := 81) (tgt := 88) hx hb dX9_units_81 (by decide) (fun hc => ?_) (fun hc => ?_)
        · rw [if_pos hc] at hF
          refine lv_bipush (pc := 88) (v := 12) hx hb dX9_units_88 (by decide) ?_
          refine lv_iload_n (pc := 90) hx hb dX9_units_90 rfl (lv_at hl 1 rfl) ?_
          refine lv_iadd (pc := 91) hx hb dX9_units_91 ?_
          refine r_aI (pc := 92) CX P hF dX9_units_92 (fun v46 hF => ?_)
          cases hF
          exact hret _ _ _ _ P rfl dX9_units_93
        · rw [if_neg hc] at hF
          refine lv_iload_n (pc := 84) hx hb dX9_units_84 rfl (lv_at hl 1 rfl) ?_
          refine lv_goto (pc := 85) (tgt := 92) hx hb dX9_units_85 (by decide) ?_
          refine r_aI (pc := 92) CX P hF dX9_units_92 (fun v47 hF => ?_)
          cases hF
          exact hret _ _ _ _ P rfl dX9_units_93
      refine lv_if_ne (pc := 51) (tgt := 62) hx hb dX9_units_51 (by decide) (fun hc => ?_) (fun hc => ?_)
      · rw [if_neg hc] at hF
        exact hJ40  _ _ _ P (lv_sub hl [1, 2, 3] rfl) hF
      · rw [if_pos hc] at hF
        refine lv_iload (pc := 54) hx hb dX9_units_54 (lv_at hl 0 rfl) ?_
        refine lv_if_ne (pc := 56) (tgt := 62) hx hb dX9_units_56 (by decide) (fun hc => ?_) (fun hc => ?_)
        · rw [if_neg hc] at hF
          exact hJ40  _ _ _ P (lv_sub hl [1, 2, 3] rfl) hF
        · rw [if_pos hc] at hF
          refine lv_bipush (pc := 59) (v := (-2)) hx hb dX9_units_59 (by decide) ?_
          cases hF
          exact hret _ _ _ _ P rfl dX9_units_61
    refine lv_icmp_ne (pc := 26) (tgt := 47) hx hb dX9_units_26 (by decide) (fun hc => ?_) (fun hc => ?_)
    · rw [if_neg hc] at hF
      exact hJ27 _ _ _ _ P (lv_sub hl [1, 2, 0] rfl) hF
    · rw [if_pos hc] at hF
      refine lv_aload_n (pc := 29) hx hb dX9_units_29 rfl (lv_at hl 1 rfl) ?_
      refine r_gR (pc := 30) CX P hF fl_X9_10 dX9_units_30 (fun a28 hF => ?_)
      refine r_gR (pc := 33) CX P hF fl_X9_129 dX9_units_33 (fun a29 hF => ?_)
      refine lv_iload_n (pc := 36) hx hb dX9_units_36 rfl (lv_at hl 2 rfl) ?_
      refine r_cVp (pc := 37) (As := [.int vp1]) (rest := []) CX P hl.1 hF kv_X9_133 (fun r q => c_X0_has l G B _ _ _ _ q) rfl rfl ⟨Nat.le_of_ble_eq_true rfl, Nat.le_of_ble_eq_true rfl⟩ (Nat.le_of_ble_eq_true rfl) ⟨Nat.le_of_ble_eq_true rfl, Nat.le_of_ble_eq_true rfl⟩ dX9_units_37 (fun v30 H locs P hF => ?_)
      refine lv_if_eq (pc := 40) (tgt := 47) hx hb dX9_units_40 (by decide) (fun hc => ?_) (fun hc => ?_)
      · rw [if_pos hc] at hF
        exact hJ27 _ _ _ _ P (lv_sub hl [1, 2, 0] rfl) hF
      · rw [if_neg hc] at hF
        refine lv_iconst (pc := 43) (v := 1) hx hb dX9_units_43 (by decide) ?_
        refine lv_goto (pc := 44) (tgt := 48) hx hb dX9_units_44 (by decide) ?_
        refine lv_istore (pc := 48) hx hb dX9_units_48 hl (by decide) rfl (fun ls hl => ?_)
        replace hl : lv_has ls 5 [(4, .int 1), (3, .int 0), (0, .ref (B + a0)), (1, .int vp1), (2, .int vp2)] := hl
        refine lv_iload_n (pc := 50) hx hb dX9_units_50 rfl (lv_at hl 1 rfl) ?_
        obtain ⟨k31, ek31, hF⟩ := bl_o hF
        have hJ31 : ∀  (H : Heap) (locs : List Loc) (ls : Array Slot), Pic G B h26 s H locs → lv_has ls 5 [(0, .ref (B + a0)), (1, .int vp1), (3, .int 0)] → k31 () = some (r0, hr) → W p l e (rmM 4 110 0 0) s m args below meth c H locs 0 0 Q (F0 m 62 ls []) := by
          intro  H locs ls P hl hF
          rw [← ek31] at hF
          dsimp only at hF
          refine lv_aload_n (pc := 62) hx hb dX9_units_62 rfl (lv_at hl 0 rfl) ?_
          refine r_gR (pc := 63) CX P hF fl_X9_49 dX9_units_63 (fun a32 hF => ?_)
          refine lv_aload_n (pc := 66) hx hb dX9_units_66 rfl (lv_at hl 0 rfl) ?_
          refine r_gR (pc := 67) CX P hF fl_X9_10 dX9_units_67 (fun a33 hF => ?_)
          refine r_cVv (pc := 70) (As := [.ref (B + a33)]) (rest := []) CX P hl.1 hF kv_X9_290 (fun h1 q => c_X2_plan l G B _ _ _ _ q) rfl rfl ⟨Nat.le_of_ble_eq_true rfl, Nat.le_of_ble_eq_true rfl⟩ (Nat.le_of_ble_eq_true rfl) ⟨Nat.le_of_ble_eq_true rfl, Nat.le_of_ble_eq_true rfl⟩ dX9_units_70 (fun h34 H locs P hF => ?_)
          refine lv_aload_n (pc := 73) hx hb dX9_units_73 rfl (lv_at hl 0 rfl) ?_
          refine r_gR (pc := 74) CX P hF fl_X9_49 dX9_units_74 (fun a35 hF => ?_)
          refine r_gR (pc := 77) CX P hF fl_X9_293 dX9_units_77 (fun a36 hF => ?_)
          refine lv_iload_n (pc := 80) hx hb dX9_units_80 rfl (lv_at hl 2 rfl) ?_
          refine lv_if_eq (pc := 81) (tgt := 88) hx hb dX9_units_81 (by decide) (fun hc => ?_) (fun hc => ?_)
          · rw [if_pos hc] at hF
            refine lv_bipush (pc := 88) (v := 12) hx hb dX9_units_88 (by decide) ?_
            refine lv_iload_n (pc := 90) hx hb dX9_units_90 rfl (lv_at hl 1 rfl) ?_
            refine lv_iadd (pc := 91) hx hb dX9_units_91 ?_
            refine r_aI (pc := 92) CX P hF dX9_units_92 (fun v37 hF => ?_)
            cases hF
            exact hret _ _ _ _ P rfl dX9_units_93
          · rw [if_neg hc] at hF
            refine lv_iload_n (pc := 84) hx hb dX9_units_84 rfl (lv_at hl 1 rfl) ?_
            refine lv_goto (pc := 85) (tgt := 92) hx hb dX9_units_85 (by decide) ?_
            refine r_aI (pc := 92) CX P hF dX9_units_92 (fun v38 hF => ?_)
            cases hF
            exact hret _ _ _ _ P rfl dX9_units_93
        refine lv_if_ne (pc := 51) (tgt := 62) hx hb dX9_units_51 (by decide) (fun hc => ?_) (fun hc => ?_)
        · rw [if_neg hc] at hF
          exact hJ31  _ _ _ P (lv_sub hl [2, 3, 1] rfl) hF
        · rw [if_pos hc] at hF
          refine lv_iload (pc := 54) hx hb dX9_units_54 (lv_at hl 0 rfl) ?_
          refine lv_if_ne (pc := 56) (tgt := 62) hx hb dX9_units_56 (by decide) (fun hc => ?_) (fun hc => ?_)
          · rw [if_neg hc] at hF
            exact hJ31  _ _ _ P (lv_sub hl [2, 3, 1] rfl) hF
          · rw [if_pos hc] at hF
            refine lv_bipush (pc := 59) (v := (-2)) hx hb dX9_units_59 (by decide) ?_
            cases hF
            exact hret _ _ _ _ P rfl dX9_units_61
  refine lv_if_ne (pc := 1) (tgt := 22) hx hb dX9_units_1 (by decide) (fun hc => ?_) (fun hc => ?_)
  · rw [if_neg hc] at hF
    exact hJ1 _ _ _ _ P (lv_sub hl [0, 1, 2] rfl) hF
  · rw [if_pos hc] at hF
    refine lv_aload_n (pc := 4) hx hb dX9_units_4 rfl (lv_at hl 0 rfl) ?_
    refine r_gR (pc := 5) CX P hF fl_X9_10 dX9_units_5 (fun a2 hF => ?_)
    refine r_gR (pc := 8) CX P hF fl_X9_53 dX9_units_8 (fun a3 hF => ?_)
    refine lv_iload_n (pc := 11) hx hb dX9_units_11 rfl (lv_at hl 1 rfl) ?_
    refine r_cVp (pc := 12) (As := [.int vp1]) (rest := []) CX P hl.1 hF kv_X9_57 (fun r q => c_X6_has l G B _ _ _ _ q) rfl rfl ⟨Nat.le_of_ble_eq_true rfl, Nat.le_of_ble_eq_true rfl⟩ (Nat.le_of_ble_eq_true rfl) ⟨Nat.le_of_ble_eq_true rfl, Nat.le_of_ble_eq_true rfl⟩ dX9_units_12 (fun v4 H locs P hF => ?_)
    refine lv_if_eq (pc := 15) (tgt := 22) hx hb dX9_units_15 (by decide) (fun hc => ?_) (fun hc => ?_)
    · rw [if_pos hc] at hF
      exact hJ1 _ _ _ _ P (lv_sub hl [0, 1, 2] rfl) hF
    · rw [if_neg hc] at hF
      refine lv_iconst (pc := 18) (v := 1) hx hb dX9_units_18 (by decide) ?_
      refine lv_goto (pc := 19) (tgt := 23) hx hb dX9_units_19 (by decide) ?_
      refine lv_istore_n (pc := 23) hx hb dX9_units_23 rfl hl (by decide) rfl (fun ls hl => ?_)
      replace hl : lv_has ls 5 [(3, .int 1), (0, .ref (B + a0)), (1, .int vp1), (2, .int vp2)] := hl
      refine lv_iload_n (pc := 24) hx hb dX9_units_24 rfl (lv_at hl 3 rfl) ?_
      refine lv_iconst (pc := 25) (v := 1) hx hb dX9_units_25 (by decide) ?_
      obtain ⟨k5, ek5, hF⟩ := bl_o hF
      have hJ5 : ∀ (h17 : Hp) (H : Heap) (locs : List Loc) (ls : Array Slot), Pic G B h17 s H locs → lv_has ls 5 [(0, .ref (B + a0)), (1, .int vp1), (3, .int 1)] → k5 h17 = some (r0, hr) → W p l e (rmM 4 110 0 0) s m args below meth c H locs 0 0 Q (F0 m 47 ls []) := by
        intro h17 H locs ls P hl hF
        rw [← ek5] at hF
        dsimp only at hF
        refine lv_iconst (pc := 47) (v := 0) hx hb dX9_units_47 (by decide) ?_
        refine lv_istore (pc := 48) hx hb dX9_units_48 hl (by decide) rfl (fun ls hl => ?_)
        replace hl : lv_has ls 5 [(4, .int 0), (0, .ref (B + a0)), (1, .int vp1), (3, .int 1)] := hl
        refine lv_iload_n (pc := 50) hx hb dX9_units_50 rfl (lv_at hl 3 rfl) ?_
        obtain ⟨k18, ek18, hF⟩ := bl_o hF
        have hJ18 : ∀  (H : Heap) (locs : List Loc) (ls : Array Slot), Pic G B h17 s H locs → lv_has ls 5 [(0, .ref (B + a0)), (1, .int vp1), (3, .int 1)] → k18 () = some (r0, hr) → W p l e (rmM 4 110 0 0) s m args below meth c H locs 0 0 Q (F0 m 62 ls []) := by
          intro  H locs ls P hl hF
          rw [← ek18] at hF
          dsimp only at hF
          refine lv_aload_n (pc := 62) hx hb dX9_units_62 rfl (lv_at hl 0 rfl) ?_
          refine r_gR (pc := 63) CX P hF fl_X9_49 dX9_units_63 (fun a19 hF => ?_)
          refine lv_aload_n (pc := 66) hx hb dX9_units_66 rfl (lv_at hl 0 rfl) ?_
          refine r_gR (pc := 67) CX P hF fl_X9_10 dX9_units_67 (fun a20 hF => ?_)
          refine r_cVv (pc := 70) (As := [.ref (B + a20)]) (rest := []) CX P hl.1 hF kv_X9_290 (fun h1 q => c_X2_plan l G B _ _ _ _ q) rfl rfl ⟨Nat.le_of_ble_eq_true rfl, Nat.le_of_ble_eq_true rfl⟩ (Nat.le_of_ble_eq_true rfl) ⟨Nat.le_of_ble_eq_true rfl, Nat.le_of_ble_eq_true rfl⟩ dX9_units_70 (fun h21 H locs P hF => ?_)
          refine lv_aload_n (pc := 73) hx hb dX9_units_73 rfl (lv_at hl 0 rfl) ?_
          refine r_gR (pc := 74) CX P hF fl_X9_49 dX9_units_74 (fun a22 hF => ?_)
          refine r_gR (pc := 77) CX P hF fl_X9_293 dX9_units_77 (fun a23 hF => ?_)
          refine lv_iload_n (pc := 80) hx hb dX9_units_80 rfl (lv_at hl 2 rfl) ?_
          refine lv_if_eq (pc := 81) (tgt := 88) hx hb dX9_units_81 (by decide) (fun hc => ?_) (fun hc => ?_)
          · rw [if_pos hc] at hF
            refine lv_bipush (pc := 88) (v := 12) hx hb dX9_units_88 (by decide) ?_
            refine lv_iload_n (pc := 90) hx hb dX9_units_90 rfl (lv_at hl 1 rfl) ?_
            refine lv_iadd (pc := 91) hx hb dX9_units_91 ?_
            refine r_aI (pc := 92) CX P hF dX9_units_92 (fun v24 hF => ?_)
            cases hF
            exact hret _ _ _ _ P rfl dX9_units_93
          · rw [if_neg hc] at hF
            refine lv_iload_n (pc := 84) hx hb dX9_units_84 rfl (lv_at hl 1 rfl) ?_
            refine lv_goto (pc := 85) (tgt := 92) hx hb dX9_units_85 (by decide) ?_
            refine r_aI (pc := 92) CX P hF dX9_units_92 (fun v25 hF => ?_)
            cases hF
            exact hret _ _ _ _ P rfl dX9_units_93
        refine lv_if_ne (pc := 51) (tgt := 62) hx hb dX9_units_51 (by decide) (fun hc => ?_) (fun hc => ?_)
        · rw [if_neg hc] at hF
          exact hJ18  _ _ _ P (lv_sub hl [1, 2, 3] rfl) hF
        · rw [if_pos hc] at hF
          refine lv_iload (pc := 54) hx hb dX9_units_54 (lv_at hl 0 rfl) ?_
          refine lv_if_ne (pc := 56) (tgt := 62) hx hb dX9_units_56 (by decide) (fun hc => ?_) (fun hc => ?_)
          · rw [if_neg hc] at hF
            exact hJ18  _ _ _ P (lv_sub hl [1, 2, 3] rfl) hF
          · rw [if_pos hc] at hF
            refine lv_bipush (pc := 59) (v := (-2)) hx hb dX9_units_59 (by decide) ?_
            cases hF
            exact hret _ _ _ _ P rfl dX9_units_61
      refine lv_icmp_ne (pc := 26) (tgt := 47) hx hb dX9_units_26 (by decide) (fun hc => ?_) (fun hc => ?_)
      · rw [if_neg hc] at hF
        exact hJ5 _ _ _ _ P (lv_sub hl [1, 2, 0] rfl) hF
      · rw [if_pos hc] at hF
        refine lv_aload_n (pc := 29) hx hb dX9_units_29 rfl (lv_at hl 1 rfl) ?_
        refine r_gR (pc := 30) CX P hF fl_X9_10 dX9_units_30 (fun a6 hF => ?_)
        refine r_gR (pc := 33) CX P hF fl_X9_129 dX9_units_33 (fun a7 hF => ?_)
        refine lv_iload_n (pc := 36) hx hb dX9_units_36 rfl (lv_at hl 2 rfl) ?_
        refine r_cVp (pc := 37) (As := [.int vp1]) (rest := []) CX P hl.1 hF kv_X9_133 (fun r q => c_X0_has l G B _ _ _ _ q) rfl rfl ⟨Nat.le_of_ble_eq_true rfl, Nat.le_of_ble_eq_true rfl⟩ (Nat.le_of_ble_eq_true rfl) ⟨Nat.le_of_ble_eq_true rfl, Nat.le_of_ble_eq_true rfl⟩ dX9_units_37 (fun v8 H locs P hF => ?_)
        refine lv_if_eq (pc := 40) (tgt := 47) hx hb dX9_units_40 (by decide) (fun hc => ?_) (fun hc => ?_)
        · rw [if_pos hc] at hF
          exact hJ5 _ _ _ _ P (lv_sub hl [1, 2, 0] rfl) hF
        · rw [if_neg hc] at hF
          refine lv_iconst (pc := 43) (v := 1) hx hb dX9_units_43 (by decide) ?_
          refine lv_goto (pc := 44) (tgt := 48) hx hb dX9_units_44 (by decide) ?_
          refine lv_istore (pc := 48) hx hb dX9_units_48 hl (by decide) rfl (fun ls hl => ?_)
          replace hl : lv_has ls 5 [(4, .int 1), (3, .int 1), (0, .ref (B + a0)), (1, .int vp1), (2, .int vp2)] := hl
          refine lv_iload_n (pc := 50) hx hb dX9_units_50 rfl (lv_at hl 1 rfl) ?_
          obtain ⟨k9, ek9, hF⟩ := bl_o hF
          have hJ9 : ∀  (H : Heap) (locs : List Loc) (ls : Array Slot), Pic G B h s H locs → lv_has ls 5 [(0, .ref (B + a0)), (1, .int vp1), (3, .int 1)] → k9 () = some (r0, hr) → W p l e (rmM 4 110 0 0) s m args below meth c H locs 0 0 Q (F0 m 62 ls []) := by
            intro  H locs ls P hl hF
            rw [← ek9] at hF
            dsimp only at hF
            refine lv_aload_n (pc := 62) hx hb dX9_units_62 rfl (lv_at hl 0 rfl) ?_
            refine r_gR (pc := 63) CX P hF fl_X9_49 dX9_units_63 (fun a10 hF => ?_)
            refine lv_aload_n (pc := 66) hx hb dX9_units_66 rfl (lv_at hl 0 rfl) ?_
            refine r_gR (pc := 67) CX P hF fl_X9_10 dX9_units_67 (fun a11 hF => ?_)
            refine r_cVv (pc := 70) (As := [.ref (B + a11)]) (rest := []) CX P hl.1 hF kv_X9_290 (fun h1 q => c_X2_plan l G B _ _ _ _ q) rfl rfl ⟨Nat.le_of_ble_eq_true rfl, Nat.le_of_ble_eq_true rfl⟩ (Nat.le_of_ble_eq_true rfl) ⟨Nat.le_of_ble_eq_true rfl, Nat.le_of_ble_eq_true rfl⟩ dX9_units_70 (fun h12 H locs P hF => ?_)
            refine lv_aload_n (pc := 73) hx hb dX9_units_73 rfl (lv_at hl 0 rfl) ?_
            refine r_gR (pc := 74) CX P hF fl_X9_49 dX9_units_74 (fun a13 hF => ?_)
            refine r_gR (pc := 77) CX P hF fl_X9_293 dX9_units_77 (fun a14 hF => ?_)
            refine lv_iload_n (pc := 80) hx hb dX9_units_80 rfl (lv_at hl 2 rfl) ?_
            refine lv_if_eq (pc := 81) (tgt := 88) hx hb dX9_units_81 (by decide) (fun hc => ?_) (fun hc => ?_)
            · rw [if_pos hc] at hF
              refine lv_bipush (pc := 88) (v := 12) hx hb dX9_units_88 (by decide) ?_
              refine lv_iload_n (pc := 90) hx hb dX9_units_90 rfl (lv_at hl 1 rfl) ?_
              refine lv_iadd (pc := 91) hx hb dX9_units_91 ?_
              refine r_aI (pc := 92) CX P hF dX9_units_92 (fun v15 hF => ?_)
              cases hF
              exact hret _ _ _ _ P rfl dX9_units_93
            · rw [if_neg hc] at hF
              refine lv_iload_n (pc := 84) hx hb dX9_units_84 rfl (lv_at hl 1 rfl) ?_
              refine lv_goto (pc := 85) (tgt := 92) hx hb dX9_units_85 (by decide) ?_
              refine r_aI (pc := 92) CX P hF dX9_units_92 (fun v16 hF => ?_)
              cases hF
              exact hret _ _ _ _ P rfl dX9_units_93
          refine lv_if_ne (pc := 51) (tgt := 62) hx hb dX9_units_51 (by decide) (fun hc => ?_) (fun hc => ?_)
          · rw [if_neg hc] at hF
            exact hJ9  _ _ _ P (lv_sub hl [2, 3, 1] rfl) hF
          · rw [if_pos hc] at hF
            refine lv_iload (pc := 54) hx hb dX9_units_54 (lv_at hl 0 rfl) ?_
            refine lv_if_ne (pc := 56) (tgt := 62) hx hb dX9_units_56 (by decide) (fun hc => ?_) (fun hc => ?_)
            · rw [if_neg hc] at hF
              exact hJ9  _ _ _ P (lv_sub hl [2, 3, 1] rfl) hF
            · rw [if_pos hc] at hF
              refine lv_bipush (pc := 59) (v := (-2)) hx hb dX9_units_59 (by decide) ?_
              cases hF
              exact hret _ _ _ _ P rfl dX9_units_61
def F_X9_fired (h : Hp) (a0 : Nat) (vp1 : Int32) (vp2 : Int32) : Option (Int32) :=
if vp1 < 0 then (
some (-2)) else (
(gR h a0 9 0).bind fun a1 =>
(gR h a1 8 3).bind fun a2 =>
(gI h a2 7 4).bind fun v3 =>
if v3 ≤ vp1 then (
some (-2)) else (
(F_X9_outside h vp2 0 1).bind fun v4 =>
if v4 = 0 then (
if vp2 = 0 then (
(gR h a0 9 0).bind fun a9 =>
(gR h a9 8 3).bind fun a10 =>
(gR h a10 7 3).bind fun a11 =>
(aI h a11 vp1).bind fun v12 =>
some v12) else (
(gR h a0 9 0).bind fun a5 =>
(gR h a5 8 3).bind fun a6 =>
(gR h a6 7 0).bind fun a7 =>
(aI h a7 vp1).bind fun v8 =>
some v8)) else (
some (-2))))
set_option maxRecDepth 100000 in
set_option maxHeartbeats 4000000 in
theorem c_X9_fired (l : Launch) (G : GG) (B : Nat) (h : Hp) (a0 : Nat) (vp1 : Int32) (vp2 : Int32) (r0 : Int32) (hF : F_X9_fired h a0 vp1 vp2 = some r0) : CI l yX9_fired cX9_fired 3 .int 1 22 0 0 G B h [.ref (B + a0), .int vp1, .int vp2] r0 h := by
  refine ent_i rfl (Nat.le_of_ble_eq_true rfl) ?_
  intro p e s m args below meth c ls Q CX hnm hret P hl
  have CX : Cxt p m c cX9_fired 3 s args RX9 G B := CX
  obtain ⟨⟨hx, hb, hml, hown, hts⟩, -, -⟩ := id CX
  replace hl : lv_has ls 3 [(0, .ref (B + a0)), (1, .int vp1), (2, .int vp2)] := hl
  generalize s.heap = H at P ⊢
  generalize ([] : List Loc) = locs at P ⊢
  unfold F_X9_fired at hF
  refine lv_iload_n (pc := 0) hx hb dX9_fired_0 rfl (lv_at hl 1 rfl) ?_
  refine lv_if_lt (pc := 1) (tgt := 27) hx hb dX9_fired_1 (by decide) (fun hc => ?_) (fun hc => ?_)
  · rw [if_pos hc] at hF
    refine lv_bipush (pc := 27) (v := (-2)) hx hb dX9_fired_27 (by decide) ?_
    cases hF
    exact hret _ _ _ _ P rfl dX9_fired_29
  · rw [if_neg hc] at hF
    refine lv_iload_n (pc := 4) hx hb dX9_fired_4 rfl (lv_at hl 1 rfl) ?_
    refine lv_aload_n (pc := 5) hx hb dX9_fired_5 rfl (lv_at hl 0 rfl) ?_
    refine r_gR (pc := 6) CX P hF fl_X9_10 dX9_fired_6 (fun a1 hF => ?_)
    refine r_gR (pc := 9) CX P hF fl_X9_102 dX9_fired_9 (fun a2 hF => ?_)
    refine r_gI (pc := 12) CX P hF fl_X9_224 dX9_fired_12 (fun v3 hF => ?_)
    refine lv_icmp_ge (pc := 15) (tgt := 27) hx hb dX9_fired_15 (by decide) (fun hc => ?_) (fun hc => ?_)
    · rw [if_pos hc] at hF
      refine lv_bipush (pc := 27) (v := (-2)) hx hb dX9_fired_27 (by decide) ?_
      cases hF
      exact hret _ _ _ _ P rfl dX9_fired_29
    · rw [if_neg hc] at hF
      refine lv_iload_n (pc := 18) hx hb dX9_fired_18 rfl (lv_at hl 2 rfl) ?_
      refine lv_iconst (pc := 19) (v := 0) hx hb dX9_fired_19 (by decide) ?_
      refine lv_iconst (pc := 20) (v := 1) hx hb dX9_fired_20 (by decide) ?_
      refine r_cSp (pc := 21) (As := [.int vp2, .int 0, .int 1]) (rest := []) CX P hl.1 hF ks_X9_111 (fun r q => c_X9_outside l G B _ _ _ _ _ q) rfl rfl ⟨Nat.le_of_ble_eq_true rfl, Nat.le_of_ble_eq_true rfl⟩ (Nat.le_of_ble_eq_true rfl) ⟨Nat.le_of_ble_eq_true rfl, Nat.le_of_ble_eq_true rfl⟩ dX9_fired_21 (fun v4 H locs P hF => ?_)
      refine lv_if_eq (pc := 24) (tgt := 30) hx hb dX9_fired_24 (by decide) (fun hc => ?_) (fun hc => ?_)
      · rw [if_pos hc] at hF
        refine lv_iload_n (pc := 30) hx hb dX9_fired_30 rfl (lv_at hl 2 rfl) ?_
        refine lv_if_ne (pc := 31) (tgt := 49) hx hb dX9_fired_31 (by decide) (fun hc => ?_) (fun hc => ?_)
        · rw [if_neg hc] at hF
          refine lv_aload_n (pc := 49) hx hb dX9_fired_49 rfl (lv_at hl 0 rfl) ?_
          refine r_gR (pc := 50) CX P hF fl_X9_10 dX9_fired_50 (fun a5 hF => ?_)
          refine r_gR (pc := 53) CX P hF fl_X9_102 dX9_fired_53 (fun a6 hF => ?_)
          refine r_gR (pc := 56) CX P hF fl_X9_299 dX9_fired_56 (fun a7 hF => ?_)
          refine lv_iload_n (pc := 59) hx hb dX9_fired_59 rfl (lv_at hl 1 rfl) ?_
          refine r_aI (pc := 60) CX P hF dX9_fired_60 (fun v8 hF => ?_)
          cases hF
          exact hret _ _ _ _ P rfl dX9_fired_61
        · rw [if_pos hc] at hF
          refine lv_aload_n (pc := 34) hx hb dX9_fired_34 rfl (lv_at hl 0 rfl) ?_
          refine r_gR (pc := 35) CX P hF fl_X9_10 dX9_fired_35 (fun a9 hF => ?_)
          refine r_gR (pc := 38) CX P hF fl_X9_102 dX9_fired_38 (fun a10 hF => ?_)
          refine r_gR (pc := 41) CX P hF fl_X9_296 dX9_fired_41 (fun a11 hF => ?_)
          refine lv_iload_n (pc := 44) hx hb dX9_fired_44 rfl (lv_at hl 1 rfl) ?_
          refine r_aI (pc := 45) CX P hF dX9_fired_45 (fun v12 hF => ?_)
          refine lv_goto (pc := 46) (tgt := 61) hx hb dX9_fired_46 (by decide) ?_
          cases hF
          exact hret _ _ _ _ P rfl dX9_fired_61
      · rw [if_neg hc] at hF
        refine lv_bipush (pc := 27) (v := (-2)) hx hb dX9_fired_27 (by decide) ?_
        cases hF
        exact hret _ _ _ _ P rfl dX9_fired_29
def F_X9_events (h : Hp) (a0 : Nat) (vp1 : Int32) (vp2 : Int32) : Option (Int32) :=
(gR h a0 9 0).bind fun a1 =>
(gR h a1 8 0).bind fun a2 =>
(cO h a2 6 (F_X6_has h a2 vp1)).bind fun v3 =>
if v3 = 0 then (
some (-2)) else (
(F_X9_outside h vp2 0 3).bind fun v4 =>
if v4 = 0 then (
(gR h a0 9 0).bind fun a5 =>
(gR h a5 8 0).bind fun a6 =>
(gR h a6 6 8).bind fun a7 =>
(aR h a7 15 vp2).bind fun a8 =>
(aI h a8 vp1).bind fun v9 =>
some v9) else (
some (-2)))
set_option maxRecDepth 100000 in
set_option maxHeartbeats 4000000 in
theorem c_X9_events (l : Launch) (G : GG) (B : Nat) (h : Hp) (a0 : Nat) (vp1 : Int32) (vp2 : Int32) (r0 : Int32) (hF : F_X9_events h a0 vp1 vp2 = some r0) : CI l yX9_events cX9_events 3 .int 1 22 0 0 G B h [.ref (B + a0), .int vp1, .int vp2] r0 h := by
  refine ent_i rfl (Nat.le_of_ble_eq_true rfl) ?_
  intro p e s m args below meth c ls Q CX hnm hret P hl
  have CX : Cxt p m c cX9_events 3 s args RX9 G B := CX
  obtain ⟨⟨hx, hb, hml, hown, hts⟩, -, -⟩ := id CX
  replace hl : lv_has ls 3 [(0, .ref (B + a0)), (1, .int vp1), (2, .int vp2)] := hl
  generalize s.heap = H at P ⊢
  generalize ([] : List Loc) = locs at P ⊢
  unfold F_X9_events at hF
  refine lv_aload_n (pc := 0) hx hb dX9_events_0 rfl (lv_at hl 0 rfl) ?_
  refine r_gR (pc := 1) CX P hF fl_X9_10 dX9_events_1 (fun a1 hF => ?_)
  refine r_gR (pc := 4) CX P hF fl_X9_53 dX9_events_4 (fun a2 hF => ?_)
  refine lv_iload_n (pc := 7) hx hb dX9_events_7 rfl (lv_at hl 1 rfl) ?_
  refine r_cVp (pc := 8) (As := [.int vp1]) (rest := []) CX P hl.1 hF kv_X9_57 (fun r q => c_X6_has l G B _ _ _ _ q) rfl rfl ⟨Nat.le_of_ble_eq_true rfl, Nat.le_of_ble_eq_true rfl⟩ (Nat.le_of_ble_eq_true rfl) ⟨Nat.le_of_ble_eq_true rfl, Nat.le_of_ble_eq_true rfl⟩ dX9_events_8 (fun v3 H locs P hF => ?_)
  refine lv_if_eq (pc := 11) (tgt := 23) hx hb dX9_events_11 (by decide) (fun hc => ?_) (fun hc => ?_)
  · rw [if_pos hc] at hF
    refine lv_bipush (pc := 23) (v := (-2)) hx hb dX9_events_23 (by decide) ?_
    cases hF
    exact hret _ _ _ _ P rfl dX9_events_25
  · rw [if_neg hc] at hF
    refine lv_iload_n (pc := 14) hx hb dX9_events_14 rfl (lv_at hl 2 rfl) ?_
    refine lv_iconst (pc := 15) (v := 0) hx hb dX9_events_15 (by decide) ?_
    refine lv_iconst (pc := 16) (v := 3) hx hb dX9_events_16 (by decide) ?_
    refine r_cSp (pc := 17) (As := [.int vp2, .int 0, .int 3]) (rest := []) CX P hl.1 hF ks_X9_111 (fun r q => c_X9_outside l G B _ _ _ _ _ q) rfl rfl ⟨Nat.le_of_ble_eq_true rfl, Nat.le_of_ble_eq_true rfl⟩ (Nat.le_of_ble_eq_true rfl) ⟨Nat.le_of_ble_eq_true rfl, Nat.le_of_ble_eq_true rfl⟩ dX9_events_17 (fun v4 H locs P hF => ?_)
    refine lv_if_eq (pc := 20) (tgt := 26) hx hb dX9_events_20 (by decide) (fun hc => ?_) (fun hc => ?_)
    · rw [if_pos hc] at hF
      refine lv_aload_n (pc := 26) hx hb dX9_events_26 rfl (lv_at hl 0 rfl) ?_
      refine r_gR (pc := 27) CX P hF fl_X9_10 dX9_events_27 (fun a5 hF => ?_)
      refine r_gR (pc := 30) CX P hF fl_X9_53 dX9_events_30 (fun a6 hF => ?_)
      refine r_gR (pc := 33) CX P hF fl_X9_302 dX9_events_33 (fun a7 hF => ?_)
      refine lv_iload_n (pc := 36) hx hb dX9_events_36 rfl (lv_at hl 2 rfl) ?_
      refine r_aR (pc := 37) CX P hF (Or.inr (Or.inl rfl)) dX9_events_37 (fun a8 hF => ?_)
      refine lv_iload_n (pc := 38) hx hb dX9_events_38 rfl (lv_at hl 1 rfl) ?_
      refine r_aI (pc := 39) CX P hF dX9_events_39 (fun v9 hF => ?_)
      cases hF
      exact hret _ _ _ _ P rfl dX9_events_40
    · rw [if_neg hc] at hF
      refine lv_bipush (pc := 23) (v := (-2)) hx hb dX9_events_23 (by decide) ?_
      cases hF
      exact hret _ _ _ _ P rfl dX9_events_25
