def F_X9_pressure (h : Hp) (a0 : Nat) (vp1 : Int32) (vp2 : Int32) (vp3 : Int32) : Option (Int32) :=
(gR h a0 9 0).bind fun a1 =>
(gR h a1 8 0).bind fun a2 =>
(cO h a2 6 (F_X6_has h a2 vp1)).bind fun v3 =>
if v3 = 0 then (
some (-2)) else (
(F_X9_outside h vp2 0 2).bind fun v4 =>
if v4 = 0 then (
(F_X9_outside h vp3 1 40).bind fun v5 =>
if v5 = 0 then (
(gR h a0 9 0).bind fun a6 =>
(gR h a6 8 2).bind fun a7 =>
(cO h a7 1 (F_X1_recent h a7 vp1 vp2 vp3)).bind fun v8 =>
some v8) else (
some (-3))) else (
some (-3)))
set_option maxRecDepth 100000 in
set_option maxHeartbeats 4000000 in
theorem c_X9_pressure (l : Launch) (G : GG) (B : Nat) (h : Hp) (a0 : Nat) (vp1 : Int32) (vp2 : Int32) (vp3 : Int32) (r0 : Int32) (hF : F_X9_pressure h a0 vp1 vp2 vp3 = some r0) : CI l yX9_pressure cX9_pressure 4 .int 2 44 0 0 G B h [.ref (B + a0), .int vp1, .int vp2, .int vp3] r0 h := by
  refine ent_i rfl (Nat.le_of_ble_eq_true rfl) ?_
  intro p e s m args below meth c ls Q CX hnm hret P hl
  have CX : Cxt p m c cX9_pressure 4 s args RX9 G B := CX
  obtain ⟨⟨hx, hb, hml, hown, hts⟩, -, -⟩ := id CX
  replace hl : lv_has ls 4 [(0, .ref (B + a0)), (1, .int vp1), (2, .int vp2), (3, .int vp3)] := hl
  generalize s.heap = H at P ⊢
  generalize ([] : List Loc) = locs at P ⊢
  unfold F_X9_pressure at hF
  refine lv_aload_n (pc := 0) hx hb dX9_pressure_0 rfl (lv_at hl 0 rfl) ?_
  refine r_gR (pc := 1) CX P hF fl_X9_10 dX9_pressure_1 (fun a1 hF => ?_)
  refine r_gR (pc := 4) CX P hF fl_X9_53 dX9_pressure_4 (fun a2 hF => ?_)
  refine lv_iload_n (pc := 7) hx hb dX9_pressure_7 rfl (lv_at hl 1 rfl) ?_
  refine r_cVp (pc := 8) (As := [.int vp1]) (rest := []) CX P hl.1 hF kv_X9_57 (fun r q => c_X6_has l G B _ _ _ _ q) rfl rfl ⟨Nat.le_of_ble_eq_true rfl, Nat.le_of_ble_eq_true rfl⟩ (Nat.le_of_ble_eq_true rfl) ⟨Nat.le_of_ble_eq_true rfl, Nat.le_of_ble_eq_true rfl⟩ dX9_pressure_8 (fun v3 H locs P hF => ?_)
  refine lv_if_ne (pc := 11) (tgt := 17) hx hb dX9_pressure_11 (by decide) (fun hc => ?_) (fun hc => ?_)
  · rw [if_neg hc] at hF
    refine lv_iload_n (pc := 17) hx hb dX9_pressure_17 rfl (lv_at hl 2 rfl) ?_
    refine lv_iconst (pc := 18) (v := 0) hx hb dX9_pressure_18 (by decide) ?_
    refine lv_iconst (pc := 19) (v := 2) hx hb dX9_pressure_19 (by decide) ?_
    refine r_cSp (pc := 20) (As := [.int vp2, .int 0, .int 2]) (rest := []) CX P hl.1 hF ks_X9_111 (fun r q => c_X9_outside l G B _ _ _ _ _ q) rfl rfl ⟨Nat.le_of_ble_eq_true rfl, Nat.le_of_ble_eq_true rfl⟩ (Nat.le_of_ble_eq_true rfl) ⟨Nat.le_of_ble_eq_true rfl, Nat.le_of_ble_eq_true rfl⟩ dX9_pressure_20 (fun v4 H locs P hF => ?_)
    refine lv_if_ne (pc := 23) (tgt := 36) hx hb dX9_pressure_23 (by decide) (fun hc => ?_) (fun hc => ?_)
    · rw [if_neg hc] at hF
      refine lv_bipush (pc := 36) (v := (-3)) hx hb dX9_pressure_36 (by decide) ?_
      cases hF
      exact hret _ _ _ _ P rfl dX9_pressure_38
    · rw [if_pos hc] at hF
      refine lv_iload_n (pc := 26) hx hb dX9_pressure_26 rfl (lv_at hl 3 rfl) ?_
      refine lv_iconst (pc := 27) (v := 1) hx hb dX9_pressure_27 (by decide) ?_
      refine lv_bipush (pc := 28) (v := 40) hx hb dX9_pressure_28 (by decide) ?_
      refine r_cSp (pc := 30) (As := [.int vp3, .int 1, .int 40]) (rest := []) CX P hl.1 hF ks_X9_111 (fun r q => c_X9_outside l G B _ _ _ _ _ q) rfl rfl ⟨Nat.le_of_ble_eq_true rfl, Nat.le_of_ble_eq_true rfl⟩ (Nat.le_of_ble_eq_true rfl) ⟨Nat.le_of_ble_eq_true rfl, Nat.le_of_ble_eq_true rfl⟩ dX9_pressure_30 (fun v5 H locs P hF => ?_)
      refine lv_if_eq (pc := 33) (tgt := 39) hx hb dX9_pressure_33 (by decide) (fun hc => ?_) (fun hc => ?_)
      · rw [if_pos hc] at hF
        refine lv_aload_n (pc := 39) hx hb dX9_pressure_39 rfl (lv_at hl 0 rfl) ?_
        refine r_gR (pc := 40) CX P hF fl_X9_10 dX9_pressure_40 (fun a6 hF => ?_)
        refine r_gR (pc := 43) CX P hF fl_X9_75 dX9_pressure_43 (fun a7 hF => ?_)
        refine lv_iload_n (pc := 46) hx hb dX9_pressure_46 rfl (lv_at hl 1 rfl) ?_
        refine lv_iload_n (pc := 47) hx hb dX9_pressure_47 rfl (lv_at hl 2 rfl) ?_
        refine lv_iload_n (pc := 48) hx hb dX9_pressure_48 rfl (lv_at hl 3 rfl) ?_
        refine r_cVp (pc := 49) (As := [.int vp1, .int vp2, .int vp3]) (rest := []) CX P hl.1 hF kv_X9_281 (fun r q => c_X1_recent l G B _ _ _ _ _ _ q) rfl rfl ⟨Nat.le_of_ble_eq_true rfl, Nat.le_of_ble_eq_true rfl⟩ (Nat.le_of_ble_eq_true rfl) ⟨Nat.le_of_ble_eq_true rfl, Nat.le_of_ble_eq_true rfl⟩ dX9_pressure_49 (fun v8 H locs P hF => ?_)
        cases hF
        exact hret _ _ _ _ P rfl dX9_pressure_52
      · rw [if_neg hc] at hF
        refine lv_bipush (pc := 36) (v := (-3)) hx hb dX9_pressure_36 (by decide) ?_
        cases hF
        exact hret _ _ _ _ P rfl dX9_pressure_38
  · rw [if_pos hc] at hF
    refine lv_bipush (pc := 14) (v := (-2)) hx hb dX9_pressure_14 (by decide) ?_
    cases hF
    exact hret _ _ _ _ P rfl dX9_pressure_16
def F_X9_average (h : Hp) (a0 : Nat) (vp1 : Int32) (vp2 : Int32) (vp3 : Int32) : Option (Int32) :=
(gR h a0 9 0).bind fun a1 =>
(gR h a1 8 0).bind fun a2 =>
(cO h a2 6 (F_X6_has h a2 vp1)).bind fun v3 =>
if v3 = 0 then (
some (-2)) else (
(F_X9_outside h vp2 0 2).bind fun v4 =>
if v4 = 0 then (
(F_X9_outside h vp3 0 2).bind fun v5 =>
if v5 = 0 then (
(gR h a0 9 0).bind fun a6 =>
(gR h a6 8 2).bind fun a7 =>
(gR h a7 1 2).bind fun a8 =>
(aR h a8 15 ((vp2 * 3) + vp3)).bind fun a9 =>
(aI h a9 vp1).bind fun v10 =>
some v10) else (
some (-3))) else (
some (-3)))
set_option maxRecDepth 100000 in
set_option maxHeartbeats 4000000 in
theorem c_X9_average (l : Launch) (G : GG) (B : Nat) (h : Hp) (a0 : Nat) (vp1 : Int32) (vp2 : Int32) (vp3 : Int32) (r0 : Int32) (hF : F_X9_average h a0 vp1 vp2 vp3 = some r0) : CI l yX9_average cX9_average 4 .int 1 22 0 0 G B h [.ref (B + a0), .int vp1, .int vp2, .int vp3] r0 h := by
  refine ent_i rfl (Nat.le_of_ble_eq_true rfl) ?_
  intro p e s m args below meth c ls Q CX hnm hret P hl
  have CX : Cxt p m c cX9_average 4 s args RX9 G B := CX
  obtain ⟨⟨hx, hb, hml, hown, hts⟩, -, -⟩ := id CX
  replace hl : lv_has ls 4 [(0, .ref (B + a0)), (1, .int vp1), (2, .int vp2), (3, .int vp3)] := hl
  generalize s.heap = H at P ⊢
  generalize ([] : List Loc) = locs at P ⊢
  unfold F_X9_average at hF
  refine lv_aload_n (pc := 0) hx hb dX9_average_0 rfl (lv_at hl 0 rfl) ?_
  refine r_gR (pc := 1) CX P hF fl_X9_10 dX9_average_1 (fun a1 hF => ?_)
  refine r_gR (pc := 4) CX P hF fl_X9_53 dX9_average_4 (fun a2 hF => ?_)
  refine lv_iload_n (pc := 7) hx hb dX9_average_7 rfl (lv_at hl 1 rfl) ?_
  refine r_cVp (pc := 8) (As := [.int vp1]) (rest := []) CX P hl.1 hF kv_X9_57 (fun r q => c_X6_has l G B _ _ _ _ q) rfl rfl ⟨Nat.le_of_ble_eq_true rfl, Nat.le_of_ble_eq_true rfl⟩ (Nat.le_of_ble_eq_true rfl) ⟨Nat.le_of_ble_eq_true rfl, Nat.le_of_ble_eq_true rfl⟩ dX9_average_8 (fun v3 H locs P hF => ?_)
  refine lv_if_ne (pc := 11) (tgt := 17) hx hb dX9_average_11 (by decide) (fun hc => ?_) (fun hc => ?_)
  · rw [if_neg hc] at hF
    refine lv_iload_n (pc := 17) hx hb dX9_average_17 rfl (lv_at hl 2 rfl) ?_
    refine lv_iconst (pc := 18) (v := 0) hx hb dX9_average_18 (by decide) ?_
    refine lv_iconst (pc := 19) (v := 2) hx hb dX9_average_19 (by decide) ?_
    refine r_cSp (pc := 20) (As := [.int vp2, .int 0, .int 2]) (rest := []) CX P hl.1 hF ks_X9_111 (fun r q => c_X9_outside l G B _ _ _ _ _ q) rfl rfl ⟨Nat.le_of_ble_eq_true rfl, Nat.le_of_ble_eq_true rfl⟩ (Nat.le_of_ble_eq_true rfl) ⟨Nat.le_of_ble_eq_true rfl, Nat.le_of_ble_eq_true rfl⟩ dX9_average_20 (fun v4 H locs P hF => ?_)
    refine lv_if_ne (pc := 23) (tgt := 35) hx hb dX9_average_23 (by decide) (fun hc => ?_) (fun hc => ?_)
    · rw [if_neg hc] at hF
      refine lv_bipush (pc := 35) (v := (-3)) hx hb dX9_average_35 (by decide) ?_
      cases hF
      exact hret _ _ _ _ P rfl dX9_average_37
    · rw [if_pos hc] at hF
      refine lv_iload_n (pc := 26) hx hb dX9_average_26 rfl (lv_at hl 3 rfl) ?_
      refine lv_iconst (pc := 27) (v := 0) hx hb dX9_average_27 (by decide) ?_
      refine lv_iconst (pc := 28) (v := 2) hx hb dX9_average_28 (by decide) ?_
      refine r_cSp (pc := 29) (As := [.int vp3, .int 0, .int 2]) (rest := []) CX P hl.1 hF ks_X9_111 (fun r q => c_X9_outside l G B _ _ _ _ _ q) rfl rfl ⟨Nat.le_of_ble_eq_true rfl, Nat.le_of_ble_eq_true rfl⟩ (Nat.le_of_ble_eq_true rfl) ⟨Nat.le_of_ble_eq_true rfl, Nat.le_of_ble_eq_true rfl⟩ dX9_average_29 (fun v5 H locs P hF => ?_)
      refine lv_if_eq (pc := 32) (tgt := 38) hx hb dX9_average_32 (by decide) (fun hc => ?_) (fun hc => ?_)
      · rw [if_pos hc] at hF
        refine lv_aload_n (pc := 38) hx hb dX9_average_38 rfl (lv_at hl 0 rfl) ?_
        refine r_gR (pc := 39) CX P hF fl_X9_10 dX9_average_39 (fun a6 hF => ?_)
        refine r_gR (pc := 42) CX P hF fl_X9_75 dX9_average_42 (fun a7 hF => ?_)
        refine r_gR (pc := 45) CX P hF fl_X9_284 dX9_average_45 (fun a8 hF => ?_)
        refine lv_iload_n (pc := 48) hx hb dX9_average_48 rfl (lv_at hl 2 rfl) ?_
        refine lv_iconst (pc := 49) (v := 3) hx hb dX9_average_49 (by decide) ?_
        refine lv_imul (pc := 50) hx hb dX9_average_50 ?_
        refine lv_iload_n (pc := 51) hx hb dX9_average_51 rfl (lv_at hl 3 rfl) ?_
        refine lv_iadd (pc := 52) hx hb dX9_average_52 ?_
        refine r_aR (pc := 53) CX P hF (Or.inr (Or.inl rfl)) dX9_average_53 (fun a9 hF => ?_)
        refine lv_iload_n (pc := 54) hx hb dX9_average_54 rfl (lv_at hl 1 rfl) ?_
        refine r_aI (pc := 55) CX P hF dX9_average_55 (fun v10 hF => ?_)
        cases hF
        exact hret _ _ _ _ P rfl dX9_average_56
      · rw [if_neg hc] at hF
        refine lv_bipush (pc := 35) (v := (-3)) hx hb dX9_average_35 (by decide) ?_
        cases hF
        exact hret _ _ _ _ P rfl dX9_average_37
  · rw [if_pos hc] at hF
    refine lv_bipush (pc := 14) (v := (-2)) hx hb dX9_average_14 (by decide) ?_
    cases hF
    exact hret _ _ _ _ P rfl dX9_average_16
def F_X9_stalls (h : Hp) (a0 : Nat) (vp1 : Int32) (vp2 : Int32) : Option (Int32) :=
(gR h a0 9 0).bind fun a1 =>
(gR h a1 8 0).bind fun a2 =>
(cO h a2 6 (F_X6_has h a2 vp1)).bind fun v3 =>
if v3 = 0 then (
some (-2)) else (
(F_X9_outside h vp2 0 2).bind fun v4 =>
if v4 = 0 then (
(gR h a0 9 0).bind fun a5 =>
(gR h a5 8 2).bind fun a6 =>
(gR h a6 1 1).bind fun a7 =>
(aR h a7 15 vp2).bind fun a8 =>
(aI h a8 vp1).bind fun v9 =>
some v9) else (
some (-3)))
set_option maxRecDepth 100000 in
set_option maxHeartbeats 4000000 in
theorem c_X9_stalls (l : Launch) (G : GG) (B : Nat) (h : Hp) (a0 : Nat) (vp1 : Int32) (vp2 : Int32) (r0 : Int32) (hF : F_X9_stalls h a0 vp1 vp2 = some r0) : CI l yX9_stalls cX9_stalls 3 .int 1 22 0 0 G B h [.ref (B + a0), .int vp1, .int vp2] r0 h := by
  refine ent_i rfl (Nat.le_of_ble_eq_true rfl) ?_
  intro p e s m args below meth c ls Q CX hnm hret P hl
  have CX : Cxt p m c cX9_stalls 3 s args RX9 G B := CX
  obtain ⟨⟨hx, hb, hml, hown, hts⟩, -, -⟩ := id CX
  replace hl : lv_has ls 3 [(0, .ref (B + a0)), (1, .int vp1), (2, .int vp2)] := hl
  generalize s.heap = H at P ⊢
  generalize ([] : List Loc) = locs at P ⊢
  unfold F_X9_stalls at hF
  refine lv_aload_n (pc := 0) hx hb dX9_stalls_0 rfl (lv_at hl 0 rfl) ?_
  refine r_gR (pc := 1) CX P hF fl_X9_10 dX9_stalls_1 (fun a1 hF => ?_)
  refine r_gR (pc := 4) CX P hF fl_X9_53 dX9_stalls_4 (fun a2 hF => ?_)
  refine lv_iload_n (pc := 7) hx hb dX9_stalls_7 rfl (lv_at hl 1 rfl) ?_
  refine r_cVp (pc := 8) (As := [.int vp1]) (rest := []) CX P hl.1 hF kv_X9_57 (fun r q => c_X6_has l G B _ _ _ _ q) rfl rfl ⟨Nat.le_of_ble_eq_true rfl, Nat.le_of_ble_eq_true rfl⟩ (Nat.le_of_ble_eq_true rfl) ⟨Nat.le_of_ble_eq_true rfl, Nat.le_of_ble_eq_true rfl⟩ dX9_stalls_8 (fun v3 H locs P hF => ?_)
  refine lv_if_ne (pc := 11) (tgt := 17) hx hb dX9_stalls_11 (by decide) (fun hc => ?_) (fun hc => ?_)
  · rw [if_neg hc] at hF
    refine lv_iload_n (pc := 17) hx hb dX9_stalls_17 rfl (lv_at hl 2 rfl) ?_
    refine lv_iconst (pc := 18) (v := 0) hx hb dX9_stalls_18 (by decide) ?_
    refine lv_iconst (pc := 19) (v := 2) hx hb dX9_stalls_19 (by decide) ?_
    refine r_cSp (pc := 20) (As := [.int vp2, .int 0, .int 2]) (rest := []) CX P hl.1 hF ks_X9_111 (fun r q => c_X9_outside l G B _ _ _ _ _ q) rfl rfl ⟨Nat.le_of_ble_eq_true rfl, Nat.le_of_ble_eq_true rfl⟩ (Nat.le_of_ble_eq_true rfl) ⟨Nat.le_of_ble_eq_true rfl, Nat.le_of_ble_eq_true rfl⟩ dX9_stalls_20 (fun v4 H locs P hF => ?_)
    refine lv_if_eq (pc := 23) (tgt := 29) hx hb dX9_stalls_23 (by decide) (fun hc => ?_) (fun hc => ?_)
    · rw [if_pos hc] at hF
      refine lv_aload_n (pc := 29) hx hb dX9_stalls_29 rfl (lv_at hl 0 rfl) ?_
      refine r_gR (pc := 30) CX P hF fl_X9_10 dX9_stalls_30 (fun a5 hF => ?_)
      refine r_gR (pc := 33) CX P hF fl_X9_75 dX9_stalls_33 (fun a6 hF => ?_)
      refine r_gR (pc := 36) CX P hF fl_X9_287 dX9_stalls_36 (fun a7 hF => ?_)
      refine lv_iload_n (pc := 39) hx hb dX9_stalls_39 rfl (lv_at hl 2 rfl) ?_
      refine r_aR (pc := 40) CX P hF (Or.inr (Or.inl rfl)) dX9_stalls_40 (fun a8 hF => ?_)
      refine lv_iload_n (pc := 41) hx hb dX9_stalls_41 rfl (lv_at hl 1 rfl) ?_
      refine r_aI (pc := 42) CX P hF dX9_stalls_42 (fun v9 hF => ?_)
      cases hF
      exact hret _ _ _ _ P rfl dX9_stalls_43
    · rw [if_neg hc] at hF
      refine lv_bipush (pc := 26) (v := (-3)) hx hb dX9_stalls_26 (by decide) ?_
      cases hF
      exact hret _ _ _ _ P rfl dX9_stalls_28
  · rw [if_pos hc] at hF
    refine lv_bipush (pc := 14) (v := (-2)) hx hb dX9_stalls_14 (by decide) ?_
    cases hF
    exact hret _ _ _ _ P rfl dX9_stalls_16
def F_X9_worst_L6 (h6 : Hp) (a2 : Nat) (v3 : Int32) (v4 : Int32) (v5 : Int32) : Option ((Int32 × Int32 × Int32) ⊕ (Int32)) :=
if 12 ≤ v5 then (
some (.inr v3)) else (
(gR h6 a2 9 0).bind fun a7 =>
(gR h6 a7 8 0).bind fun a8 =>
(cO h6 a8 6 (F_X6_has h6 a8 v5)).bind fun v9 =>
(if v9 = 0 then (
some (0 : Int32)) else (
(gR h6 a2 9 0).bind fun a11 =>
(gR h6 a11 8 2).bind fun a12 =>
(cO h6 a12 1 (F_X1_recent h6 a12 v5 0 10)).bind fun v13 =>
some (v13 : Int32))).bind fun v14 =>
if v14 ≤ v4 then (
bl (v5 + 1) fun v15 =>
some (.inl (v3, v4, v15))) else (
bl (v5 + 1) fun v16 =>
some (.inl (v5, v14, v16))))
def F_X9_worst (h : Hp) (a0 : Nat) : Option (Int32) :=
(loopF (fun x => F_X9_worst_L6 h a0 x.1 x.2.1 x.2.2) 6000 ((-1), 0, 1)).bind fun v17 =>
some v17
set_option maxRecDepth 100000 in
set_option maxHeartbeats 4000000 in
theorem c_X9_worst (l : Launch) (G : GG) (B : Nat) (h : Hp) (a0 : Nat) (r0 : Int32) (hF : F_X9_worst h a0 = some r0) : CI l yX9_worst cX9_worst 5 .int 2 44 0 0 G B h [.ref (B + a0)] r0 h := by
  refine ent_i rfl (Nat.le_of_ble_eq_true rfl) ?_
  intro p e s m args below meth c ls Q CX hnm hret P hl
  have CX : Cxt p m c cX9_worst 5 s args RX9 G B := CX
  obtain ⟨⟨hx, hb, hml, hown, hts⟩, -, -⟩ := id CX
  replace hl : lv_has ls 5 [(0, .ref (B + a0))] := hl
  generalize s.heap = H at P ⊢
  generalize ([] : List Loc) = locs at P ⊢
  unfold F_X9_worst at hF
  refine lv_iconst (pc := 0) (v := (-1)) hx hb dX9_worst_0 (by decide) ?_
  refine lv_istore_n (pc := 1) hx hb dX9_worst_1 rfl hl (by decide) rfl (fun ls hl => ?_)
  replace hl : lv_has ls 5 [(1, .int (-1)), (0, .ref (B + a0))] := hl
  refine lv_iconst (pc := 2) (v := 0) hx hb dX9_worst_2 (by decide) ?_
  refine lv_istore_n (pc := 3) hx hb dX9_worst_3 rfl hl (by decide) rfl (fun ls hl => ?_)
  replace hl : lv_has ls 5 [(2, .int 0), (1, .int (-1)), (0, .ref (B + a0))] := hl
  refine lv_iconst (pc := 4) (v := 1) hx hb dX9_worst_4 (by decide) ?_
  refine lv_istore_n (pc := 5) hx hb dX9_worst_5 rfl hl (by decide) rfl (fun ls hl => ?_)
  replace hl : lv_has ls 5 [(3, .int 1), (2, .int 0), (1, .int (-1)), (0, .ref (B + a0))] := hl
  obtain ⟨r1, hLp1, hK1⟩ := bd_some hF
  have hX1 : ∀ (v17 : Int32) (H : Heap) (locs : List Loc) (ls : Array Slot), Pic G B h s H locs → lv_has ls 5 [(1, .int v17)] → v17 = r1 → W p l e (rmM 2 44 0 0) s m args below meth c H locs 0 0 Q (F0 m 63 ls []) := by
    intro v17 H locs ls P hl er
    subst er
    have hF := hK1
    refine lv_iload_n (pc := 63) hx hb dX9_worst_63 rfl (lv_at hl 0 rfl) ?_
    cases hF
    exact hret _ _ _ _ P rfl dX9_worst_64
  have hL1 : ∀ (n : Nat) (v3 : Int32) (v4 : Int32) (v5 : Int32) (H : Heap) (locs : List Loc) (ls : Array Slot), Pic G B h s H locs → lv_has ls 5 [(0, .ref (B + a0)), (1, .int v3), (2, .int v4), (3, .int v5)] → loopF (fun x => F_X9_worst_L6 h a0 x.1 x.2.1 x.2.2) n (v3, v4, v5) = some r1 → W p l e (rmM 2 44 0 0) s m args below meth c H locs 0 0 Q (F0 m 6 ls []) := by
    intro n
    induction n with
    | zero => intro v3 v4 v5 H locs ls P hl hq; cases hq
    | succ n ih =>
      intro v3 v4 v5 H locs ls P hl hq
      obtain ⟨z1, hS1, hI1, hR1⟩ := loop_some hq
      have hF : F_X9_worst_L6 h a0 v3 v4 v5 = some z1 := hS1
      unfold F_X9_worst_L6 at hF
      refine lv_iload_n (pc := 6) hx hb dX9_worst_6 rfl (lv_at hl 3 rfl) ?_
      refine lv_bipush (pc := 7) (v := 12) hx hb dX9_worst_7 (by decide) ?_
      refine lv_icmp_ge (pc := 9) (tgt := 63) hx hb dX9_worst_9 (by decide) (fun hc => ?_) (fun hc => ?_)
      · rw [if_pos hc] at hF
        exact hX1 _ _ _ _ P (lv_sub hl [1] rfl) (hR1 _ (Option.some.inj hF).symm)
      · rw [if_neg hc] at hF
        refine lv_aload_n (pc := 12) hx hb dX9_worst_12 rfl (lv_at hl 0 rfl) ?_
        refine r_gR (pc := 13) CX P hF fl_X9_10 dX9_worst_13 (fun a7 hF => ?_)
        refine r_gR (pc := 16) CX P hF fl_X9_53 dX9_worst_16 (fun a8 hF => ?_)
        refine lv_iload_n (pc := 19) hx hb dX9_worst_19 rfl (lv_at hl 3 rfl) ?_
        refine r_cVp (pc := 20) (As := [.int v5]) (rest := []) CX P hl.1 hF kv_X9_57 (fun r q => c_X6_has l G B _ _ _ _ q) rfl rfl ⟨Nat.le_of_ble_eq_true rfl, Nat.le_of_ble_eq_true rfl⟩ (Nat.le_of_ble_eq_true rfl) ⟨Nat.le_of_ble_eq_true rfl, Nat.le_of_ble_eq_true rfl⟩ dX9_worst_20 (fun v9 H locs P hF => ?_)
        obtain ⟨j10, hA10, hK10⟩ := bd_some hF
        have hJ10 : ∀ (v14 : Int32) (H : Heap) (locs : List Loc) (ls : Array Slot), Pic G B h s H locs → lv_has ls 5 [(0, .ref (B + a0)), (1, .int v3), (2, .int v4), (3, .int v5)] → v14 = j10 → W p l e (rmM 2 44 0 0) s m args below meth c H locs 0 0 Q (F0 m 44 ls [.int v14]) := by
          intro v14 H locs ls P hl ej
          subst ej
          have hF := hK10
          refine lv_istore (pc := 44) hx hb dX9_worst_44 hl (by decide) rfl (fun ls hl => ?_)
          replace hl : lv_has ls 5 [(4, .int v14), (0, .ref (B + a0)), (1, .int v3), (2, .int v4), (3, .int v5)] := hl
          refine lv_iload (pc := 46) hx hb dX9_worst_46 (lv_at hl 0 rfl) ?_
          refine lv_iload_n (pc := 48) hx hb dX9_worst_48 rfl (lv_at hl 3 rfl) ?_
          refine lv_icmp_le (pc := 49) (tgt := 57) hx hb dX9_worst_49 (by decide) (fun hc => ?_) (fun hc => ?_)
          · rw [if_pos hc] at hF
            obtain ⟨v15, ev15, hF⟩ := bl_o hF
            refine lv_iinc (pc := 57) (k := 4) (v := v15) hx hb dX9_worst_57 hl rfl ev15 (by decide) rfl (fun ls hl => ?_)
            replace hl : lv_has ls 5 [(3, .int v15), (4, .int v14), (0, .ref (B + a0)), (1, .int v3), (2, .int v4)] := hl
            refine lv_goto (pc := 60) (tgt := 6) hx hb dX9_worst_60 (by decide) ?_
            exact ih _ _ _ _ _ _ P (lv_sub hl [2, 3, 4, 0] rfl) (hI1 _ (Option.some.inj hF).symm)
          · rw [if_neg hc] at hF
            refine lv_iload (pc := 52) hx hb dX9_worst_52 (lv_at hl 0 rfl) ?_
            refine lv_istore_n (pc := 54) hx hb dX9_worst_54 rfl hl (by decide) rfl (fun ls hl => ?_)
            replace hl : lv_has ls 5 [(2, .int v14), (4, .int v14), (0, .ref (B + a0)), (1, .int v3), (3, .int v5)] := hl
            refine lv_iload_n (pc := 55) hx hb dX9_worst_55 rfl (lv_at hl 4 rfl) ?_
            refine lv_istore_n (pc := 56) hx hb dX9_worst_56 rfl hl (by decide) rfl (fun ls hl => ?_)
            replace hl : lv_has ls 5 [(1, .int v5), (2, .int v14), (4, .int v14), (0, .ref (B + a0)), (3, .int v5)] := hl
            obtain ⟨v16, ev16, hF⟩ := bl_o hF
            refine lv_iinc (pc := 57) (k := 4) (v := v16) hx hb dX9_worst_57 hl rfl ev16 (by decide) rfl (fun ls hl => ?_)
            replace hl : lv_has ls 5 [(3, .int v16), (1, .int v5), (2, .int v14), (4, .int v14), (0, .ref (B + a0))] := hl
            refine lv_goto (pc := 60) (tgt := 6) hx hb dX9_worst_60 (by decide) ?_
            exact ih _ _ _ _ _ _ P (lv_sub hl [4, 1, 2, 0] rfl) (hI1 _ (Option.some.inj hF).symm)
        replace hF := hA10
        refine lv_if_eq (pc := 23) (tgt := 43) hx hb dX9_worst_23 (by decide) (fun hc => ?_) (fun hc => ?_)
        · rw [if_pos hc] at hF
          refine lv_iconst (pc := 43) (v := 0) hx hb dX9_worst_43 (by decide) ?_
          exact hJ10 _ _ _ _ P (lv_sub hl [0, 1, 2, 3] rfl) (Option.some.inj hF)
        · rw [if_neg hc] at hF
          refine lv_aload_n (pc := 26) hx hb dX9_worst_26 rfl (lv_at hl 0 rfl) ?_
          refine r_gR (pc := 27) CX P hF fl_X9_10 dX9_worst_27 (fun a11 hF => ?_)
          refine r_gR (pc := 30) CX P hF fl_X9_75 dX9_worst_30 (fun a12 hF => ?_)
          refine lv_iload_n (pc := 33) hx hb dX9_worst_33 rfl (lv_at hl 3 rfl) ?_
          refine lv_iconst (pc := 34) (v := 0) hx hb dX9_worst_34 (by decide) ?_
          refine lv_bipush (pc := 35) (v := 10) hx hb dX9_worst_35 (by decide) ?_
          refine r_cVp (pc := 37) (As := [.int v5, .int 0, .int 10]) (rest := []) CX P hl.1 hF kv_X9_281 (fun r q => c_X1_recent l G B _ _ _ _ _ _ q) rfl rfl ⟨Nat.le_of_ble_eq_true rfl, Nat.le_of_ble_eq_true rfl⟩ (Nat.le_of_ble_eq_true rfl) ⟨Nat.le_of_ble_eq_true rfl, Nat.le_of_ble_eq_true rfl⟩ dX9_worst_37 (fun v13 H locs P hF => ?_)
          refine lv_goto (pc := 40) (tgt := 44) hx hb dX9_worst_40 (by decide) ?_
          exact hJ10 _ _ _ _ P (lv_sub hl [0, 1, 2, 3] rfl) (Option.some.inj hF)
  exact hL1 _ _ _ _ _ _ _ P (lv_sub hl [3, 2, 1, 0] rfl) hLp1
def F_X9_units (h : Hp) (a0 : Nat) (vp1 : Int32) (vp2 : Int32) : Option (Int32 × Hp) :=
(if vp2 = 0 then (
(gR h a0 9 0).bind fun a2 =>
(gR h a2 8 0).bind fun a3 =>
(cO h a3 6 (F_X6_has h a3 vp1)).bind fun v4 =>
if v4 = 0 then (
some (0 : Int32)) else (
some (1 : Int32))) else (
some (0 : Int32))).bind fun v5 =>
(if vp2 = 1 then (
(gR h a0 9 0).bind fun a7 =>
(gR h a7 8 1).bind fun a8 =>
(cO h a8 0 (F_X0_has h a8 vp1)).bind fun v9 =>
if v9 = 0 then (
some (0 : Int32)) else (
some (1 : Int32))) else (
some (0 : Int32))).bind fun v10 =>
bl (fun (_ : Unit) =>
(gR h a0 9 6).bind fun a12 =>
(gR h a0 9 0).bind fun a13 =>
(cO h a12 2 (F_X2_plan h a12 a13)).bind fun h14 =>
(gR h14 a0 9 6).bind fun a15 =>
(gR h14 a15 2 0).bind fun a16 =>
if v5 = 0 then (
(aI h14 a16 (12 + vp1)).bind fun v17 =>
some (v17, h14)) else (
(aI h14 a16 vp1).bind fun v18 =>
some (v18, h14))) fun k11 =>
if v5 = 0 then (
if v10 = 0 then (
some ((-2), h)) else (
k11 ())) else (
k11 ())
set_option maxRecDepth 100000 in
set_option maxHeartbeats 4000000 in
theorem c_X9_units (l : Launch) (G : GG) (B : Nat) (h : Hp) (a0 : Nat) (vp1 : Int32) (vp2 : Int32) (r0 : Int32) (hr : Hp) (hF : F_X9_units h a0 vp1 vp2 = some (r0, hr)) : CI l yX9_units cX9_units 5 .int 4 110 0 0 G B h [.ref (B + a0), .int vp1, .int vp2] r0 hr := by
  refine ent_i rfl (Nat.le_of_ble_eq_true rfl) ?_
  intro p e s m args below meth c ls Q CX hnm hret P hl
  have CX : Cxt p m c cX9_units 5 s args RX9 G B := CX
  obtain ⟨⟨hx, hb, hml, hown, hts⟩, -, -⟩ := id CX
  replace hl : lv_has ls 5 [(0, .ref (B + a0)), (1, .int vp1), (2, .int vp2)] := hl
  generalize s.heap = H at P ⊢
  generalize ([] : List Loc) = locs at P ⊢
  unfold F_X9_units at hF
  refine lv_iload_n (pc := 0) hx hb dX9_units_0 rfl (lv_at hl 2 rfl) ?_
  obtain ⟨j1, hA1, hK1⟩ := bd_some hF
  have hJ1 : ∀ (v5 : Int32) (H : Heap) (locs : List Loc) (ls : Array Slot), Pic G B h s H locs → lv_has ls 5 [(0, .ref (B + a0)), (1, .int vp1), (2, .int vp2)] → v5 = j1 → W p l e (rmM 4 110 0 0) s m args below meth c H locs 0 0 Q (F0 m 23 ls [.int v5]) := by
    intro v5 H locs ls P hl ej
    subst ej
    have hF := hK1
    refine lv_istore_n (pc := 23) hx hb dX9_units_23 rfl hl (by decide) rfl (fun ls hl => ?_)
    replace hl : lv_has ls 5 [(3, .int v5), (0, .ref (B + a0)), (1, .int vp1), (2, .int vp2)] := hl
    refine lv_iload_n (pc := 24) hx hb dX9_units_24 rfl (lv_at hl 3 rfl) ?_
    refine lv_iconst (pc := 25) (v := 1) hx hb dX9_units_25 (by decide) ?_
    obtain ⟨j6, hA6, hK6⟩ := bd_some hF
    have hJ6 : ∀ (v10 : Int32) (H : Heap) (locs : List Loc) (ls : Array Slot), Pic G B h s H locs → lv_has ls 5 [(0, .ref (B + a0)), (1, .int vp1), (3, .int v5)] → v10 = j6 → W p l e (rmM 4 110 0 0) s m args below meth c H locs 0 0 Q (F0 m 48 ls [.int v10]) := by
      intro v10 H locs ls P hl ej
      subst ej
      have hF := hK6
      refine lv_istore (pc := 48) hx hb dX9_units_48 hl (by decide) rfl (fun ls hl => ?_)
      replace hl : lv_has ls 5 [(4, .int v10), (0, .ref (B + a0)), (1, .int vp1), (3, .int v5)] := hl
      refine lv_iload_n (pc := 50) hx hb dX9_units_50 rfl (lv_at hl 3 rfl) ?_
      obtain ⟨k11, ek11, hF⟩ := bl_o hF
      have hJ11 : ∀  (H : Heap) (locs : List Loc) (ls : Array Slot), Pic G B h s H locs → lv_has ls 5 [(0, .ref (B + a0)), (1, .int vp1), (3, .int v5)] → k11 () = some (r0, hr) → W p l e (rmM 4 110 0 0) s m args below meth c H locs 0 0 Q (F0 m 62 ls []) := by
        intro  H locs ls P hl hF
        rw [← ek11] at hF
        try dsimp only at hF
        refine lv_aload_n (pc := 62) hx hb dX9_units_62 rfl (lv_at hl 0 rfl) ?_
        refine r_gR (pc := 63) CX P hF fl_X9_49 dX9_units_63 (fun a12 hF => ?_)
        refine lv_aload_n (pc := 66) hx hb dX9_units_66 rfl (lv_at hl 0 rfl) ?_
        refine r_gR (pc := 67) CX P hF fl_X9_10 dX9_units_67 (fun a13 hF => ?_)
        refine r_cVv (pc := 70) (As := [.ref (B + a13)]) (rest := []) CX P hl.1 hF kv_X9_290 (fun h1 q => c_X2_plan l G B _ _ _ _ q) rfl rfl ⟨Nat.le_of_ble_eq_true rfl, Nat.le_of_ble_eq_true rfl⟩ (Nat.le_of_ble_eq_true rfl) ⟨Nat.le_of_ble_eq_true rfl, Nat.le_of_ble_eq_true rfl⟩ dX9_units_70 (fun h14 H locs P hF => ?_)
        refine lv_aload_n (pc := 73) hx hb dX9_units_73 rfl (lv_at hl 0 rfl) ?_
        refine r_gR (pc := 74) CX P hF fl_X9_49 dX9_units_74 (fun a15 hF => ?_)
        refine r_gR (pc := 77) CX P hF fl_X9_293 dX9_units_77 (fun a16 hF => ?_)
        refine lv_iload_n (pc := 80) hx hb dX9_units_80 rfl (lv_at hl 2 rfl) ?_
        refine lv_if_eq (pc := 81) (tgt := 88) hx hb dX9_units_81 (by decide) (fun hc => ?_) (fun hc => ?_)
        · rw [if_pos hc] at hF
          refine lv_bipush (pc := 88) (v := 12) hx hb dX9_units_88 (by decide) ?_
          refine lv_iload_n (pc := 90) hx hb dX9_units_90 rfl (lv_at hl 1 rfl) ?_
          refine lv_iadd (pc := 91) hx hb dX9_units_91 ?_
          refine r_aI (pc := 92) CX P hF dX9_units_92 (fun v17 hF => ?_)
          cases hF
          exact hret _ _ _ _ P rfl dX9_units_93
        · rw [if_neg hc] at hF
          refine lv_iload_n (pc := 84) hx hb dX9_units_84 rfl (lv_at hl 1 rfl) ?_
          refine lv_goto (pc := 85) (tgt := 92) hx hb dX9_units_85 (by decide) ?_
          refine r_aI (pc := 92) CX P hF dX9_units_92 (fun v18 hF => ?_)
          cases hF
          exact hret _ _ _ _ P rfl dX9_units_93
      refine lv_if_ne (pc := 51) (tgt := 62) hx hb dX9_units_51 (by decide) (fun hc => ?_) (fun hc => ?_)
      · rw [if_neg hc] at hF
        exact hJ11  _ _ _ P (lv_sub hl [1, 2, 3] rfl) hF
      · rw [if_pos hc] at hF
        refine lv_iload (pc := 54) hx hb dX9_units_54 (lv_at hl 0 rfl) ?_
        refine lv_if_ne (pc := 56) (tgt := 62) hx hb dX9_units_56 (by decide) (fun hc => ?_) (fun hc => ?_)
        · rw [if_neg hc] at hF
          exact hJ11  _ _ _ P (lv_sub hl [1, 2, 3] rfl) hF
        · rw [if_pos hc] at hF
          refine lv_bipush (pc := 59) (v := (-2)) hx hb dX9_units_59 (by decide) ?_
          cases hF
          exact hret _ _ _ _ P rfl dX9_units_61
    replace hF := hA6
    refine lv_icmp_ne (pc := 26) (tgt := 47) hx hb dX9_units_26 (by decide) (fun hc => ?_) (fun hc => ?_)
    · rw [if_neg hc] at hF
      refine lv_iconst (pc := 47) (v := 0) hx hb dX9_units_47 (by decide) ?_
      exact hJ6 _ _ _ _ P (lv_sub hl [1, 2, 0] rfl) (Option.some.inj hF)
    · rw [if_pos hc] at hF
      refine lv_aload_n (pc := 29) hx hb dX9_units_29 rfl (lv_at hl 1 rfl) ?_
      refine r_gR (pc := 30) CX P hF fl_X9_10 dX9_units_30 (fun a7 hF => ?_)
      refine r_gR (pc := 33) CX P hF fl_X9_129 dX9_units_33 (fun a8 hF => ?_)
      refine lv_iload_n (pc := 36) hx hb dX9_units_36 rfl (lv_at hl 2 rfl) ?_
      refine r_cVp (pc := 37) (As := [.int vp1]) (rest := []) CX P hl.1 hF kv_X9_133 (fun r q => c_X0_has l G B _ _ _ _ q) rfl rfl ⟨Nat.le_of_ble_eq_true rfl, Nat.le_of_ble_eq_true rfl⟩ (Nat.le_of_ble_eq_true rfl) ⟨Nat.le_of_ble_eq_true rfl, Nat.le_of_ble_eq_true rfl⟩ dX9_units_37 (fun v9 H locs P hF => ?_)
      refine lv_if_eq (pc := 40) (tgt := 47) hx hb dX9_units_40 (by decide) (fun hc => ?_) (fun hc => ?_)
      · rw [if_pos hc] at hF
        refine lv_iconst (pc := 47) (v := 0) hx hb dX9_units_47 (by decide) ?_
        exact hJ6 _ _ _ _ P (lv_sub hl [1, 2, 0] rfl) (Option.some.inj hF)
      · rw [if_neg hc] at hF
        refine lv_iconst (pc := 43) (v := 1) hx hb dX9_units_43 (by decide) ?_
        refine lv_goto (pc := 44) (tgt := 48) hx hb dX9_units_44 (by decide) ?_
        exact hJ6 _ _ _ _ P (lv_sub hl [1, 2, 0] rfl) (Option.some.inj hF)
  replace hF := hA1
  refine lv_if_ne (pc := 1) (tgt := 22) hx hb dX9_units_1 (by decide) (fun hc => ?_) (fun hc => ?_)
  · rw [if_neg hc] at hF
    refine lv_iconst (pc := 22) (v := 0) hx hb dX9_units_22 (by decide) ?_
    exact hJ1 _ _ _ _ P (lv_sub hl [0, 1, 2] rfl) (Option.some.inj hF)
  · rw [if_pos hc] at hF
    refine lv_aload_n (pc := 4) hx hb dX9_units_4 rfl (lv_at hl 0 rfl) ?_
    refine r_gR (pc := 5) CX P hF fl_X9_10 dX9_units_5 (fun a2 hF => ?_)
    refine r_gR (pc := 8) CX P hF fl_X9_53 dX9_units_8 (fun a3 hF => ?_)
    refine lv_iload_n (pc := 11) hx hb dX9_units_11 rfl (lv_at hl 1 rfl) ?_
    refine r_cVp (pc := 12) (As := [.int vp1]) (rest := []) CX P hl.1 hF kv_X9_57 (fun r q => c_X6_has l G B _ _ _ _ q) rfl rfl ⟨Nat.le_of_ble_eq_true rfl, Nat.le_of_ble_eq_true rfl⟩ (Nat.le_of_ble_eq_true rfl) ⟨Nat.le_of_ble_eq_true rfl, Nat.le_of_ble_eq_true rfl⟩ dX9_units_12 (fun v4 H locs P hF => ?_)
    refine lv_if_eq (pc := 15) (tgt := 22) hx hb dX9_units_15 (by decide) (fun hc => ?_) (fun hc => ?_)
    · rw [if_pos hc] at hF
      refine lv_iconst (pc := 22) (v := 0) hx hb dX9_units_22 (by decide) ?_
      exact hJ1 _ _ _ _ P (lv_sub hl [0, 1, 2] rfl) (Option.some.inj hF)
    · rw [if_neg hc] at hF
      refine lv_iconst (pc := 18) (v := 1) hx hb dX9_units_18 (by decide) ?_
      refine lv_goto (pc := 19) (tgt := 23) hx hb dX9_units_19 (by decide) ?_
      exact hJ1 _ _ _ _ P (lv_sub hl [0, 1, 2] rfl) (Option.some.inj hF)
def F_X9_fired (h : Hp) (a0 : Nat) (vp1 : Int32) (vp2 : Int32) : Option (Int32) :=
if vp1 < 0 then (
some (-2)) else (
(gR h a0 9 0).bind fun a1 =>
(gR h a1 8 3).bind fun a2 =>
(gI h a2 7 4).bind fun v3 =>
if v3 ≤ vp1 then (
some (-2)) else (
(F_X9_outside h vp2 0 1).bind fun v4 =>
if v4 = 0 then (
if vp2 = 0 then (
(gR h a0 9 0).bind fun a9 =>
(gR h a9 8 3).bind fun a10 =>
(gR h a10 7 3).bind fun a11 =>
(aI h a11 vp1).bind fun v12 =>
some v12) else (
(gR h a0 9 0).bind fun a5 =>
(gR h a5 8 3).bind fun a6 =>
(gR h a6 7 0).bind fun a7 =>
(aI h a7 vp1).bind fun v8 =>
some v8)) else (
some (-2))))
set_option maxRecDepth 100000 in
set_option maxHeartbeats 4000000 in
theorem c_X9_fired (l : Launch) (G : GG) (B : Nat) (h : Hp) (a0 : Nat) (vp1 : Int32) (vp2 : Int32) (r0 : Int32) (hF : F_X9_fired h a0 vp1 vp2 = some r0) : CI l yX9_fired cX9_fired 3 .int 1 22 0 0 G B h [.ref (B + a0), .int vp1, .int vp2] r0 h := by
  refine ent_i rfl (Nat.le_of_ble_eq_true rfl) ?_
  intro p e s m args below meth c ls Q CX hnm hret P hl
  have CX : Cxt p m c cX9_fired 3 s args RX9 G B := CX
  obtain ⟨⟨hx, hb, hml, hown, hts⟩, -, -⟩ := id CX
  replace hl : lv_has ls 3 [(0, .ref (B + a0)), (1, .int vp1), (2, .int vp2)] := hl
  generalize s.heap = H at P ⊢
  generalize ([] : List Loc) = locs at P ⊢
  unfold F_X9_fired at hF
  refine lv_iload_n (pc := 0) hx hb dX9_fired_0 rfl (lv_at hl 1 rfl) ?_
  refine lv_if_lt (pc := 1) (tgt := 27) hx hb dX9_fired_1 (by decide) (fun hc => ?_) (fun hc => ?_)
  · rw [if_pos hc] at hF
    refine lv_bipush (pc := 27) (v := (-2)) hx hb dX9_fired_27 (by decide) ?_
    cases hF
    exact hret _ _ _ _ P rfl dX9_fired_29
  · rw [if_neg hc] at hF
    refine lv_iload_n (pc := 4) hx hb dX9_fired_4 rfl (lv_at hl 1 rfl) ?_
    refine lv_aload_n (pc := 5) hx hb dX9_fired_5 rfl (lv_at hl 0 rfl) ?_
    refine r_gR (pc := 6) CX P hF fl_X9_10 dX9_fired_6 (fun a1 hF => ?_)
    refine r_gR (pc := 9) CX P hF fl_X9_102 dX9_fired_9 (fun a2 hF => ?_)
    refine r_gI (pc := 12) CX P hF fl_X9_224 dX9_fired_12 (fun v3 hF => ?_)
    refine lv_icmp_ge (pc := 15) (tgt := 27) hx hb dX9_fired_15 (by decide) (fun hc => ?_) (fun hc => ?_)
    · rw [if_pos hc] at hF
      refine lv_bipush (pc := 27) (v := (-2)) hx hb dX9_fired_27 (by decide) ?_
      cases hF
      exact hret _ _ _ _ P rfl dX9_fired_29
    · rw [if_neg hc] at hF
      refine lv_iload_n (pc := 18) hx hb dX9_fired_18 rfl (lv_at hl 2 rfl) ?_
      refine lv_iconst (pc := 19) (v := 0) hx hb dX9_fired_19 (by decide) ?_
      refine lv_iconst (pc := 20) (v := 1) hx hb dX9_fired_20 (by decide) ?_
      refine r_cSp (pc := 21) (As := [.int vp2, .int 0, .int 1]) (rest := []) CX P hl.1 hF ks_X9_111 (fun r q => c_X9_outside l G B _ _ _ _ _ q) rfl rfl ⟨Nat.le_of_ble_eq_true rfl, Nat.le_of_ble_eq_true rfl⟩ (Nat.le_of_ble_eq_true rfl) ⟨Nat.le_of_ble_eq_true rfl, Nat.le_of_ble_eq_true rfl⟩ dX9_fired_21 (fun v4 H locs P hF => ?_)
      refine lv_if_eq (pc := 24) (tgt := 30) hx hb dX9_fired_24 (by decide) (fun hc => ?_) (fun hc => ?_)
      · rw [if_pos hc] at hF
        refine lv_iload_n (pc := 30) hx hb dX9_fired_30 rfl (lv_at hl 2 rfl) ?_
        refine lv_if_ne (pc := 31) (tgt := 49) hx hb dX9_fired_31 (by decide) (fun hc => ?_) (fun hc => ?_)
        · rw [if_neg hc] at hF
          refine lv_aload_n (pc := 49) hx hb dX9_fired_49 rfl (lv_at hl 0 rfl) ?_
          refine r_gR (pc := 50) CX P hF fl_X9_10 dX9_fired_50 (fun a5 hF => ?_)
          refine r_gR (pc := 53) CX P hF fl_X9_102 dX9_fired_53 (fun a6 hF => ?_)
          refine r_gR (pc := 56) CX P hF fl_X9_299 dX9_fired_56 (fun a7 hF => ?_)
          refine lv_iload_n (pc := 59) hx hb dX9_fired_59 rfl (lv_at hl 1 rfl) ?_
          refine r_aI (pc := 60) CX P hF dX9_fired_60 (fun v8 hF => ?_)
          cases hF
          exact hret _ _ _ _ P rfl dX9_fired_61
        · rw [if_pos hc] at hF
          refine lv_aload_n (pc := 34) hx hb dX9_fired_34 rfl (lv_at hl 0 rfl) ?_
          refine r_gR (pc := 35) CX P hF fl_X9_10 dX9_fired_35 (fun a9 hF => ?_)
          refine r_gR (pc := 38) CX P hF fl_X9_102 dX9_fired_38 (fun a10 hF => ?_)
          refine r_gR (pc := 41) CX P hF fl_X9_296 dX9_fired_41 (fun a11 hF => ?_)
          refine lv_iload_n (pc := 44) hx hb dX9_fired_44 rfl (lv_at hl 1 rfl) ?_
          refine r_aI (pc := 45) CX P hF dX9_fired_45 (fun v12 hF => ?_)
          refine lv_goto (pc := 46) (tgt := 61) hx hb dX9_fired_46 (by decide) ?_
          cases hF
          exact hret _ _ _ _ P rfl dX9_fired_61
      · rw [if_neg hc] at hF
        refine lv_bipush (pc := 27) (v := (-2)) hx hb dX9_fired_27 (by decide) ?_
        cases hF
        exact hret _ _ _ _ P rfl dX9_fired_29
def F_X9_events (h : Hp) (a0 : Nat) (vp1 : Int32) (vp2 : Int32) : Option (Int32) :=
(gR h a0 9 0).bind fun a1 =>
(gR h a1 8 0).bind fun a2 =>
(cO h a2 6 (F_X6_has h a2 vp1)).bind fun v3 =>
if v3 = 0 then (
some (-2)) else (
(F_X9_outside h vp2 0 3).bind fun v4 =>
if v4 = 0 then (
(gR h a0 9 0).bind fun a5 =>
(gR h a5 8 0).bind fun a6 =>
(gR h a6 6 8).bind fun a7 =>
(aR h a7 15 vp2).bind fun a8 =>
(aI h a8 vp1).bind fun v9 =>
some v9) else (
some (-2)))
set_option maxRecDepth 100000 in
set_option maxHeartbeats 4000000 in
theorem c_X9_events (l : Launch) (G : GG) (B : Nat) (h : Hp) (a0 : Nat) (vp1 : Int32) (vp2 : Int32) (r0 : Int32) (hF : F_X9_events h a0 vp1 vp2 = some r0) : CI l yX9_events cX9_events 3 .int 1 22 0 0 G B h [.ref (B + a0), .int vp1, .int vp2] r0 h := by
  refine ent_i rfl (Nat.le_of_ble_eq_true rfl) ?_
  intro p e s m args below meth c ls Q CX hnm hret P hl
  have CX : Cxt p m c cX9_events 3 s args RX9 G B := CX
  obtain ⟨⟨hx, hb, hml, hown, hts⟩, -, -⟩ := id CX
  replace hl : lv_has ls 3 [(0, .ref (B + a0)), (1, .int vp1), (2, .int vp2)] := hl
  generalize s.heap = H at P ⊢
  generalize ([] : List Loc) = locs at P ⊢
  unfold F_X9_events at hF
  refine lv_aload_n (pc := 0) hx hb dX9_events_0 rfl (lv_at hl 0 rfl) ?_
  refine r_gR (pc := 1) CX P hF fl_X9_10 dX9_events_1 (fun a1 hF => ?_)
  refine r_gR (pc := 4) CX P hF fl_X9_53 dX9_events_4 (fun a2 hF => ?_)
  refine lv_iload_n (pc := 7) hx hb dX9_events_7 rfl (lv_at hl 1 rfl) ?_
  refine r_cVp (pc := 8) (As := [.int vp1]) (rest := []) CX P hl.1 hF kv_X9_57 (fun r q => c_X6_has l G B _ _ _ _ q) rfl rfl ⟨Nat.le_of_ble_eq_true rfl, Nat.le_of_ble_eq_true rfl⟩ (Nat.le_of_ble_eq_true rfl) ⟨Nat.le_of_ble_eq_true rfl, Nat.le_of_ble_eq_true rfl⟩ dX9_events_8 (fun v3 H locs P hF => ?_)
  refine lv_if_eq (pc := 11) (tgt := 23) hx hb dX9_events_11 (by decide) (fun hc => ?_) (fun hc => ?_)
  · rw [if_pos hc] at hF
    refine lv_bipush (pc := 23) (v := (-2)) hx hb dX9_events_23 (by decide) ?_
    cases hF
    exact hret _ _ _ _ P rfl dX9_events_25
  · rw [if_neg hc] at hF
    refine lv_iload_n (pc := 14) hx hb dX9_events_14 rfl (lv_at hl 2 rfl) ?_
    refine lv_iconst (pc := 15) (v := 0) hx hb dX9_events_15 (by decide) ?_
    refine lv_iconst (pc := 16) (v := 3) hx hb dX9_events_16 (by decide) ?_
    refine r_cSp (pc := 17) (As := [.int vp2, .int 0, .int 3]) (rest := []) CX P hl.1 hF ks_X9_111 (fun r q => c_X9_outside l G B _ _ _ _ _ q) rfl rfl ⟨Nat.le_of_ble_eq_true rfl, Nat.le_of_ble_eq_true rfl⟩ (Nat.le_of_ble_eq_true rfl) ⟨Nat.le_of_ble_eq_true rfl, Nat.le_of_ble_eq_true rfl⟩ dX9_events_17 (fun v4 H locs P hF => ?_)
    refine lv_if_eq (pc := 20) (tgt := 26) hx hb dX9_events_20 (by decide) (fun hc => ?_) (fun hc => ?_)
    · rw [if_pos hc] at hF
      refine lv_aload_n (pc := 26) hx hb dX9_events_26 rfl (lv_at hl 0 rfl) ?_
      refine r_gR (pc := 27) CX P hF fl_X9_10 dX9_events_27 (fun a5 hF => ?_)
      refine r_gR (pc := 30) CX P hF fl_X9_53 dX9_events_30 (fun a6 hF => ?_)
      refine r_gR (pc := 33) CX P hF fl_X9_302 dX9_events_33 (fun a7 hF => ?_)
      refine lv_iload_n (pc := 36) hx hb dX9_events_36 rfl (lv_at hl 2 rfl) ?_
      refine r_aR (pc := 37) CX P hF (Or.inr (Or.inl rfl)) dX9_events_37 (fun a8 hF => ?_)
      refine lv_iload_n (pc := 38) hx hb dX9_events_38 rfl (lv_at hl 1 rfl) ?_
      refine r_aI (pc := 39) CX P hF dX9_events_39 (fun v9 hF => ?_)
      cases hF
      exact hret _ _ _ _ P rfl dX9_events_40
    · rw [if_neg hc] at hF
      refine lv_bipush (pc := 23) (v := (-2)) hx hb dX9_events_23 (by decide) ?_
      cases hF
      exact hret _ _ _ _ P rfl dX9_events_25
def F_X9_victim (h : Hp) (a0 : Nat) (vp1 : Int32) : Option (Int32) :=
(gR h a0 9 0).bind fun a1 =>
(gR h a1 8 0).bind fun a2 =>
(cO h a2 6 (F_X6_has h a2 vp1)).bind fun v3 =>
if v3 = 0 then (
some (-2)) else (
(gR h a0 9 0).bind fun a4 =>
(cO h a4 8 (F_X8_victimBelow h a4 vp1)).bind fun v5 =>
some v5)
set_option maxRecDepth 100000 in
set_option maxHeartbeats 4000000 in
theorem c_X9_victim (l : Launch) (G : GG) (B : Nat) (h : Hp) (a0 : Nat) (vp1 : Int32) (r0 : Int32) (hF : F_X9_victim h a0 vp1 = some r0) : CI l yX9_victim cX9_victim 2 .int 3 72 0 0 G B h [.ref (B + a0), .int vp1] r0 h := by
  refine ent_i rfl (Nat.le_of_ble_eq_true rfl) ?_
  intro p e s m args below meth c ls Q CX hnm hret P hl
  have CX : Cxt p m c cX9_victim 2 s args RX9 G B := CX
  obtain ⟨⟨hx, hb, hml, hown, hts⟩, -, -⟩ := id CX
  replace hl : lv_has ls 2 [(0, .ref (B + a0)), (1, .int vp1)] := hl
  generalize s.heap = H at P ⊢
  generalize ([] : List Loc) = locs at P ⊢
  unfold F_X9_victim at hF
  refine lv_aload_n (pc := 0) hx hb dX9_victim_0 rfl (lv_at hl 0 rfl) ?_
  refine r_gR (pc := 1) CX P hF fl_X9_10 dX9_victim_1 (fun a1 hF => ?_)
  refine r_gR (pc := 4) CX P hF fl_X9_53 dX9_victim_4 (fun a2 hF => ?_)
  refine lv_iload_n (pc := 7) hx hb dX9_victim_7 rfl (lv_at hl 1 rfl) ?_
  refine r_cVp (pc := 8) (As := [.int vp1]) (rest := []) CX P hl.1 hF kv_X9_57 (fun r q => c_X6_has l G B _ _ _ _ q) rfl rfl ⟨Nat.le_of_ble_eq_true rfl, Nat.le_of_ble_eq_true rfl⟩ (Nat.le_of_ble_eq_true rfl) ⟨Nat.le_of_ble_eq_true rfl, Nat.le_of_ble_eq_true rfl⟩ dX9_victim_8 (fun v3 H locs P hF => ?_)
  refine lv_if_eq (pc := 11) (tgt := 25) hx hb dX9_victim_11 (by decide) (fun hc => ?_) (fun hc => ?_)
  · rw [if_pos hc] at hF
    refine lv_bipush (pc := 25) (v := (-2)) hx hb dX9_victim_25 (by decide) ?_
    cases hF
    exact hret _ _ _ _ P rfl dX9_victim_27
  · rw [if_neg hc] at hF
    refine lv_aload_n (pc := 14) hx hb dX9_victim_14 rfl (lv_at hl 0 rfl) ?_
    refine r_gR (pc := 15) CX P hF fl_X9_10 dX9_victim_15 (fun a4 hF => ?_)
    refine lv_iload_n (pc := 18) hx hb dX9_victim_18 rfl (lv_at hl 1 rfl) ?_
    refine r_cVp (pc := 19) (As := [.int vp1]) (rest := []) CX P hl.1 hF kv_X9_305 (fun r q => c_X8_victimBelow l G B _ _ _ _ q) rfl rfl ⟨Nat.le_of_ble_eq_true rfl, Nat.le_of_ble_eq_true rfl⟩ (Nat.le_of_ble_eq_true rfl) ⟨Nat.le_of_ble_eq_true rfl, Nat.le_of_ble_eq_true rfl⟩ dX9_victim_19 (fun v5 H locs P hF => ?_)
    refine lv_goto (pc := 22) (tgt := 27) hx hb dX9_victim_22 (by decide) ?_
    cases hF
    exact hret _ _ _ _ P rfl dX9_victim_27
def F_X9_dying (h : Hp) (a0 : Nat) (vp1 : Int32) : Option (Int32) :=
(gR h a0 9 0).bind fun a1 =>
(gR h a1 8 0).bind fun a2 =>
(cO h a2 6 (F_X6_has h a2 vp1)).bind fun v3 =>
if v3 = 0 then (
some (-2)) else (
(gR h a0 9 0).bind fun a4 =>
(cO h a4 8 (F_X8_dyingBelow h a4 vp1)).bind fun v5 =>
some v5)
set_option maxRecDepth 100000 in
set_option maxHeartbeats 4000000 in
theorem c_X9_dying (l : Launch) (G : GG) (B : Nat) (h : Hp) (a0 : Nat) (vp1 : Int32) (r0 : Int32) (hF : F_X9_dying h a0 vp1 = some r0) : CI l yX9_dying cX9_dying 2 .int 4 97 0 0 G B h [.ref (B + a0), .int vp1] r0 h := by
  refine ent_i rfl (Nat.le_of_ble_eq_true rfl) ?_
  intro p e s m args below meth c ls Q CX hnm hret P hl
  have CX : Cxt p m c cX9_dying 2 s args RX9 G B := CX
  obtain ⟨⟨hx, hb, hml, hown, hts⟩, -, -⟩ := id CX
  replace hl : lv_has ls 2 [(0, .ref (B + a0)), (1, .int vp1)] := hl
  generalize s.heap = H at P ⊢
  generalize ([] : List Loc) = locs at P ⊢
  unfold F_X9_dying at hF
  refine lv_aload_n (pc := 0) hx hb dX9_dying_0 rfl (lv_at hl 0 rfl) ?_
  refine r_gR (pc := 1) CX P hF fl_X9_10 dX9_dying_1 (fun a1 hF => ?_)
  refine r_gR (pc := 4) CX P hF fl_X9_53 dX9_dying_4 (fun a2 hF => ?_)
  refine lv_iload_n (pc := 7) hx hb dX9_dying_7 rfl (lv_at hl 1 rfl) ?_
  refine r_cVp (pc := 8) (As := [.int vp1]) (rest := []) CX P hl.1 hF kv_X9_57 (fun r q => c_X6_has l G B _ _ _ _ q) rfl rfl ⟨Nat.le_of_ble_eq_true rfl, Nat.le_of_ble_eq_true rfl⟩ (Nat.le_of_ble_eq_true rfl) ⟨Nat.le_of_ble_eq_true rfl, Nat.le_of_ble_eq_true rfl⟩ dX9_dying_8 (fun v3 H locs P hF => ?_)
  refine lv_if_eq (pc := 11) (tgt := 25) hx hb dX9_dying_11 (by decide) (fun hc => ?_) (fun hc => ?_)
  · rw [if_pos hc] at hF
    refine lv_bipush (pc := 25) (v := (-2)) hx hb dX9_dying_25 (by decide) ?_
    cases hF
    exact hret _ _ _ _ P rfl dX9_dying_27
  · rw [if_neg hc] at hF
    refine lv_aload_n (pc := 14) hx hb dX9_dying_14 rfl (lv_at hl 0 rfl) ?_
    refine r_gR (pc := 15) CX P hF fl_X9_10 dX9_dying_15 (fun a4 hF => ?_)
    refine lv_iload_n (pc := 18) hx hb dX9_dying_18 rfl (lv_at hl 1 rfl) ?_
    refine r_cVp (pc := 19) (As := [.int vp1]) (rest := []) CX P hl.1 hF kv_X9_308 (fun r q => c_X8_dyingBelow l G B _ _ _ _ q) rfl rfl ⟨Nat.le_of_ble_eq_true rfl, Nat.le_of_ble_eq_true rfl⟩ (Nat.le_of_ble_eq_true rfl) ⟨Nat.le_of_ble_eq_true rfl, Nat.le_of_ble_eq_true rfl⟩ dX9_dying_19 (fun v5 H locs P hF => ?_)
    refine lv_goto (pc := 22) (tgt := 27) hx hb dX9_dying_22 (by decide) ?_
    cases hF
    exact hret _ _ _ _ P rfl dX9_dying_27
def F_X9_room (h : Hp) (a0 : Nat) (vp1 : Int32) : Option (Int32) :=
(gR h a0 9 0).bind fun a1 =>
(gR h a1 8 0).bind fun a2 =>
(cO h a2 6 (F_X6_has h a2 vp1)).bind fun v3 =>
if v3 = 0 then (
some (-2)) else (
(gR h a0 9 0).bind fun a4 =>
(gR h a4 8 0).bind fun a5 =>
(cO h a5 6 (F_X6_leastLeft h a5 vp1)).bind fun v6 =>
(gR h a0 9 0).bind fun a7 =>
(gR h a7 8 0).bind fun a8 =>
(gR h a8 6 4).bind fun a9 =>
(aI h a9 vp1).bind fun v10 =>
some (v6 + v10))
set_option maxRecDepth 100000 in
set_option maxHeartbeats 4000000 in
theorem c_X9_room (l : Launch) (G : GG) (B : Nat) (h : Hp) (a0 : Nat) (vp1 : Int32) (r0 : Int32) (hF : F_X9_room h a0 vp1 = some r0) : CI l yX9_room cX9_room 2 .int 2 63 0 0 G B h [.ref (B + a0), .int vp1] r0 h := by
  refine ent_i rfl (Nat.le_of_ble_eq_true rfl) ?_
  intro p e s m args below meth c ls Q CX hnm hret P hl
  have CX : Cxt p m c cX9_room 2 s args RX9 G B := CX
  obtain ⟨⟨hx, hb, hml, hown, hts⟩, -, -⟩ := id CX
  replace hl : lv_has ls 2 [(0, .ref (B + a0)), (1, .int vp1)] := hl
  generalize s.heap = H at P ⊢
  generalize ([] : List Loc) = locs at P ⊢
  unfold F_X9_room at hF
  refine lv_aload_n (pc := 0) hx hb dX9_room_0 rfl (lv_at hl 0 rfl) ?_
  refine r_gR (pc := 1) CX P hF fl_X9_10 dX9_room_1 (fun a1 hF => ?_)
  refine r_gR (pc := 4) CX P hF fl_X9_53 dX9_room_4 (fun a2 hF => ?_)
  refine lv_iload_n (pc := 7) hx hb dX9_room_7 rfl (lv_at hl 1 rfl) ?_
  refine r_cVp (pc := 8) (As := [.int vp1]) (rest := []) CX P hl.1 hF kv_X9_57 (fun r q => c_X6_has l G B _ _ _ _ q) rfl rfl ⟨Nat.le_of_ble_eq_true rfl, Nat.le_of_ble_eq_true rfl⟩ (Nat.le_of_ble_eq_true rfl) ⟨Nat.le_of_ble_eq_true rfl, Nat.le_of_ble_eq_true rfl⟩ dX9_room_8 (fun v3 H locs P hF => ?_)
  refine lv_if_eq (pc := 11) (tgt := 41) hx hb dX9_room_11 (by decide) (fun hc => ?_) (fun hc => ?_)
  · rw [if_pos hc] at hF
    refine lv_bipush (pc := 41) (v := (-2)) hx hb dX9_room_41 (by decide) ?_
    cases hF
    exact hret _ _ _ _ P rfl dX9_room_43
  · rw [if_neg hc] at hF
    refine lv_aload_n (pc := 14) hx hb dX9_room_14 rfl (lv_at hl 0 rfl) ?_
    refine r_gR (pc := 15) CX P hF fl_X9_10 dX9_room_15 (fun a4 hF => ?_)
    refine r_gR (pc := 18) CX P hF fl_X9_53 dX9_room_18 (fun a5 hF => ?_)
    refine lv_iload_n (pc := 21) hx hb dX9_room_21 rfl (lv_at hl 1 rfl) ?_
    refine r_cVp (pc := 22) (As := [.int vp1]) (rest := []) CX P hl.1 hF kv_X9_311 (fun r q => c_X6_leastLeft l G B _ _ _ _ q) rfl rfl ⟨Nat.le_of_ble_eq_true rfl, Nat.le_of_ble_eq_true rfl⟩ (Nat.le_of_ble_eq_true rfl) ⟨Nat.le_of_ble_eq_true rfl, Nat.le_of_ble_eq_true rfl⟩ dX9_room_22 (fun v6 H locs P hF => ?_)
    refine lv_aload_n (pc := 25) hx hb dX9_room_25 rfl (lv_at hl 0 rfl) ?_
    refine r_gR (pc := 26) CX P hF fl_X9_10 dX9_room_26 (fun a7 hF => ?_)
    refine r_gR (pc := 29) CX P hF fl_X9_53 dX9_room_29 (fun a8 hF => ?_)
    refine r_gR (pc := 32) CX P hF fl_X9_236 dX9_room_32 (fun a9 hF => ?_)
    refine lv_iload_n (pc := 35) hx hb dX9_room_35 rfl (lv_at hl 1 rfl) ?_
    refine r_aI (pc := 36) CX P hF dX9_room_36 (fun v10 hF => ?_)
    refine lv_iadd (pc := 37) hx hb dX9_room_37 ?_
    refine lv_goto (pc := 38) (tgt := 43) hx hb dX9_room_38 (by decide) ?_
    cases hF
    exact hret _ _ _ _ P rfl dX9_room_43
def F_X9_deaths (h : Hp) (a0 : Nat) (vp1 : Int32) (vp2 : Int32) : Option (Int32 × Hp) :=
(gR h a0 9 0).bind fun a1 =>
(gR h a1 8 0).bind fun a2 =>
(cO h a2 6 (F_X6_has h a2 vp1)).bind fun v3 =>
if v3 = 0 then (
some ((-2), h)) else (
(sX 1 3).bind fun v4 =>
(sX 2 3).bind fun v5 =>
(F_X9_outside h vp2 v4 v5).bind fun v6 =>
if v6 = 0 then (
(gR h a0 9 1).bind fun a7 =>
(gR h a0 9 0).bind fun a8 =>
(cO h a7 8 (F_X8_copyFrom h a7 a8)).bind fun h9 =>
(gR h9 a0 9 5).bind fun a10 =>
(gR h9 a0 9 1).bind fun a11 =>
(cO h9 a10 3 (F_X3_setLimit h9 a10 a11 vp1 3 vp2)).bind (un fun v12 h13 =>
if v12 = (-4) then (
some (0, h13)) else (
(gR h13 a0 9 0).bind fun a14 =>
(cO h13 a14 8 (F_X8_bitsOfProcesses h13 a14 0)).bind fun v15 =>
(gR h13 a0 9 1).bind fun a16 =>
(cO h13 a16 8 (F_X8_bitsOfProcesses h13 a16 0)).bind fun v17 =>
some ((v15 &&& (v17 ^^^ (-1))), h13)))) else (
some ((-3), h)))
set_option maxRecDepth 100000 in
set_option maxHeartbeats 4000000 in
theorem c_X9_deaths (l : Launch) (G : GG) (B : Nat) (h : Hp) (a0 : Nat) (vp1 : Int32) (vp2 : Int32) (r0 : Int32) (hr : Hp) (hF : F_X9_deaths h a0 vp1 vp2 = some (r0, hr)) : CI l yX9_deaths cX9_deaths 3 .int 6 154 0 0 G B h [.ref (B + a0), .int vp1, .int vp2] r0 hr := by
  refine ent_i rfl (Nat.le_of_ble_eq_true rfl) ?_
  intro p e s m args below meth c ls Q CX hnm hret P hl
  have CX : Cxt p m c cX9_deaths 3 s args RX9 G B := CX
  obtain ⟨⟨hx, hb, hml, hown, hts⟩, -, -⟩ := id CX
  replace hl : lv_has ls 3 [(0, .ref (B + a0)), (1, .int vp1), (2, .int vp2)] := hl
  generalize s.heap = H at P ⊢
  generalize ([] : List Loc) = locs at P ⊢
  unfold F_X9_deaths at hF
  refine lv_aload_n (pc := 0) hx hb dX9_deaths_0 rfl (lv_at hl 0 rfl) ?_
  refine r_gR (pc := 1) CX P hF fl_X9_10 dX9_deaths_1 (fun a1 hF => ?_)
  refine r_gR (pc := 4) CX P hF fl_X9_53 dX9_deaths_4 (fun a2 hF => ?_)
  refine lv_iload_n (pc := 7) hx hb dX9_deaths_7 rfl (lv_at hl 1 rfl) ?_
  refine r_cVp (pc := 8) (As := [.int vp1]) (rest := []) CX P hl.1 hF kv_X9_57 (fun r q => c_X6_has l G B _ _ _ _ q) rfl rfl ⟨Nat.le_of_ble_eq_true rfl, Nat.le_of_ble_eq_true rfl⟩ (Nat.le_of_ble_eq_true rfl) ⟨Nat.le_of_ble_eq_true rfl, Nat.le_of_ble_eq_true rfl⟩ dX9_deaths_8 (fun v3 H locs P hF => ?_)
  refine lv_if_ne (pc := 11) (tgt := 17) hx hb dX9_deaths_11 (by decide) (fun hc => ?_) (fun hc => ?_)
  · rw [if_neg hc] at hF
    refine lv_iload_n (pc := 17) hx hb dX9_deaths_17 rfl (lv_at hl 2 rfl) ?_
    refine r_gs (pc := 18) CX P (k := 1) (by decide) (Or.inl tw_440) dX9_deaths_18 ?_
    refine lv_iconst (pc := 21) (v := 3) hx hb dX9_deaths_21 (by decide) ?_
    refine r_sX (pc := 22) CX P (by decide) hF dX9_deaths_22 (fun v4 hF => ?_)
    refine r_gs (pc := 23) CX P (k := 2) (by decide) (Or.inl tw_442) dX9_deaths_23 ?_
    refine lv_iconst (pc := 26) (v := 3) hx hb dX9_deaths_26 (by decide) ?_
    refine r_sX (pc := 27) CX P (by decide) hF dX9_deaths_27 (fun v5 hF => ?_)
    refine r_cSp (pc := 28) (As := [.int vp2, .int v4, .int v5]) (rest := []) CX P hl.1 hF ks_X9_111 (fun r q => c_X9_outside l G B _ _ _ _ _ q) rfl rfl ⟨Nat.le_of_ble_eq_true rfl, Nat.le_of_ble_eq_true rfl⟩ (Nat.le_of_ble_eq_true rfl) ⟨Nat.le_of_ble_eq_true rfl, Nat.le_of_ble_eq_true rfl⟩ dX9_deaths_28 (fun v6 H locs P hF => ?_)
    refine lv_if_eq (pc := 31) (tgt := 37) hx hb dX9_deaths_31 (by decide) (fun hc => ?_) (fun hc => ?_)
    · rw [if_pos hc] at hF
      refine lv_aload_n (pc := 37) hx hb dX9_deaths_37 rfl (lv_at hl 0 rfl) ?_
      refine r_gR (pc := 38) CX P hF fl_X9_16 dX9_deaths_38 (fun a7 hF => ?_)
      refine lv_aload_n (pc := 41) hx hb dX9_deaths_41 rfl (lv_at hl 0 rfl) ?_
      refine r_gR (pc := 42) CX P hF fl_X9_10 dX9_deaths_42 (fun a8 hF => ?_)
      refine r_cVv (pc := 45) (As := [.ref (B + a8)]) (rest := []) CX P hl.1 hF kv_X9_314 (fun h1 q => c_X8_copyFrom l G B _ _ _ _ q) rfl rfl ⟨Nat.le_of_ble_eq_true rfl, Nat.le_of_ble_eq_true rfl⟩ (Nat.le_of_ble_eq_true rfl) ⟨Nat.le_of_ble_eq_true rfl, Nat.le_of_ble_eq_true rfl⟩ dX9_deaths_45 (fun h9 H locs P hF => ?_)
      refine lv_aload_n (pc := 48) hx hb dX9_deaths_48 rfl (lv_at hl 0 rfl) ?_
      refine r_gR (pc := 49) CX P hF fl_X9_42 dX9_deaths_49 (fun a10 hF => ?_)
      refine lv_aload_n (pc := 52) hx hb dX9_deaths_52 rfl (lv_at hl 0 rfl) ?_
      refine r_gR (pc := 53) CX P hF fl_X9_16 dX9_deaths_53 (fun a11 hF => ?_)
      refine lv_iload_n (pc := 56) hx hb dX9_deaths_56 rfl (lv_at hl 1 rfl) ?_
      refine lv_iconst (pc := 57) (v := 3) hx hb dX9_deaths_57 (by decide) ?_
      refine lv_iload_n (pc := 58) hx hb dX9_deaths_58 rfl (lv_at hl 2 rfl) ?_
      refine r_cVi (pc := 59) (As := [.ref (B + a11), .int vp1, .int 3, .int vp2]) (rest := []) CX P hl.1 hF kv_X9_121 (fun r h1 q => c_X3_setLimit l G B _ _ _ _ _ _ _ _ q) rfl rfl ⟨Nat.le_of_ble_eq_true rfl, Nat.le_of_ble_eq_true rfl⟩ (Nat.le_of_ble_eq_true rfl) ⟨Nat.le_of_ble_eq_true rfl, Nat.le_of_ble_eq_true rfl⟩ dX9_deaths_59 (fun v12 h13 H locs P hF => ?_)
      replace hF := un_i hF
      refine lv_bipush (pc := 62) (v := (-4)) hx hb dX9_deaths_62 (by decide) ?_
      refine lv_icmp_ne (pc := 64) (tgt := 69) hx hb dX9_deaths_64 (by decide) (fun hc => ?_) (fun hc => ?_)
      · rw [if_neg hc] at hF
        refine lv_aload_n (pc := 69) hx hb dX9_deaths_69 rfl (lv_at hl 0 rfl) ?_
        refine r_gR (pc := 70) CX P hF fl_X9_10 dX9_deaths_70 (fun a14 hF => ?_)
        refine lv_iconst (pc := 73) (v := 0) hx hb dX9_deaths_73 (by decide) ?_
        refine r_cVp (pc := 74) (As := [.int 0]) (rest := []) CX P hl.1 hF kv_X9_92 (fun r q => c_X8_bitsOfProcesses l G B _ _ _ _ q) rfl rfl ⟨Nat.le_of_ble_eq_true rfl, Nat.le_of_ble_eq_true rfl⟩ (Nat.le_of_ble_eq_true rfl) ⟨Nat.le_of_ble_eq_true rfl, Nat.le_of_ble_eq_true rfl⟩ dX9_deaths_74 (fun v15 H locs P hF => ?_)
        refine lv_aload_n (pc := 77) hx hb dX9_deaths_77 rfl (lv_at hl 0 rfl) ?_
        refine r_gR (pc := 78) CX P hF fl_X9_16 dX9_deaths_78 (fun a16 hF => ?_)
        refine lv_iconst (pc := 81) (v := 0) hx hb dX9_deaths_81 (by decide) ?_
        refine r_cVp (pc := 82) (As := [.int 0]) (rest := [.int v15]) CX P hl.1 hF kv_X9_92 (fun r q => c_X8_bitsOfProcesses l G B _ _ _ _ q) rfl rfl ⟨Nat.le_of_ble_eq_true rfl, Nat.le_of_ble_eq_true rfl⟩ (Nat.le_of_ble_eq_true rfl) ⟨Nat.le_of_ble_eq_true rfl, Nat.le_of_ble_eq_true rfl⟩ dX9_deaths_82 (fun v17 H locs P hF => ?_)
        refine lv_iconst (pc := 85) (v := (-1)) hx hb dX9_deaths_85 (by decide) ?_
        refine lv_ixor (pc := 86) hx hb dX9_deaths_86 ?_
        refine lv_iand (pc := 87) hx hb dX9_deaths_87 ?_
        cases hF
        exact hret _ _ _ _ P rfl dX9_deaths_88
      · rw [if_pos hc] at hF
        refine lv_iconst (pc := 67) (v := 0) hx hb dX9_deaths_67 (by decide) ?_
        cases hF
        exact hret _ _ _ _ P rfl dX9_deaths_68
    · rw [if_neg hc] at hF
      refine lv_bipush (pc := 34) (v := (-3)) hx hb dX9_deaths_34 (by decide) ?_
      cases hF
      exact hret _ _ _ _ P rfl dX9_deaths_36
  · rw [if_pos hc] at hF
    refine lv_bipush (pc := 14) (v := (-2)) hx hb dX9_deaths_14 (by decide) ?_
    cases hF
    exact hret _ _ _ _ P rfl dX9_deaths_16
