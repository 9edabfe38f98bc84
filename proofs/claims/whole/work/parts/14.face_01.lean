def F_X9_use (h : Hp) (a0 : Nat) (vp1 : Int32) (vp2 : Int32) : Option (Int32 × Hp) :=
(gR h a0 9 0).bind fun a1 =>
(gR h a1 8 1).bind fun a2 =>
(cO h a2 0 (F_X0_has h a2 vp1)).bind fun v3 =>
if v3 = 0 then (
some ((-2), h)) else (
(F_X9_outside h vp2 1 99).bind fun v4 =>
if v4 = 0 then (
(gR h a0 9 0).bind fun a5 =>
(gR h a5 8 1).bind fun a6 =>
(gR h a6 0 3).bind fun a7 =>
(aI h a7 vp1).bind fun v8 =>
if vp2 ≤ v8 then (
(gR h a0 9 2).bind fun a9 =>
(gR h a0 9 0).bind fun a10 =>
(cO h a9 4 (F_X4_keep h a9 a10)).bind fun h11 =>
(gR h11 a0 9 5).bind fun a12 =>
(gR h11 a0 9 0).bind fun a13 =>
(gR h11 a0 9 5).bind fun a14 =>
(gR h11 a0 9 0).bind fun a15 =>
(cO h11 a14 3 (F_X3_admit h11 a14 a15 vp1 0 vp2)).bind (un fun v16 h17 =>
(cO h17 a12 3 (F_X3_pressToHigh h17 a12 a13 vp1 v16)).bind (un fun v18 h19 =>
(F_X9_outlives h19 v18).bind fun v20 =>
(if v20 = 0 then (
some h19) else (
(gR h19 a0 9 0).bind fun a22 =>
(cO h19 a22 8 (F_X8_swapOut h19 a22 vp1 (-vp2))).bind fun h23 =>
(gR h23 a0 9 0).bind fun a24 =>
(gR h23 a24 8 1).bind fun a25 =>
(F_X9_stallFor h23 vp2).bind fun v26 =>
(cO h23 a25 0 (F_X0_addStall h23 a25 vp1 v26)).bind fun h27 =>
some h27)).bind fun h28 =>
(cO h28 a0 9 (F_X9_settle h28 a0 v18)).bind (un fun v29 h30 =>
some (v29, h30))))) else (
some ((-3), h))) else (
some ((-3), h)))
set_option maxRecDepth 100000 in
set_option maxHeartbeats 4000000 in
theorem c_X9_use (l : Launch) (G : GG) (B : Nat) (h : Hp) (a0 : Nat) (vp1 : Int32) (vp2 : Int32) (r0 : Int32) (hr : Hp) (hF : F_X9_use h a0 vp1 vp2 = some (r0, hr)) : CI l yX9_use cX9_use 4 .int 7 206 0 0 G B h [.ref (B + a0), .int vp1, .int vp2] r0 hr := by
  refine ent_i rfl (Nat.le_of_ble_eq_true rfl) ?_
  intro p e s m args below meth c ls Q CX hnm hret P hl
  have CX : Cxt p m c cX9_use 4 s args RX9 G B := CX
  obtain ⟨⟨hx, hb, hml, hown, hts⟩, -, -⟩ := id CX
  replace hl : lv_has ls 4 [(0, .ref (B + a0)), (1, .int vp1), (2, .int vp2)] := hl
  generalize s.heap = H at P ⊢
  generalize ([] : List Loc) = locs at P ⊢
  unfold F_X9_use at hF
  refine lv_aload_n (pc := 0) hx hb dX9_use_0 rfl (lv_at hl 0 rfl) ?_
  refine r_gR (pc := 1) CX P hF fl_X9_10 dX9_use_1 (fun a1 hF => ?_)
  refine r_gR (pc := 4) CX P hF fl_X9_129 dX9_use_4 (fun a2 hF => ?_)
  refine lv_iload_n (pc := 7) hx hb dX9_use_7 rfl (lv_at hl 1 rfl) ?_
  refine r_cVp (pc := 8) (As := [.int vp1]) (rest := []) CX P hl.1 hF kv_X9_133 (fun r q => c_X0_has l G B _ _ _ _ q) rfl rfl ⟨Nat.le_of_ble_eq_true rfl, Nat.le_of_ble_eq_true rfl⟩ (Nat.le_of_ble_eq_true rfl) ⟨Nat.le_of_ble_eq_true rfl, Nat.le_of_ble_eq_true rfl⟩ dX9_use_8 (fun v3 H locs P hF => ?_)
  refine lv_if_ne (pc := 11) (tgt := 17) hx hb dX9_use_11 (by decide) (fun hc => ?_) (fun hc => ?_)
  · rw [if_neg hc] at hF
    refine lv_iload_n (pc := 17) hx hb dX9_use_17 rfl (lv_at hl 2 rfl) ?_
    refine lv_iconst (pc := 18) (v := 1) hx hb dX9_use_18 (by decide) ?_
    refine lv_bipush (pc := 19) (v := 99) hx hb dX9_use_19 (by decide) ?_
    refine r_cSp (pc := 21) (As := [.int vp2, .int 1, .int 99]) (rest := []) CX P hl.1 hF ks_X9_111 (fun r q => c_X9_outside l G B _ _ _ _ _ q) rfl rfl ⟨Nat.le_of_ble_eq_true rfl, Nat.le_of_ble_eq_true rfl⟩ (Nat.le_of_ble_eq_true rfl) ⟨Nat.le_of_ble_eq_true rfl, Nat.le_of_ble_eq_true rfl⟩ dX9_use_21 (fun v4 H locs P hF => ?_)
    refine lv_if_ne (pc := 24) (tgt := 43) hx hb dX9_use_24 (by decide) (fun hc => ?_) (fun hc => ?_)
    · rw [if_neg hc] at hF
      refine lv_bipush (pc := 43) (v := (-3)) hx hb dX9_use_43 (by decide) ?_
      cases hF
      exact hret _ _ _ _ P rfl dX9_use_45
    · rw [if_pos hc] at hF
      refine lv_iload_n (pc := 27) hx hb dX9_use_27 rfl (lv_at hl 2 rfl) ?_
      refine lv_aload_n (pc := 28) hx hb dX9_use_28 rfl (lv_at hl 0 rfl) ?_
      refine r_gR (pc := 29) CX P hF fl_X9_10 dX9_use_29 (fun a5 hF => ?_)
      refine r_gR (pc := 32) CX P hF fl_X9_129 dX9_use_32 (fun a6 hF => ?_)
      refine r_gR (pc := 35) CX P hF fl_X9_161 dX9_use_35 (fun a7 hF => ?_)
      refine lv_iload_n (pc := 38) hx hb dX9_use_38 rfl (lv_at hl 1 rfl) ?_
      refine r_aI (pc := 39) CX P hF dX9_use_39 (fun v8 hF => ?_)
      refine lv_icmp_le (pc := 40) (tgt := 46) hx hb dX9_use_40 (by decide) (fun hc => ?_) (fun hc => ?_)
      · rw [if_pos hc] at hF
        refine lv_aload_n (pc := 46) hx hb dX9_use_46 rfl (lv_at hl 0 rfl) ?_
        refine r_gR (pc := 47) CX P hF fl_X9_22 dX9_use_47 (fun a9 hF => ?_)
        refine lv_aload_n (pc := 50) hx hb dX9_use_50 rfl (lv_at hl 0 rfl) ?_
        refine r_gR (pc := 51) CX P hF fl_X9_10 dX9_use_51 (fun a10 hF => ?_)
        refine r_cVv (pc := 54) (As := [.ref (B + a10)]) (rest := []) CX P hl.1 hF kv_X9_67 (fun h1 q => c_X4_keep l G B _ _ _ _ q) rfl rfl ⟨Nat.le_of_ble_eq_true rfl, Nat.le_of_ble_eq_true rfl⟩ (Nat.le_of_ble_eq_true rfl) ⟨Nat.le_of_ble_eq_true rfl, Nat.le_of_ble_eq_true rfl⟩ dX9_use_54 (fun h11 H locs P hF => ?_)
        refine lv_aload_n (pc := 57) hx hb dX9_use_57 rfl (lv_at hl 0 rfl) ?_
        refine r_gR (pc := 58) CX P hF fl_X9_42 dX9_use_58 (fun a12 hF => ?_)
        refine lv_aload_n (pc := 61) hx hb dX9_use_61 rfl (lv_at hl 0 rfl) ?_
        refine r_gR (pc := 62) CX P hF fl_X9_10 dX9_use_62 (fun a13 hF => ?_)
        refine lv_iload_n (pc := 65) hx hb dX9_use_65 rfl (lv_at hl 1 rfl) ?_
        refine lv_aload_n (pc := 66) hx hb dX9_use_66 rfl (lv_at hl 0 rfl) ?_
        refine r_gR (pc := 67) CX P hF fl_X9_42 dX9_use_67 (fun a14 hF => ?_)
        refine lv_aload_n (pc := 70) hx hb dX9_use_70 rfl (lv_at hl 0 rfl) ?_
        refine r_gR (pc := 71) CX P hF fl_X9_10 dX9_use_71 (fun a15 hF => ?_)
        refine lv_iload_n (pc := 74) hx hb dX9_use_74 rfl (lv_at hl 1 rfl) ?_
        refine lv_iconst (pc := 75) (v := 0) hx hb dX9_use_75 (by decide) ?_
        refine lv_iload_n (pc := 76) hx hb dX9_use_76 rfl (lv_at hl 2 rfl) ?_
        refine r_cVi (pc := 77) (As := [.ref (B + a15), .int vp1, .int 0, .int vp2]) (rest := [.int vp1, .ref (B + a13), .ref (B + a12)]) CX P hl.1 hF kv_X9_146 (fun r h1 q => c_X3_admit l G B _ _ _ _ _ _ _ _ q) rfl rfl ⟨Nat.le_of_ble_eq_true rfl, Nat.le_of_ble_eq_true rfl⟩ (Nat.le_of_ble_eq_true rfl) ⟨Nat.le_of_ble_eq_true rfl, Nat.le_of_ble_eq_true rfl⟩ dX9_use_77 (fun v16 h17 H locs P hF => ?_)
        replace hF := un_i hF
        refine r_cVi (pc := 80) (As := [.ref (B + a13), .int vp1, .int v16]) (rest := []) CX P hl.1 hF kv_X9_149 (fun r h1 q => c_X3_pressToHigh l G B _ _ _ _ _ _ _ q) rfl rfl ⟨Nat.le_of_ble_eq_true rfl, Nat.le_of_ble_eq_true rfl⟩ (Nat.le_of_ble_eq_true rfl) ⟨Nat.le_of_ble_eq_true rfl, Nat.le_of_ble_eq_true rfl⟩ dX9_use_80 (fun v18 h19 H locs P hF => ?_)
        replace hF := un_i hF
        refine lv_istore_n (pc := 83) hx hb dX9_use_83 rfl hl (by decide) rfl (fun ls hl => ?_)
        replace hl : lv_has ls 4 [(3, .int v18), (0, .ref (B + a0)), (1, .int vp1), (2, .int vp2)] := hl
        refine lv_iload_n (pc := 84) hx hb dX9_use_84 rfl (lv_at hl 0 rfl) ?_
        refine r_cSp (pc := 85) (As := [.int v18]) (rest := []) CX P hl.1 hF ks_X9_164 (fun r q => c_X9_outlives l G B _ _ _ q) rfl rfl ⟨Nat.le_of_ble_eq_true rfl, Nat.le_of_ble_eq_true rfl⟩ (Nat.le_of_ble_eq_true rfl) ⟨Nat.le_of_ble_eq_true rfl, Nat.le_of_ble_eq_true rfl⟩ dX9_use_85 (fun v20 H locs P hF => ?_)
        obtain ⟨j21, hA21, hK21⟩ := bd_some hF
        have hJ21 : ∀ (h28 : Hp) (H : Heap) (locs : List Loc) (ls : Array Slot), Pic G B h28 s H locs → lv_has ls 4 [(0, .ref (B + a0)), (3, .int v18)] → h28 = j21 → W p l e (rmM 7 206 0 0) s m args below meth c H locs 0 0 Q (F0 m 116 ls []) := by
          intro h28 H locs ls P hl ej
          subst ej
          have hF := hK21
          refine lv_aload_n (pc := 116) hx hb dX9_use_116 rfl (lv_at hl 0 rfl) ?_
          refine lv_iload_n (pc := 117) hx hb dX9_use_117 rfl (lv_at hl 1 rfl) ?_
          refine r_cVi (pc := 118) (As := [.int v18]) (rest := []) CX P hl.1 hF kv_X9_85 (fun r h1 q => c_X9_settle l G B _ _ _ _ _ q) rfl rfl ⟨Nat.le_of_ble_eq_true rfl, Nat.le_of_ble_eq_true rfl⟩ (Nat.le_of_ble_eq_true rfl) ⟨Nat.le_of_ble_eq_true rfl, Nat.le_of_ble_eq_true rfl⟩ dX9_use_118 (fun v29 h30 H locs P hF => ?_)
          replace hF := un_i hF
          cases hF
          exact hret _ _ _ _ P rfl dX9_use_121
        replace hF := hA21
        refine lv_if_eq (pc := 88) (tgt := 116) hx hb dX9_use_88 (by decide) (fun hc => ?_) (fun hc => ?_)
        · rw [if_pos hc] at hF
          exact hJ21 _ _ _ _ P (lv_sub hl [1, 0] rfl) (Option.some.inj hF)
        · rw [if_neg hc] at hF
          refine lv_aload_n (pc := 91) hx hb dX9_use_91 rfl (lv_at hl 1 rfl) ?_
          refine r_gR (pc := 92) CX P hF fl_X9_10 dX9_use_92 (fun a22 hF => ?_)
          refine lv_iload_n (pc := 95) hx hb dX9_use_95 rfl (lv_at hl 2 rfl) ?_
          refine lv_iload_n (pc := 96) hx hb dX9_use_96 rfl (lv_at hl 3 rfl) ?_
          refine lv_ineg (pc := 97) hx hb dX9_use_97 ?_
          refine r_cVv (pc := 98) (As := [.int vp1, .int (-vp2)]) (rest := []) CX P hl.1 hF kv_X9_167 (fun h1 q => c_X8_swapOut l G B _ _ _ _ _ q) rfl rfl ⟨Nat.le_of_ble_eq_true rfl, Nat.le_of_ble_eq_true rfl⟩ (Nat.le_of_ble_eq_true rfl) ⟨Nat.le_of_ble_eq_true rfl, Nat.le_of_ble_eq_true rfl⟩ dX9_use_98 (fun h23 H locs P hF => ?_)
          refine lv_aload_n (pc := 101) hx hb dX9_use_101 rfl (lv_at hl 1 rfl) ?_
          refine r_gR (pc := 102) CX P hF fl_X9_10 dX9_use_102 (fun a24 hF => ?_)
          refine r_gR (pc := 105) CX P hF fl_X9_129 dX9_use_105 (fun a25 hF => ?_)
          refine lv_iload_n (pc := 108) hx hb dX9_use_108 rfl (lv_at hl 2 rfl) ?_
          refine lv_iload_n (pc := 109) hx hb dX9_use_109 rfl (lv_at hl 3 rfl) ?_
          refine r_cSp (pc := 110) (As := [.int vp2]) (rest := [.int vp1, .ref (B + a25)]) CX P hl.1 hF ks_X9_170 (fun r q => c_X9_stallFor l G B _ _ _ q) rfl rfl ⟨Nat.le_of_ble_eq_true rfl, Nat.le_of_ble_eq_true rfl⟩ (Nat.le_of_ble_eq_true rfl) ⟨Nat.le_of_ble_eq_true rfl, Nat.le_of_ble_eq_true rfl⟩ dX9_use_110 (fun v26 H locs P hF => ?_)
          refine r_cVv (pc := 113) (As := [.int vp1, .int v26]) (rest := []) CX P hl.1 hF kv_X9_173 (fun h1 q => c_X0_addStall l G B _ _ _ _ _ q) rfl rfl ⟨Nat.le_of_ble_eq_true rfl, Nat.le_of_ble_eq_true rfl⟩ (Nat.le_of_ble_eq_true rfl) ⟨Nat.le_of_ble_eq_true rfl, Nat.le_of_ble_eq_true rfl⟩ dX9_use_113 (fun h27 H locs P hF => ?_)
          exact hJ21 _ _ _ _ P (lv_sub hl [1, 0] rfl) (Option.some.inj hF)
      · rw [if_neg hc] at hF
        refine lv_bipush (pc := 43) (v := (-3)) hx hb dX9_use_43 (by decide) ?_
        cases hF
        exact hret _ _ _ _ P rfl dX9_use_45
  · rw [if_pos hc] at hF
    refine lv_bipush (pc := 14) (v := (-2)) hx hb dX9_use_14 (by decide) ?_
    cases hF
    exact hret _ _ _ _ P rfl dX9_use_16
def F_X9_work (h : Hp) (a0 : Nat) (vp1 : Int32) (vp2 : Int32) : Option (Int32 × Hp) :=
(gR h a0 9 0).bind fun a1 =>
(gR h a1 8 1).bind fun a2 =>
(cO h a2 0 (F_X0_has h a2 vp1)).bind fun v3 =>
if v3 = 0 then (
some ((-2), h)) else (
(F_X9_outside h vp2 1 999).bind fun v4 =>
if v4 = 0 then (
(gR h a0 9 2).bind fun a5 =>
(gR h a0 9 0).bind fun a6 =>
(cO h a5 4 (F_X4_keep h a5 a6)).bind fun h7 =>
(gR h7 a0 9 0).bind fun a8 =>
(gR h7 a8 8 1).bind fun a9 =>
(gR h7 a9 0 5).bind fun a10 =>
(gR h7 a0 9 0).bind fun a11 =>
(gR h7 a11 8 1).bind fun a12 =>
(gR h7 a12 0 5).bind fun a13 =>
(aI h7 a13 vp1).bind fun v14 =>
(sI h7 a10 vp1 (mnI 999 (v14 + vp2))).bind fun h15 =>
(gR h15 a0 9 0).bind fun a16 =>
(gR h15 a16 8 1).bind fun a17 =>
(gR h15 a17 0 5).bind fun a18 =>
(aI h15 a18 vp1).bind fun v19 =>
(cO h15 a0 9 (F_X9_settle h15 a0 v19)).bind (un fun v20 h21 =>
some (v20, h21))) else (
some ((-3), h)))
set_option maxRecDepth 100000 in
set_option maxHeartbeats 4000000 in
theorem c_X9_work (l : Launch) (G : GG) (B : Nat) (h : Hp) (a0 : Nat) (vp1 : Int32) (vp2 : Int32) (r0 : Int32) (hr : Hp) (hF : F_X9_work h a0 vp1 vp2 = some (r0, hr)) : CI l yX9_work cX9_work 3 .int 5 184 0 0 G B h [.ref (B + a0), .int vp1, .int vp2] r0 hr := by
  refine ent_i rfl (Nat.le_of_ble_eq_true rfl) ?_
  intro p e s m args below meth c ls Q CX hnm hret P hl
  have CX : Cxt p m c cX9_work 3 s args RX9 G B := CX
  obtain ⟨⟨hx, hb, hml, hown, hts⟩, -, -⟩ := id CX
  replace hl : lv_has ls 3 [(0, .ref (B + a0)), (1, .int vp1), (2, .int vp2)] := hl
  generalize s.heap = H at P ⊢
  generalize ([] : List Loc) = locs at P ⊢
  unfold F_X9_work at hF
  refine lv_aload_n (pc := 0) hx hb dX9_work_0 rfl (lv_at hl 0 rfl) ?_
  refine r_gR (pc := 1) CX P hF fl_X9_10 dX9_work_1 (fun a1 hF => ?_)
  refine r_gR (pc := 4) CX P hF fl_X9_129 dX9_work_4 (fun a2 hF => ?_)
  refine lv_iload_n (pc := 7) hx hb dX9_work_7 rfl (lv_at hl 1 rfl) ?_
  refine r_cVp (pc := 8) (As := [.int vp1]) (rest := []) CX P hl.1 hF kv_X9_133 (fun r q => c_X0_has l G B _ _ _ _ q) rfl rfl ⟨Nat.le_of_ble_eq_true rfl, Nat.le_of_ble_eq_true rfl⟩ (Nat.le_of_ble_eq_true rfl) ⟨Nat.le_of_ble_eq_true rfl, Nat.le_of_ble_eq_true rfl⟩ dX9_work_8 (fun v3 H locs P hF => ?_)
  refine lv_if_ne (pc := 11) (tgt := 17) hx hb dX9_work_11 (by decide) (fun hc => ?_) (fun hc => ?_)
  · rw [if_neg hc] at hF
    refine lv_iload_n (pc := 17) hx hb dX9_work_17 rfl (lv_at hl 2 rfl) ?_
    refine lv_iconst (pc := 18) (v := 1) hx hb dX9_work_18 (by decide) ?_
    refine lv_sipush (pc := 19) (v := 999) hx hb dX9_work_19 (by decide) ?_
    refine r_cSp (pc := 22) (As := [.int vp2, .int 1, .int 999]) (rest := []) CX P hl.1 hF ks_X9_111 (fun r q => c_X9_outside l G B _ _ _ _ _ q) rfl rfl ⟨Nat.le_of_ble_eq_true rfl, Nat.le_of_ble_eq_true rfl⟩ (Nat.le_of_ble_eq_true rfl) ⟨Nat.le_of_ble_eq_true rfl, Nat.le_of_ble_eq_true rfl⟩ dX9_work_22 (fun v4 H locs P hF => ?_)
    refine lv_if_eq (pc := 25) (tgt := 31) hx hb dX9_work_25 (by decide) (fun hc => ?_) (fun hc => ?_)
    · rw [if_pos hc] at hF
      refine lv_aload_n (pc := 31) hx hb dX9_work_31 rfl (lv_at hl 0 rfl) ?_
      refine r_gR (pc := 32) CX P hF fl_X9_22 dX9_work_32 (fun a5 hF => ?_)
      refine lv_aload_n (pc := 35) hx hb dX9_work_35 rfl (lv_at hl 0 rfl) ?_
      refine r_gR (pc := 36) CX P hF fl_X9_10 dX9_work_36 (fun a6 hF => ?_)
      refine r_cVv (pc := 39) (As := [.ref (B + a6)]) (rest := []) CX P hl.1 hF kv_X9_67 (fun h1 q => c_X4_keep l G B _ _ _ _ q) rfl rfl ⟨Nat.le_of_ble_eq_true rfl, Nat.le_of_ble_eq_true rfl⟩ (Nat.le_of_ble_eq_true rfl) ⟨Nat.le_of_ble_eq_true rfl, Nat.le_of_ble_eq_true rfl⟩ dX9_work_39 (fun h7 H locs P hF => ?_)
      refine lv_aload_n (pc := 42) hx hb dX9_work_42 rfl (lv_at hl 0 rfl) ?_
      refine r_gR (pc := 43) CX P hF fl_X9_10 dX9_work_43 (fun a8 hF => ?_)
      refine r_gR (pc := 46) CX P hF fl_X9_129 dX9_work_46 (fun a9 hF => ?_)
      refine r_gR (pc := 49) CX P hF fl_X9_176 dX9_work_49 (fun a10 hF => ?_)
      refine lv_iload_n (pc := 52) hx hb dX9_work_52 rfl (lv_at hl 1 rfl) ?_
      refine lv_sipush (pc := 53) (v := 999) hx hb dX9_work_53 (by decide) ?_
      refine lv_aload_n (pc := 56) hx hb dX9_work_56 rfl (lv_at hl 0 rfl) ?_
      refine r_gR (pc := 57) CX P hF fl_X9_10 dX9_work_57 (fun a11 hF => ?_)
      refine r_gR (pc := 60) CX P hF fl_X9_129 dX9_work_60 (fun a12 hF => ?_)
      refine r_gR (pc := 63) CX P hF fl_X9_176 dX9_work_63 (fun a13 hF => ?_)
      refine lv_iload_n (pc := 66) hx hb dX9_work_66 rfl (lv_at hl 1 rfl) ?_
      refine r_aI (pc := 67) CX P hF dX9_work_67 (fun v14 hF => ?_)
      refine lv_iload_n (pc := 68) hx hb dX9_work_68 rfl (lv_at hl 2 rfl) ?_
      refine lv_iadd (pc := 69) hx hb dX9_work_69 ?_
      refine r_mn (pc := 70) CX hl.1 tw_635 tw_468 tw_14 tw_469 (Nat.le_of_ble_eq_true rfl) (Nat.le_of_ble_eq_true rfl) (Nat.le_of_ble_eq_true rfl) (Nat.le_of_ble_eq_true rfl) dX9_work_70 ?_
      refine r_sI (pc := 73) CX P hF dX9_work_73 (fun h15 H locs P hF => ?_)
      refine lv_aload_n (pc := 74) hx hb dX9_work_74 rfl (lv_at hl 0 rfl) ?_
      refine lv_aload_n (pc := 75) hx hb dX9_work_75 rfl (lv_at hl 0 rfl) ?_
      refine r_gR (pc := 76) CX P hF fl_X9_10 dX9_work_76 (fun a16 hF => ?_)
      refine r_gR (pc := 79) CX P hF fl_X9_129 dX9_work_79 (fun a17 hF => ?_)
      refine r_gR (pc := 82) CX P hF fl_X9_176 dX9_work_82 (fun a18 hF => ?_)
      refine lv_iload_n (pc := 85) hx hb dX9_work_85 rfl (lv_at hl 1 rfl) ?_
      refine r_aI (pc := 86) CX P hF dX9_work_86 (fun v19 hF => ?_)
      refine r_cVi (pc := 87) (As := [.int v19]) (rest := []) CX P hl.1 hF kv_X9_85 (fun r h1 q => c_X9_settle l G B _ _ _ _ _ q) rfl rfl ⟨Nat.le_of_ble_eq_true rfl, Nat.le_of_ble_eq_true rfl⟩ (Nat.le_of_ble_eq_true rfl) ⟨Nat.le_of_ble_eq_true rfl, Nat.le_of_ble_eq_true rfl⟩ dX9_work_87 (fun v20 h21 H locs P hF => ?_)
      replace hF := un_i hF
      cases hF
      exact hret _ _ _ _ P rfl dX9_work_90
    · rw [if_neg hc] at hF
      refine lv_bipush (pc := 28) (v := (-3)) hx hb dX9_work_28 (by decide) ?_
      cases hF
      exact hret _ _ _ _ P rfl dX9_work_30
  · rw [if_pos hc] at hF
    refine lv_bipush (pc := 14) (v := (-2)) hx hb dX9_work_14 (by decide) ?_
    cases hF
    exact hret _ _ _ _ P rfl dX9_work_16
def F_X9_move (h : Hp) (a0 : Nat) (vp1 : Int32) (vp2 : Int32) : Option (Int32 × Hp) :=
(gR h a0 9 0).bind fun a1 =>
(gR h a1 8 1).bind fun a2 =>
(cO h a2 0 (F_X0_has h a2 vp1)).bind fun v3 =>
if v3 = 0 then (
some ((-2), h)) else (
(gR h a0 9 0).bind fun a4 =>
(gR h a4 8 0).bind fun a5 =>
(cO h a5 6 (F_X6_has h a5 vp2)).bind fun v6 =>
if v6 = 0 then (
some ((-2), h)) else (
(gR h a0 9 0).bind fun a7 =>
(gR h a7 8 1).bind fun a8 =>
(gR h a8 0 0).bind fun a9 =>
(aI h a9 vp1).bind fun v10 =>
if v10 = vp2 then (
some ((-5), h)) else (
(gR h a0 9 2).bind fun a11 =>
(gR h a0 9 0).bind fun a12 =>
(cO h a11 4 (F_X4_keep h a11 a12)).bind fun h13 =>
(gR h13 a0 9 5).bind fun a14 =>
(gR h13 a0 9 0).bind fun a15 =>
(cO h13 a14 3 (F_X3_moveProcess h13 a14 a15 vp1 vp2)).bind (un fun v16 h17 =>
(cO h17 a0 9 (F_X9_settle h17 a0 v16)).bind (un fun v18 h19 =>
some (v18, h19))))))
set_option maxRecDepth 100000 in
set_option maxHeartbeats 4000000 in
theorem c_X9_move (l : Launch) (G : GG) (B : Nat) (h : Hp) (a0 : Nat) (vp1 : Int32) (vp2 : Int32) (r0 : Int32) (hr : Hp) (hF : F_X9_move h a0 vp1 vp2 = some (r0, hr)) : CI l yX9_move cX9_move 3 .int 6 184 0 0 G B h [.ref (B + a0), .int vp1, .int vp2] r0 hr := by
  refine ent_i rfl (Nat.le_of_ble_eq_true rfl) ?_
  intro p e s m args below meth c ls Q CX hnm hret P hl
  have CX : Cxt p m c cX9_move 3 s args RX9 G B := CX
  obtain ⟨⟨hx, hb, hml, hown, hts⟩, -, -⟩ := id CX
  replace hl : lv_has ls 3 [(0, .ref (B + a0)), (1, .int vp1), (2, .int vp2)] := hl
  generalize s.heap = H at P ⊢
  generalize ([] : List Loc) = locs at P ⊢
  unfold F_X9_move at hF
  refine lv_aload_n (pc := 0) hx hb dX9_move_0 rfl (lv_at hl 0 rfl) ?_
  refine r_gR (pc := 1) CX P hF fl_X9_10 dX9_move_1 (fun a1 hF => ?_)
  refine r_gR (pc := 4) CX P hF fl_X9_129 dX9_move_4 (fun a2 hF => ?_)
  refine lv_iload_n (pc := 7) hx hb dX9_move_7 rfl (lv_at hl 1 rfl) ?_
  refine r_cVp (pc := 8) (As := [.int vp1]) (rest := []) CX P hl.1 hF kv_X9_133 (fun r q => c_X0_has l G B _ _ _ _ q) rfl rfl ⟨Nat.le_of_ble_eq_true rfl, Nat.le_of_ble_eq_true rfl⟩ (Nat.le_of_ble_eq_true rfl) ⟨Nat.le_of_ble_eq_true rfl, Nat.le_of_ble_eq_true rfl⟩ dX9_move_8 (fun v3 H locs P hF => ?_)
  refine lv_if_eq (pc := 11) (tgt := 28) hx hb dX9_move_11 (by decide) (fun hc => ?_) (fun hc => ?_)
  · rw [if_pos hc] at hF
    refine lv_bipush (pc := 28) (v := (-2)) hx hb dX9_move_28 (by decide) ?_
    cases hF
    exact hret _ _ _ _ P rfl dX9_move_30
  · rw [if_neg hc] at hF
    refine lv_aload_n (pc := 14) hx hb dX9_move_14 rfl (lv_at hl 0 rfl) ?_
    refine r_gR (pc := 15) CX P hF fl_X9_10 dX9_move_15 (fun a4 hF => ?_)
    refine r_gR (pc := 18) CX P hF fl_X9_53 dX9_move_18 (fun a5 hF => ?_)
    refine lv_iload_n (pc := 21) hx hb dX9_move_21 rfl (lv_at hl 2 rfl) ?_
    refine r_cVp (pc := 22) (As := [.int vp2]) (rest := []) CX P hl.1 hF kv_X9_57 (fun r q => c_X6_has l G B _ _ _ _ q) rfl rfl ⟨Nat.le_of_ble_eq_true rfl, Nat.le_of_ble_eq_true rfl⟩ (Nat.le_of_ble_eq_true rfl) ⟨Nat.le_of_ble_eq_true rfl, Nat.le_of_ble_eq_true rfl⟩ dX9_move_22 (fun v6 H locs P hF => ?_)
    refine lv_if_ne (pc := 25) (tgt := 31) hx hb dX9_move_25 (by decide) (fun hc => ?_) (fun hc => ?_)
    · rw [if_neg hc] at hF
      refine lv_aload_n (pc := 31) hx hb dX9_move_31 rfl (lv_at hl 0 rfl) ?_
      refine r_gR (pc := 32) CX P hF fl_X9_10 dX9_move_32 (fun a7 hF => ?_)
      refine r_gR (pc := 35) CX P hF fl_X9_129 dX9_move_35 (fun a8 hF => ?_)
      refine r_gR (pc := 38) CX P hF fl_X9_136 dX9_move_38 (fun a9 hF => ?_)
      refine lv_iload_n (pc := 41) hx hb dX9_move_41 rfl (lv_at hl 1 rfl) ?_
      refine r_aI (pc := 42) CX P hF dX9_move_42 (fun v10 hF => ?_)
      refine lv_iload_n (pc := 43) hx hb dX9_move_43 rfl (lv_at hl 2 rfl) ?_
      refine lv_icmp_ne (pc := 44) (tgt := 50) hx hb dX9_move_44 (by decide) (fun hc => ?_) (fun hc => ?_)
      · rw [if_neg hc] at hF
        refine lv_aload_n (pc := 50) hx hb dX9_move_50 rfl (lv_at hl 0 rfl) ?_
        refine r_gR (pc := 51) CX P hF fl_X9_22 dX9_move_51 (fun a11 hF => ?_)
        refine lv_aload_n (pc := 54) hx hb dX9_move_54 rfl (lv_at hl 0 rfl) ?_
        refine r_gR (pc := 55) CX P hF fl_X9_10 dX9_move_55 (fun a12 hF => ?_)
        refine r_cVv (pc := 58) (As := [.ref (B + a12)]) (rest := []) CX P hl.1 hF kv_X9_67 (fun h1 q => c_X4_keep l G B _ _ _ _ q) rfl rfl ⟨Nat.le_of_ble_eq_true rfl, Nat.le_of_ble_eq_true rfl⟩ (Nat.le_of_ble_eq_true rfl) ⟨Nat.le_of_ble_eq_true rfl, Nat.le_of_ble_eq_true rfl⟩ dX9_move_58 (fun h13 H locs P hF => ?_)
        refine lv_aload_n (pc := 61) hx hb dX9_move_61 rfl (lv_at hl 0 rfl) ?_
        refine lv_aload_n (pc := 62) hx hb dX9_move_62 rfl (lv_at hl 0 rfl) ?_
        refine r_gR (pc := 63) CX P hF fl_X9_42 dX9_move_63 (fun a14 hF => ?_)
        refine lv_aload_n (pc := 66) hx hb dX9_move_66 rfl (lv_at hl 0 rfl) ?_
        refine r_gR (pc := 67) CX P hF fl_X9_10 dX9_move_67 (fun a15 hF => ?_)
        refine lv_iload_n (pc := 70) hx hb dX9_move_70 rfl (lv_at hl 1 rfl) ?_
        refine lv_iload_n (pc := 71) hx hb dX9_move_71 rfl (lv_at hl 2 rfl) ?_
        refine r_cVi (pc := 72) (As := [.ref (B + a15), .int vp1, .int vp2]) (rest := [.ref (B + a0)]) CX P hl.1 hF kv_X9_184 (fun r h1 q => c_X3_moveProcess l G B _ _ _ _ _ _ _ q) rfl rfl ⟨Nat.le_of_ble_eq_true rfl, Nat.le_of_ble_eq_true rfl⟩ (Nat.le_of_ble_eq_true rfl) ⟨Nat.le_of_ble_eq_true rfl, Nat.le_of_ble_eq_true rfl⟩ dX9_move_72 (fun v16 h17 H locs P hF => ?_)
        replace hF := un_i hF
        refine r_cVi (pc := 75) (As := [.int v16]) (rest := []) CX P hl.1 hF kv_X9_85 (fun r h1 q => c_X9_settle l G B _ _ _ _ _ q) rfl rfl ⟨Nat.le_of_ble_eq_true rfl, Nat.le_of_ble_eq_true rfl⟩ (Nat.le_of_ble_eq_true rfl) ⟨Nat.le_of_ble_eq_true rfl, Nat.le_of_ble_eq_true rfl⟩ dX9_move_75 (fun v18 h19 H locs P hF => ?_)
        replace hF := un_i hF
        cases hF
        exact hret _ _ _ _ P rfl dX9_move_78
      · rw [if_pos hc] at hF
        refine lv_bipush (pc := 47) (v := (-5)) hx hb dX9_move_47 (by decide) ?_
        cases hF
        exact hret _ _ _ _ P rfl dX9_move_49
    · rw [if_pos hc] at hF
      refine lv_bipush (pc := 28) (v := (-2)) hx hb dX9_move_28 (by decide) ?_
      cases hF
      exact hret _ _ _ _ P rfl dX9_move_30
def F_X9_kill (h : Hp) (a0 : Nat) (vp1 : Int32) : Option (Int32 × Hp) :=
(gR h a0 9 0).bind fun a1 =>
(gR h a1 8 1).bind fun a2 =>
(cO h a2 0 (F_X0_has h a2 vp1)).bind fun v3 =>
if v3 = 0 then (
some ((-2), h)) else (
(gR h a0 9 2).bind fun a4 =>
(gR h a0 9 0).bind fun a5 =>
(cO h a4 4 (F_X4_keep h a4 a5)).bind fun h6 =>
(gR h6 a0 9 0).bind fun a7 =>
(gR h6 a7 8 1).bind fun a8 =>
(cO h6 a8 0 (F_X0_held h6 a8 vp1)).bind fun v9 =>
(gR h6 a0 9 0).bind fun a10 =>
(cO h6 a10 8 (F_X8_bury h6 a10 vp1)).bind fun h11 =>
(cO h11 a0 9 (F_X9_settle h11 a0 v9)).bind (un fun v12 h13 =>
some (v12, h13)))
set_option maxRecDepth 100000 in
set_option maxHeartbeats 4000000 in
theorem c_X9_kill (l : Launch) (G : GG) (B : Nat) (h : Hp) (a0 : Nat) (vp1 : Int32) (r0 : Int32) (hr : Hp) (hF : F_X9_kill h a0 vp1 = some (r0, hr)) : CI l yX9_kill cX9_kill 3 .int 5 184 0 0 G B h [.ref (B + a0), .int vp1] r0 hr := by
  refine ent_i rfl (Nat.le_of_ble_eq_true rfl) ?_
  intro p e s m args below meth c ls Q CX hnm hret P hl
  have CX : Cxt p m c cX9_kill 3 s args RX9 G B := CX
  obtain ⟨⟨hx, hb, hml, hown, hts⟩, -, -⟩ := id CX
  replace hl : lv_has ls 3 [(0, .ref (B + a0)), (1, .int vp1)] := hl
  generalize s.heap = H at P ⊢
  generalize ([] : List Loc) = locs at P ⊢
  unfold F_X9_kill at hF
  refine lv_aload_n (pc := 0) hx hb dX9_kill_0 rfl (lv_at hl 0 rfl) ?_
  refine r_gR (pc := 1) CX P hF fl_X9_10 dX9_kill_1 (fun a1 hF => ?_)
  refine r_gR (pc := 4) CX P hF fl_X9_129 dX9_kill_4 (fun a2 hF => ?_)
  refine lv_iload_n (pc := 7) hx hb dX9_kill_7 rfl (lv_at hl 1 rfl) ?_
  refine r_cVp (pc := 8) (As := [.int vp1]) (rest := []) CX P hl.1 hF kv_X9_133 (fun r q => c_X0_has l G B _ _ _ _ q) rfl rfl ⟨Nat.le_of_ble_eq_true rfl, Nat.le_of_ble_eq_true rfl⟩ (Nat.le_of_ble_eq_true rfl) ⟨Nat.le_of_ble_eq_true rfl, Nat.le_of_ble_eq_true rfl⟩ dX9_kill_8 (fun v3 H locs P hF => ?_)
  refine lv_if_ne (pc := 11) (tgt := 17) hx hb dX9_kill_11 (by decide) (fun hc => ?_) (fun hc => ?_)
  · rw [if_neg hc] at hF
    refine lv_aload_n (pc := 17) hx hb dX9_kill_17 rfl (lv_at hl 0 rfl) ?_
    refine r_gR (pc := 18) CX P hF fl_X9_22 dX9_kill_18 (fun a4 hF => ?_)
    refine lv_aload_n (pc := 21) hx hb dX9_kill_21 rfl (lv_at hl 0 rfl) ?_
    refine r_gR (pc := 22) CX P hF fl_X9_10 dX9_kill_22 (fun a5 hF => ?_)
    refine r_cVv (pc := 25) (As := [.ref (B + a5)]) (rest := []) CX P hl.1 hF kv_X9_67 (fun h1 q => c_X4_keep l G B _ _ _ _ q) rfl rfl ⟨Nat.le_of_ble_eq_true rfl, Nat.le_of_ble_eq_true rfl⟩ (Nat.le_of_ble_eq_true rfl) ⟨Nat.le_of_ble_eq_true rfl, Nat.le_of_ble_eq_true rfl⟩ dX9_kill_25 (fun h6 H locs P hF => ?_)
    refine lv_aload_n (pc := 28) hx hb dX9_kill_28 rfl (lv_at hl 0 rfl) ?_
    refine r_gR (pc := 29) CX P hF fl_X9_10 dX9_kill_29 (fun a7 hF => ?_)
    refine r_gR (pc := 32) CX P hF fl_X9_129 dX9_kill_32 (fun a8 hF => ?_)
    refine lv_iload_n (pc := 35) hx hb dX9_kill_35 rfl (lv_at hl 1 rfl) ?_
    refine r_cVp (pc := 36) (As := [.int vp1]) (rest := []) CX P hl.1 hF kv_X9_187 (fun r q => c_X0_held l G B _ _ _ _ q) rfl rfl ⟨Nat.le_of_ble_eq_true rfl, Nat.le_of_ble_eq_true rfl⟩ (Nat.le_of_ble_eq_true rfl) ⟨Nat.le_of_ble_eq_true rfl, Nat.le_of_ble_eq_true rfl⟩ dX9_kill_36 (fun v9 H locs P hF => ?_)
    refine lv_istore_n (pc := 39) hx hb dX9_kill_39 rfl hl (by decide) rfl (fun ls hl => ?_)
    replace hl : lv_has ls 3 [(2, .int v9), (0, .ref (B + a0)), (1, .int vp1)] := hl
    refine lv_aload_n (pc := 40) hx hb dX9_kill_40 rfl (lv_at hl 1 rfl) ?_
    refine r_gR (pc := 41) CX P hF fl_X9_10 dX9_kill_41 (fun a10 hF => ?_)
    refine lv_iload_n (pc := 44) hx hb dX9_kill_44 rfl (lv_at hl 2 rfl) ?_
    refine r_cVv (pc := 45) (As := [.int vp1]) (rest := []) CX P hl.1 hF kv_X9_190 (fun h1 q => c_X8_bury l G B _ _ _ _ q) rfl rfl ⟨Nat.le_of_ble_eq_true rfl, Nat.le_of_ble_eq_true rfl⟩ (Nat.le_of_ble_eq_true rfl) ⟨Nat.le_of_ble_eq_true rfl, Nat.le_of_ble_eq_true rfl⟩ dX9_kill_45 (fun h11 H locs P hF => ?_)
    refine lv_aload_n (pc := 48) hx hb dX9_kill_48 rfl (lv_at hl 1 rfl) ?_
    refine lv_iload_n (pc := 49) hx hb dX9_kill_49 rfl (lv_at hl 0 rfl) ?_
    refine r_cVi (pc := 50) (As := [.int v9]) (rest := []) CX P hl.1 hF kv_X9_85 (fun r h1 q => c_X9_settle l G B _ _ _ _ _ q) rfl rfl ⟨Nat.le_of_ble_eq_true rfl, Nat.le_of_ble_eq_true rfl⟩ (Nat.le_of_ble_eq_true rfl) ⟨Nat.le_of_ble_eq_true rfl, Nat.le_of_ble_eq_true rfl⟩ dX9_kill_50 (fun v12 h13 H locs P hF => ?_)
    replace hF := un_i hF
    cases hF
    exact hret _ _ _ _ P rfl dX9_kill_53
  · rw [if_pos hc] at hF
    refine lv_bipush (pc := 14) (v := (-2)) hx hb dX9_kill_14 (by decide) ?_
    cases hF
    exact hret _ _ _ _ P rfl dX9_kill_16
def F_X9_take (h : Hp) (a0 : Nat) (vp1 : Int32) (vp2 : Int32) : Option (Int32 × Hp) :=
(gR h a0 9 0).bind fun a1 =>
(gR h a1 8 0).bind fun a2 =>
(cO h a2 6 (F_X6_has h a2 vp1)).bind fun v3 =>
if v3 = 0 then (
some ((-2), h)) else (
(F_X9_outside h vp2 1 999).bind fun v4 =>
if v4 = 0 then (
(gR h a0 9 2).bind fun a5 =>
(gR h a0 9 0).bind fun a6 =>
(cO h a5 4 (F_X4_keep h a5 a6)).bind fun h7 =>
(gR h7 a0 9 4).bind fun a8 =>
(gR h7 a0 9 0).bind fun a9 =>
(cO h7 a8 5 (F_X5_takePages h7 a8 a9 vp1 vp2)).bind (un fun v10 h11 =>
(cO h11 a0 9 (F_X9_settle h11 a0 v10)).bind (un fun v12 h13 =>
some (v12, h13)))) else (
some ((-3), h)))
set_option maxRecDepth 100000 in
set_option maxHeartbeats 4000000 in
theorem c_X9_take (l : Launch) (G : GG) (B : Nat) (h : Hp) (a0 : Nat) (vp1 : Int32) (vp2 : Int32) (r0 : Int32) (hr : Hp) (hF : F_X9_take h a0 vp1 vp2 = some (r0, hr)) : CI l yX9_take cX9_take 3 .int 5 184 0 0 G B h [.ref (B + a0), .int vp1, .int vp2] r0 hr := by
  refine ent_i rfl (Nat.le_of_ble_eq_true rfl) ?_
  intro p e s m args below meth c ls Q CX hnm hret P hl
  have CX : Cxt p m c cX9_take 3 s args RX9 G B := CX
  obtain ⟨⟨hx, hb, hml, hown, hts⟩, -, -⟩ := id CX
  replace hl : lv_has ls 3 [(0, .ref (B + a0)), (1, .int vp1), (2, .int vp2)] := hl
  generalize s.heap = H at P ⊢
  generalize ([] : List Loc) = locs at P ⊢
  unfold F_X9_take at hF
  refine lv_aload_n (pc := 0) hx hb dX9_take_0 rfl (lv_at hl 0 rfl) ?_
  refine r_gR (pc := 1) CX P hF fl_X9_10 dX9_take_1 (fun a1 hF => ?_)
  refine r_gR (pc := 4) CX P hF fl_X9_53 dX9_take_4 (fun a2 hF => ?_)
  refine lv_iload_n (pc := 7) hx hb dX9_take_7 rfl (lv_at hl 1 rfl) ?_
  refine r_cVp (pc := 8) (As := [.int vp1]) (rest := []) CX P hl.1 hF kv_X9_57 (fun r q => c_X6_has l G B _ _ _ _ q) rfl rfl ⟨Nat.le_of_ble_eq_true rfl, Nat.le_of_ble_eq_true rfl⟩ (Nat.le_of_ble_eq_true rfl) ⟨Nat.le_of_ble_eq_true rfl, Nat.le_of_ble_eq_true rfl⟩ dX9_take_8 (fun v3 H locs P hF => ?_)
  refine lv_if_ne (pc := 11) (tgt := 17) hx hb dX9_take_11 (by decide) (fun hc => ?_) (fun hc => ?_)
  · rw [if_neg hc] at hF
    refine lv_iload_n (pc := 17) hx hb dX9_take_17 rfl (lv_at hl 2 rfl) ?_
    refine lv_iconst (pc := 18) (v := 1) hx hb dX9_take_18 (by decide) ?_
    refine lv_sipush (pc := 19) (v := 999) hx hb dX9_take_19 (by decide) ?_
    refine r_cSp (pc := 22) (As := [.int vp2, .int 1, .int 999]) (rest := []) CX P hl.1 hF ks_X9_111 (fun r q => c_X9_outside l G B _ _ _ _ _ q) rfl rfl ⟨Nat.le_of_ble_eq_true rfl, Nat.le_of_ble_eq_true rfl⟩ (Nat.le_of_ble_eq_true rfl) ⟨Nat.le_of_ble_eq_true rfl, Nat.le_of_ble_eq_true rfl⟩ dX9_take_22 (fun v4 H locs P hF => ?_)
    refine lv_if_eq (pc := 25) (tgt := 31) hx hb dX9_take_25 (by decide) (fun hc => ?_) (fun hc => ?_)
    · rw [if_pos hc] at hF
      refine lv_aload_n (pc := 31) hx hb dX9_take_31 rfl (lv_at hl 0 rfl) ?_
      refine r_gR (pc := 32) CX P hF fl_X9_22 dX9_take_32 (fun a5 hF => ?_)
      refine lv_aload_n (pc := 35) hx hb dX9_take_35 rfl (lv_at hl 0 rfl) ?_
      refine r_gR (pc := 36) CX P hF fl_X9_10 dX9_take_36 (fun a6 hF => ?_)
      refine r_cVv (pc := 39) (As := [.ref (B + a6)]) (rest := []) CX P hl.1 hF kv_X9_67 (fun h1 q => c_X4_keep l G B _ _ _ _ q) rfl rfl ⟨Nat.le_of_ble_eq_true rfl, Nat.le_of_ble_eq_true rfl⟩ (Nat.le_of_ble_eq_true rfl) ⟨Nat.le_of_ble_eq_true rfl, Nat.le_of_ble_eq_true rfl⟩ dX9_take_39 (fun h7 H locs P hF => ?_)
      refine lv_aload_n (pc := 42) hx hb dX9_take_42 rfl (lv_at hl 0 rfl) ?_
      refine lv_aload_n (pc := 43) hx hb dX9_take_43 rfl (lv_at hl 0 rfl) ?_
      refine r_gR (pc := 44) CX P hF fl_X9_33 dX9_take_44 (fun a8 hF => ?_)
      refine lv_aload_n (pc := 47) hx hb dX9_take_47 rfl (lv_at hl 0 rfl) ?_
      refine r_gR (pc := 48) CX P hF fl_X9_10 dX9_take_48 (fun a9 hF => ?_)
      refine lv_iload_n (pc := 51) hx hb dX9_take_51 rfl (lv_at hl 1 rfl) ?_
      refine lv_iload_n (pc := 52) hx hb dX9_take_52 rfl (lv_at hl 2 rfl) ?_
      refine r_cVi (pc := 53) (As := [.ref (B + a9), .int vp1, .int vp2]) (rest := [.ref (B + a0)]) CX P hl.1 hF kv_X9_193 (fun r h1 q => c_X5_takePages l G B _ _ _ _ _ _ _ q) rfl rfl ⟨Nat.le_of_ble_eq_true rfl, Nat.le_of_ble_eq_true rfl⟩ (Nat.le_of_ble_eq_true rfl) ⟨Nat.le_of_ble_eq_true rfl, Nat.le_of_ble_eq_true rfl⟩ dX9_take_53 (fun v10 h11 H locs P hF => ?_)
      replace hF := un_i hF
      refine r_cVi (pc := 56) (As := [.int v10]) (rest := []) CX P hl.1 hF kv_X9_85 (fun r h1 q => c_X9_settle l G B _ _ _ _ _ q) rfl rfl ⟨Nat.le_of_ble_eq_true rfl, Nat.le_of_ble_eq_true rfl⟩ (Nat.le_of_ble_eq_true rfl) ⟨Nat.le_of_ble_eq_true rfl, Nat.le_of_ble_eq_true rfl⟩ dX9_take_56 (fun v12 h13 H locs P hF => ?_)
      replace hF := un_i hF
      cases hF
      exact hret _ _ _ _ P rfl dX9_take_59
    · rw [if_neg hc] at hF
      refine lv_bipush (pc := 28) (v := (-3)) hx hb dX9_take_28 (by decide) ?_
      cases hF
      exact hret _ _ _ _ P rfl dX9_take_30
  · rw [if_pos hc] at hF
    refine lv_bipush (pc := 14) (v := (-2)) hx hb dX9_take_14 (by decide) ?_
    cases hF
    exact hret _ _ _ _ P rfl dX9_take_16
def F_X9_drain (h : Hp) (a0 : Nat) (vp1 : Int32) : Option (Int32 × Hp) :=
(gR h a0 9 0).bind fun a1 =>
(gR h a1 8 0).bind fun a2 =>
(cO h a2 6 (F_X6_has h a2 vp1)).bind fun v3 =>
if v3 = 0 then (
some ((-2), h)) else (
(gR h a0 9 2).bind fun a4 =>
(gR h a0 9 0).bind fun a5 =>
(cO h a4 4 (F_X4_keep h a4 a5)).bind fun h6 =>
(gR h6 a0 9 0).bind fun a7 =>
(gR h6 a7 8 0).bind fun a8 =>
(cO h6 a8 6 (F_X6_emptyStocks h6 a8 vp1)).bind (un fun v9 h10 =>
(cO h10 a0 9 (F_X9_settle h10 a0 v9)).bind (un fun v11 h12 =>
some (v11, h12))))
set_option maxRecDepth 100000 in
set_option maxHeartbeats 4000000 in
theorem c_X9_drain (l : Launch) (G : GG) (B : Nat) (h : Hp) (a0 : Nat) (vp1 : Int32) (r0 : Int32) (hr : Hp) (hF : F_X9_drain h a0 vp1 = some (r0, hr)) : CI l yX9_drain cX9_drain 2 .int 5 184 0 0 G B h [.ref (B + a0), .int vp1] r0 hr := by
  refine ent_i rfl (Nat.le_of_ble_eq_true rfl) ?_
  intro p e s m args below meth c ls Q CX hnm hret P hl
  have CX : Cxt p m c cX9_drain 2 s args RX9 G B := CX
  obtain ⟨⟨hx, hb, hml, hown, hts⟩, -, -⟩ := id CX
  replace hl : lv_has ls 2 [(0, .ref (B + a0)), (1, .int vp1)] := hl
  generalize s.heap = H at P ⊢
  generalize ([] : List Loc) = locs at P ⊢
  unfold F_X9_drain at hF
  refine lv_aload_n (pc := 0) hx hb dX9_drain_0 rfl (lv_at hl 0 rfl) ?_
  refine r_gR (pc := 1) CX P hF fl_X9_10 dX9_drain_1 (fun a1 hF => ?_)
  refine r_gR (pc := 4) CX P hF fl_X9_53 dX9_drain_4 (fun a2 hF => ?_)
  refine lv_iload_n (pc := 7) hx hb dX9_drain_7 rfl (lv_at hl 1 rfl) ?_
  refine r_cVp (pc := 8) (As := [.int vp1]) (rest := []) CX P hl.1 hF kv_X9_57 (fun r q => c_X6_has l G B _ _ _ _ q) rfl rfl ⟨Nat.le_of_ble_eq_true rfl, Nat.le_of_ble_eq_true rfl⟩ (Nat.le_of_ble_eq_true rfl) ⟨Nat.le_of_ble_eq_true rfl, Nat.le_of_ble_eq_true rfl⟩ dX9_drain_8 (fun v3 H locs P hF => ?_)
  refine lv_if_ne (pc := 11) (tgt := 17) hx hb dX9_drain_11 (by decide) (fun hc => ?_) (fun hc => ?_)
  · rw [if_neg hc] at hF
    refine lv_aload_n (pc := 17) hx hb dX9_drain_17 rfl (lv_at hl 0 rfl) ?_
    refine r_gR (pc := 18) CX P hF fl_X9_22 dX9_drain_18 (fun a4 hF => ?_)
    refine lv_aload_n (pc := 21) hx hb dX9_drain_21 rfl (lv_at hl 0 rfl) ?_
    refine r_gR (pc := 22) CX P hF fl_X9_10 dX9_drain_22 (fun a5 hF => ?_)
    refine r_cVv (pc := 25) (As := [.ref (B + a5)]) (rest := []) CX P hl.1 hF kv_X9_67 (fun h1 q => c_X4_keep l G B _ _ _ _ q) rfl rfl ⟨Nat.le_of_ble_eq_true rfl, Nat.le_of_ble_eq_true rfl⟩ (Nat.le_of_ble_eq_true rfl) ⟨Nat.le_of_ble_eq_true rfl, Nat.le_of_ble_eq_true rfl⟩ dX9_drain_25 (fun h6 H locs P hF => ?_)
    refine lv_aload_n (pc := 28) hx hb dX9_drain_28 rfl (lv_at hl 0 rfl) ?_
    refine lv_aload_n (pc := 29) hx hb dX9_drain_29 rfl (lv_at hl 0 rfl) ?_
    refine r_gR (pc := 30) CX P hF fl_X9_10 dX9_drain_30 (fun a7 hF => ?_)
    refine r_gR (pc := 33) CX P hF fl_X9_53 dX9_drain_33 (fun a8 hF => ?_)
    refine lv_iload_n (pc := 36) hx hb dX9_drain_36 rfl (lv_at hl 1 rfl) ?_
    refine r_cVi (pc := 37) (As := [.int vp1]) (rest := [.ref (B + a0)]) CX P hl.1 hF kv_X9_196 (fun r h1 q => c_X6_emptyStocks l G B _ _ _ _ _ q) rfl rfl ⟨Nat.le_of_ble_eq_true rfl, Nat.le_of_ble_eq_true rfl⟩ (Nat.le_of_ble_eq_true rfl) ⟨Nat.le_of_ble_eq_true rfl, Nat.le_of_ble_eq_true rfl⟩ dX9_drain_37 (fun v9 h10 H locs P hF => ?_)
    replace hF := un_i hF
    refine r_cVi (pc := 40) (As := [.int v9]) (rest := []) CX P hl.1 hF kv_X9_85 (fun r h1 q => c_X9_settle l G B _ _ _ _ _ q) rfl rfl ⟨Nat.le_of_ble_eq_true rfl, Nat.le_of_ble_eq_true rfl⟩ (Nat.le_of_ble_eq_true rfl) ⟨Nat.le_of_ble_eq_true rfl, Nat.le_of_ble_eq_true rfl⟩ dX9_drain_40 (fun v11 h12 H locs P hF => ?_)
    replace hF := un_i hF
    cases hF
    exact hret _ _ _ _ P rfl dX9_drain_43
  · rw [if_pos hc] at hF
    refine lv_bipush (pc := 14) (v := (-2)) hx hb dX9_drain_14 (by decide) ?_
    cases hF
    exact hret _ _ _ _ P rfl dX9_drain_16
def F_X9_batch (h : Hp) (a0 : Nat) (vp1 : Int32) : Option (Int32 × Hp) :=
(F_X9_outside h vp1 1 8).bind fun v1 =>
if v1 = 0 then (
(gR h a0 9 2).bind fun a2 =>
(gR h a0 9 0).bind fun a3 =>
(cO h a2 4 (F_X4_keep h a2 a3)).bind fun h4 =>
(gR h4 a0 9 0).bind fun a5 =>
(gI h4 a5 8 4).bind fun v6 =>
(gR h4 a0 9 0).bind fun a7 =>
(pI h4 a7 8 4 vp1).bind fun h8 =>
(cO h8 a0 9 (F_X9_settle h8 a0 v6)).bind (un fun v9 h10 =>
some (v9, h10))) else (
some ((-3), h))
set_option maxRecDepth 100000 in
set_option maxHeartbeats 4000000 in
theorem c_X9_batch (l : Launch) (G : GG) (B : Nat) (h : Hp) (a0 : Nat) (vp1 : Int32) (r0 : Int32) (hr : Hp) (hF : F_X9_batch h a0 vp1 = some (r0, hr)) : CI l yX9_batch cX9_batch 3 .int 5 184 0 0 G B h [.ref (B + a0), .int vp1] r0 hr := by
  refine ent_i rfl (Nat.le_of_ble_eq_true rfl) ?_
  intro p e s m args below meth c ls Q CX hnm hret P hl
  have CX : Cxt p m c cX9_batch 3 s args RX9 G B := CX
  obtain ⟨⟨hx, hb, hml, hown, hts⟩, -, -⟩ := id CX
  replace hl : lv_has ls 3 [(0, .ref (B + a0)), (1, .int vp1)] := hl
  generalize s.heap = H at P ⊢
  generalize ([] : List Loc) = locs at P ⊢
  unfold F_X9_batch at hF
  refine lv_iload_n (pc := 0) hx hb dX9_batch_0 rfl (lv_at hl 1 rfl) ?_
  refine lv_iconst (pc := 1) (v := 1) hx hb dX9_batch_1 (by decide) ?_
  refine lv_bipush (pc := 2) (v := 8) hx hb dX9_batch_2 (by decide) ?_
  refine r_cSp (pc := 4) (As := [.int vp1, .int 1, .int 8]) (rest := []) CX P hl.1 hF ks_X9_111 (fun r q => c_X9_outside l G B _ _ _ _ _ q) rfl rfl ⟨Nat.le_of_ble_eq_true rfl, Nat.le_of_ble_eq_true rfl⟩ (Nat.le_of_ble_eq_true rfl) ⟨Nat.le_of_ble_eq_true rfl, Nat.le_of_ble_eq_true rfl⟩ dX9_batch_4 (fun v1 H locs P hF => ?_)
  refine lv_if_eq (pc := 7) (tgt := 13) hx hb dX9_batch_7 (by decide) (fun hc => ?_) (fun hc => ?_)
  · rw [if_pos hc] at hF
    refine lv_aload_n (pc := 13) hx hb dX9_batch_13 rfl (lv_at hl 0 rfl) ?_
    refine r_gR (pc := 14) CX P hF fl_X9_22 dX9_batch_14 (fun a2 hF => ?_)
    refine lv_aload_n (pc := 17) hx hb dX9_batch_17 rfl (lv_at hl 0 rfl) ?_
    refine r_gR (pc := 18) CX P hF fl_X9_10 dX9_batch_18 (fun a3 hF => ?_)
    refine r_cVv (pc := 21) (As := [.ref (B + a3)]) (rest := []) CX P hl.1 hF kv_X9_67 (fun h1 q => c_X4_keep l G B _ _ _ _ q) rfl rfl ⟨Nat.le_of_ble_eq_true rfl, Nat.le_of_ble_eq_true rfl⟩ (Nat.le_of_ble_eq_true rfl) ⟨Nat.le_of_ble_eq_true rfl, Nat.le_of_ble_eq_true rfl⟩ dX9_batch_21 (fun h4 H locs P hF => ?_)
    refine lv_aload_n (pc := 24) hx hb dX9_batch_24 rfl (lv_at hl 0 rfl) ?_
    refine r_gR (pc := 25) CX P hF fl_X9_10 dX9_batch_25 (fun a5 hF => ?_)
    refine r_gI (pc := 28) CX P hF fl_X9_199 dX9_batch_28 (fun v6 hF => ?_)
    refine lv_istore_n (pc := 31) hx hb dX9_batch_31 rfl hl (by decide) rfl (fun ls hl => ?_)
    replace hl : lv_has ls 3 [(2, .int v6), (0, .ref (B + a0)), (1, .int vp1)] := hl
    refine lv_aload_n (pc := 32) hx hb dX9_batch_32 rfl (lv_at hl 1 rfl) ?_
    refine r_gR (pc := 33) CX P hF fl_X9_10 dX9_batch_33 (fun a7 hF => ?_)
    refine lv_iload_n (pc := 36) hx hb dX9_batch_36 rfl (lv_at hl 2 rfl) ?_
    refine r_pI (pc := 37) CX P hF fl_X9_199 dX9_batch_37 (fun h8 H locs P hF => ?_)
    refine lv_aload_n (pc := 40) hx hb dX9_batch_40 rfl (lv_at hl 1 rfl) ?_
    refine lv_iload_n (pc := 41) hx hb dX9_batch_41 rfl (lv_at hl 0 rfl) ?_
    refine r_cVi (pc := 42) (As := [.int v6]) (rest := []) CX P hl.1 hF kv_X9_85 (fun r h1 q => c_X9_settle l G B _ _ _ _ _ q) rfl rfl ⟨Nat.le_of_ble_eq_true rfl, Nat.le_of_ble_eq_true rfl⟩ (Nat.le_of_ble_eq_true rfl) ⟨Nat.le_of_ble_eq_true rfl, Nat.le_of_ble_eq_true rfl⟩ dX9_batch_42 (fun v9 h10 H locs P hF => ?_)
    replace hF := un_i hF
    cases hF
    exact hret _ _ _ _ P rfl dX9_batch_45
  · rw [if_neg hc] at hF
    refine lv_bipush (pc := 10) (v := (-3)) hx hb dX9_batch_10 (by decide) ?_
    cases hF
    exact hret _ _ _ _ P rfl dX9_batch_12
def F_X9_swap (h : Hp) (a0 : Nat) (vp1 : Int32) : Option (Int32 × Hp) :=
(F_X9_outside h vp1 0 999).bind fun v1 =>
if v1 = 0 then (
(gR h a0 9 0).bind fun a2 =>
(gR h a2 8 0).bind fun a3 =>
(gR h a3 6 6).bind fun a4 =>
(aI h a4 0).bind fun v5 =>
if v5 ≤ vp1 then (
(gR h a0 9 2).bind fun a6 =>
(gR h a0 9 0).bind fun a7 =>
(cO h a6 4 (F_X4_keep h a6 a7)).bind fun h8 =>
(gR h8 a0 9 0).bind fun a9 =>
(gI h8 a9 8 5).bind fun v10 =>
(gR h8 a0 9 0).bind fun a11 =>
(pI h8 a11 8 5 vp1).bind fun h12 =>
(cO h12 a0 9 (F_X9_settle h12 a0 v10)).bind (un fun v13 h14 =>
some (v13, h14))) else (
some ((-4), h))) else (
some ((-3), h))
set_option maxRecDepth 100000 in
set_option maxHeartbeats 4000000 in
theorem c_X9_swap (l : Launch) (G : GG) (B : Nat) (h : Hp) (a0 : Nat) (vp1 : Int32) (r0 : Int32) (hr : Hp) (hF : F_X9_swap h a0 vp1 = some (r0, hr)) : CI l yX9_swap cX9_swap 3 .int 5 184 0 0 G B h [.ref (B + a0), .int vp1] r0 hr := by
  refine ent_i rfl (Nat.le_of_ble_eq_true rfl) ?_
  intro p e s m args below meth c ls Q CX hnm hret P hl
  have CX : Cxt p m c cX9_swap 3 s args RX9 G B := CX
  obtain ⟨⟨hx, hb, hml, hown, hts⟩, -, -⟩ := id CX
  replace hl : lv_has ls 3 [(0, .ref (B + a0)), (1, .int vp1)] := hl
  generalize s.heap = H at P ⊢
  generalize ([] : List Loc) = locs at P ⊢
  unfold F_X9_swap at hF
  refine lv_iload_n (pc := 0) hx hb dX9_swap_0 rfl (lv_at hl 1 rfl) ?_
  refine lv_iconst (pc := 1) (v := 0) hx hb dX9_swap_1 (by decide) ?_
  refine lv_sipush (pc := 2) (v := 999) hx hb dX9_swap_2 (by decide) ?_
  refine r_cSp (pc := 5) (As := [.int vp1, .int 0, .int 999]) (rest := []) CX P hl.1 hF ks_X9_111 (fun r q => c_X9_outside l G B _ _ _ _ _ q) rfl rfl ⟨Nat.le_of_ble_eq_true rfl, Nat.le_of_ble_eq_true rfl⟩ (Nat.le_of_ble_eq_true rfl) ⟨Nat.le_of_ble_eq_true rfl, Nat.le_of_ble_eq_true rfl⟩ dX9_swap_5 (fun v1 H locs P hF => ?_)
  refine lv_if_eq (pc := 8) (tgt := 14) hx hb dX9_swap_8 (by decide) (fun hc => ?_) (fun hc => ?_)
  · rw [if_pos hc] at hF
    refine lv_aload_n (pc := 14) hx hb dX9_swap_14 rfl (lv_at hl 0 rfl) ?_
    refine r_gR (pc := 15) CX P hF fl_X9_10 dX9_swap_15 (fun a2 hF => ?_)
    refine r_gR (pc := 18) CX P hF fl_X9_53 dX9_swap_18 (fun a3 hF => ?_)
    refine r_gR (pc := 21) CX P hF fl_X9_203 dX9_swap_21 (fun a4 hF => ?_)
    refine lv_iconst (pc := 24) (v := 0) hx hb dX9_swap_24 (by decide) ?_
    refine r_aI (pc := 25) CX P hF dX9_swap_25 (fun v5 hF => ?_)
    refine lv_iload_n (pc := 26) hx hb dX9_swap_26 rfl (lv_at hl 1 rfl) ?_
    refine lv_icmp_le (pc := 27) (tgt := 33) hx hb dX9_swap_27 (by decide) (fun hc => ?_) (fun hc => ?_)
    · rw [if_pos hc] at hF
      refine lv_aload_n (pc := 33) hx hb dX9_swap_33 rfl (lv_at hl 0 rfl) ?_
      refine r_gR (pc := 34) CX P hF fl_X9_22 dX9_swap_34 (fun a6 hF => ?_)
      refine lv_aload_n (pc := 37) hx hb dX9_swap_37 rfl (lv_at hl 0 rfl) ?_
      refine r_gR (pc := 38) CX P hF fl_X9_10 dX9_swap_38 (fun a7 hF => ?_)
      refine r_cVv (pc := 41) (As := [.ref (B + a7)]) (rest := []) CX P hl.1 hF kv_X9_67 (fun h1 q => c_X4_keep l G B _ _ _ _ q) rfl rfl ⟨Nat.le_of_ble_eq_true rfl, Nat.le_of_ble_eq_true rfl⟩ (Nat.le_of_ble_eq_true rfl) ⟨Nat.le_of_ble_eq_true rfl, Nat.le_of_ble_eq_true rfl⟩ dX9_swap_41 (fun h8 H locs P hF => ?_)
      refine lv_aload_n (pc := 44) hx hb dX9_swap_44 rfl (lv_at hl 0 rfl) ?_
      refine r_gR (pc := 45) CX P hF fl_X9_10 dX9_swap_45 (fun a9 hF => ?_)
      refine r_gI (pc := 48) CX P hF fl_X9_206 dX9_swap_48 (fun v10 hF => ?_)
      refine lv_istore_n (pc := 51) hx hb dX9_swap_51 rfl hl (by decide) rfl (fun ls hl => ?_)
      replace hl : lv_has ls 3 [(2, .int v10), (0, .ref (B + a0)), (1, .int vp1)] := hl
      refine lv_aload_n (pc := 52) hx hb dX9_swap_52 rfl (lv_at hl 1 rfl) ?_
      refine r_gR (pc := 53) CX P hF fl_X9_10 dX9_swap_53 (fun a11 hF => ?_)
      refine lv_iload_n (pc := 56) hx hb dX9_swap_56 rfl (lv_at hl 2 rfl) ?_
      refine r_pI (pc := 57) CX P hF fl_X9_206 dX9_swap_57 (fun h12 H locs P hF => ?_)
      refine lv_aload_n (pc := 60) hx hb dX9_swap_60 rfl (lv_at hl 1 rfl) ?_
      refine lv_iload_n (pc := 61) hx hb dX9_swap_61 rfl (lv_at hl 0 rfl) ?_
      refine r_cVi (pc := 62) (As := [.int v10]) (rest := []) CX P hl.1 hF kv_X9_85 (fun r h1 q => c_X9_settle l G B _ _ _ _ _ q) rfl rfl ⟨Nat.le_of_ble_eq_true rfl, Nat.le_of_ble_eq_true rfl⟩ (Nat.le_of_ble_eq_true rfl) ⟨Nat.le_of_ble_eq_true rfl, Nat.le_of_ble_eq_true rfl⟩ dX9_swap_62 (fun v13 h14 H locs P hF => ?_)
      replace hF := un_i hF
      cases hF
      exact hret _ _ _ _ P rfl dX9_swap_65
    · rw [if_neg hc] at hF
      refine lv_bipush (pc := 30) (v := (-4)) hx hb dX9_swap_30 (by decide) ?_
      cases hF
      exact hret _ _ _ _ P rfl dX9_swap_32
  · rw [if_neg hc] at hF
    refine lv_bipush (pc := 11) (v := (-3)) hx hb dX9_swap_11 (by decide) ?_
    cases hF
    exact hret _ _ _ _ P rfl dX9_swap_13
def F_X9_cap (h : Hp) (a0 : Nat) (vp1 : Int32) : Option (Int32 × Hp) :=
(F_X9_outside h vp1 0 99).bind fun v1 =>
if v1 = 0 then (
(gR h a0 9 2).bind fun a2 =>
(gR h a0 9 0).bind fun a3 =>
(cO h a2 4 (F_X4_keep h a2 a3)).bind fun h4 =>
(gR h4 a0 9 0).bind fun a5 =>
(gI h4 a5 8 6).bind fun v6 =>
(gR h4 a0 9 0).bind fun a7 =>
(pI h4 a7 8 6 vp1).bind fun h8 =>
(cO h8 a0 9 (F_X9_settle h8 a0 v6)).bind (un fun v9 h10 =>
some (v9, h10))) else (
some ((-3), h))
set_option maxRecDepth 100000 in
set_option maxHeartbeats 4000000 in
theorem c_X9_cap (l : Launch) (G : GG) (B : Nat) (h : Hp) (a0 : Nat) (vp1 : Int32) (r0 : Int32) (hr : Hp) (hF : F_X9_cap h a0 vp1 = some (r0, hr)) : CI l yX9_cap cX9_cap 3 .int 5 184 0 0 G B h [.ref (B + a0), .int vp1] r0 hr := by
  refine ent_i rfl (Nat.le_of_ble_eq_true rfl) ?_
  intro p e s m args below meth c ls Q CX hnm hret P hl
  have CX : Cxt p m c cX9_cap 3 s args RX9 G B := CX
  obtain ⟨⟨hx, hb, hml, hown, hts⟩, -, -⟩ := id CX
  replace hl : lv_has ls 3 [(0, .ref (B + a0)), (1, .int vp1)] := hl
  generalize s.heap = H at P ⊢
  generalize ([] : List Loc) = locs at P ⊢
  unfold F_X9_cap at hF
  refine lv_iload_n (pc := 0) hx hb dX9_cap_0 rfl (lv_at hl 1 rfl) ?_
  refine lv_iconst (pc := 1) (v := 0) hx hb dX9_cap_1 (by decide) ?_
  refine lv_bipush (pc := 2) (v := 99) hx hb dX9_cap_2 (by decide) ?_
  refine r_cSp (pc := 4) (As := [.int vp1, .int 0, .int 99]) (rest := []) CX P hl.1 hF ks_X9_111 (fun r q => c_X9_outside l G B _ _ _ _ _ q) rfl rfl ⟨Nat.le_of_ble_eq_true rfl, Nat.le_of_ble_eq_true rfl⟩ (Nat.le_of_ble_eq_true rfl) ⟨Nat.le_of_ble_eq_true rfl, Nat.le_of_ble_eq_true rfl⟩ dX9_cap_4 (fun v1 H locs P hF => ?_)
  refine lv_if_eq (pc := 7) (tgt := 13) hx hb dX9_cap_7 (by decide) (fun hc => ?_) (fun hc => ?_)
  · rw [if_pos hc] at hF
    refine lv_aload_n (pc := 13) hx hb dX9_cap_13 rfl (lv_at hl 0 rfl) ?_
    refine r_gR (pc := 14) CX P hF fl_X9_22 dX9_cap_14 (fun a2 hF => ?_)
    refine lv_aload_n (pc := 17) hx hb dX9_cap_17 rfl (lv_at hl 0 rfl) ?_
    refine r_gR (pc := 18) CX P hF fl_X9_10 dX9_cap_18 (fun a3 hF => ?_)
    refine r_cVv (pc := 21) (As := [.ref (B + a3)]) (rest := []) CX P hl.1 hF kv_X9_67 (fun h1 q => c_X4_keep l G B _ _ _ _ q) rfl rfl ⟨Nat.le_of_ble_eq_true rfl, Nat.le_of_ble_eq_true rfl⟩ (Nat.le_of_ble_eq_true rfl) ⟨Nat.le_of_ble_eq_true rfl, Nat.le_of_ble_eq_true rfl⟩ dX9_cap_21 (fun h4 H locs P hF => ?_)
    refine lv_aload_n (pc := 24) hx hb dX9_cap_24 rfl (lv_at hl 0 rfl) ?_
    refine r_gR (pc := 25) CX P hF fl_X9_10 dX9_cap_25 (fun a5 hF => ?_)
    refine r_gI (pc := 28) CX P hF fl_X9_209 dX9_cap_28 (fun v6 hF => ?_)
    refine lv_istore_n (pc := 31) hx hb dX9_cap_31 rfl hl (by decide) rfl (fun ls hl => ?_)
    replace hl : lv_has ls 3 [(2, .int v6), (0, .ref (B + a0)), (1, .int vp1)] := hl
    refine lv_aload_n (pc := 32) hx hb dX9_cap_32 rfl (lv_at hl 1 rfl) ?_
    refine r_gR (pc := 33) CX P hF fl_X9_10 dX9_cap_33 (fun a7 hF => ?_)
    refine lv_iload_n (pc := 36) hx hb dX9_cap_36 rfl (lv_at hl 2 rfl) ?_
    refine r_pI (pc := 37) CX P hF fl_X9_209 dX9_cap_37 (fun h8 H locs P hF => ?_)
    refine lv_aload_n (pc := 40) hx hb dX9_cap_40 rfl (lv_at hl 1 rfl) ?_
    refine lv_iload_n (pc := 41) hx hb dX9_cap_41 rfl (lv_at hl 0 rfl) ?_
    refine r_cVi (pc := 42) (As := [.int v6]) (rest := []) CX P hl.1 hF kv_X9_85 (fun r h1 q => c_X9_settle l G B _ _ _ _ _ q) rfl rfl ⟨Nat.le_of_ble_eq_true rfl, Nat.le_of_ble_eq_true rfl⟩ (Nat.le_of_ble_eq_true rfl) ⟨Nat.le_of_ble_eq_true rfl, Nat.le_of_ble_eq_true rfl⟩ dX9_cap_42 (fun v9 h10 H locs P hF => ?_)
    replace hF := un_i hF
    cases hF
    exact hret _ _ _ _ P rfl dX9_cap_45
  · rw [if_neg hc] at hF
    refine lv_bipush (pc := 10) (v := (-3)) hx hb dX9_cap_10 (by decide) ?_
    cases hF
    exact hret _ _ _ _ P rfl dX9_cap_12
def F_X9_tick_L26 (a6 : Nat) (v7 : Int32) (v8 : Int32) (h9 : Hp) : Option ((Int32 × Hp) ⊕ (Hp)) :=
if v7 ≤ v8 then (
some (.inr h9)) else (
(gR h9 a6 9 6).bind fun a10 =>
(gR h9 a6 9 0).bind fun a11 =>
(cO h9 a10 2 (F_X2_doWork h9 a10 a11)).bind fun h12 =>
(gR h12 a6 9 0).bind fun a13 =>
(cO h12 a13 8 (F_X8_noteStalls h12 a13)).bind fun h14 =>
(gR h14 a6 9 0).bind fun a15 =>
(cO h14 a15 8 (F_X8_passTick h14 a15)).bind fun h16 =>
bl (v8 + 1) fun v17 =>
some (.inl (v17, h16)))
def F_X9_tick (h : Hp) (a0 : Nat) (vp1 : Int32) : Option (Int32 × Hp) :=
(F_X9_outside h vp1 1 40).bind fun v1 =>
if v1 = 0 then (
(gR h a0 9 2).bind fun a2 =>
(gR h a0 9 0).bind fun a3 =>
(cO h a2 4 (F_X4_keep h a2 a3)).bind fun h4 =>
(loopF (fun x => F_X9_tick_L26 a0 vp1 x.1 x.2) 6000 (0, h4)).bind fun h18 =>
(gR h18 a0 9 0).bind fun a19 =>
(gI h18 a19 8 7).bind fun v20 =>
(cO h18 a0 9 (F_X9_settle h18 a0 v20)).bind (un fun v21 h22 =>
some (v21, h22))) else (
some ((-3), h))
set_option maxRecDepth 100000 in
set_option maxHeartbeats 4000000 in
theorem c_X9_tick (l : Launch) (G : GG) (B : Nat) (h : Hp) (a0 : Nat) (vp1 : Int32) (r0 : Int32) (hr : Hp) (hF : F_X9_tick h a0 vp1 = some (r0, hr)) : CI l yX9_tick cX9_tick 3 .int 5 184 0 0 G B h [.ref (B + a0), .int vp1] r0 hr := by
  refine ent_i rfl (Nat.le_of_ble_eq_true rfl) ?_
  intro p e s m args below meth c ls Q CX hnm hret P hl
  have CX : Cxt p m c cX9_tick 3 s args RX9 G B := CX
  obtain ⟨⟨hx, hb, hml, hown, hts⟩, -, -⟩ := id CX
  replace hl : lv_has ls 3 [(0, .ref (B + a0)), (1, .int vp1)] := hl
  generalize s.heap = H at P ⊢
  generalize ([] : List Loc) = locs at P ⊢
  unfold F_X9_tick at hF
  refine lv_iload_n (pc := 0) hx hb dX9_tick_0 rfl (lv_at hl 1 rfl) ?_
  refine lv_iconst (pc := 1) (v := 1) hx hb dX9_tick_1 (by decide) ?_
  refine lv_bipush (pc := 2) (v := 40) hx hb dX9_tick_2 (by decide) ?_
  refine r_cSp (pc := 4) (As := [.int vp1, .int 1, .int 40]) (rest := []) CX P hl.1 hF ks_X9_111 (fun r q => c_X9_outside l G B _ _ _ _ _ q) rfl rfl ⟨Nat.le_of_ble_eq_true rfl, Nat.le_of_ble_eq_true rfl⟩ (Nat.le_of_ble_eq_true rfl) ⟨Nat.le_of_ble_eq_true rfl, Nat.le_of_ble_eq_true rfl⟩ dX9_tick_4 (fun v1 H locs P hF => ?_)
  refine lv_if_eq (pc := 7) (tgt := 13) hx hb dX9_tick_7 (by decide) (fun hc => ?_) (fun hc => ?_)
  · rw [if_pos hc] at hF
    refine lv_aload_n (pc := 13) hx hb dX9_tick_13 rfl (lv_at hl 0 rfl) ?_
    refine r_gR (pc := 14) CX P hF fl_X9_22 dX9_tick_14 (fun a2 hF => ?_)
    refine lv_aload_n (pc := 17) hx hb dX9_tick_17 rfl (lv_at hl 0 rfl) ?_
    refine r_gR (pc := 18) CX P hF fl_X9_10 dX9_tick_18 (fun a3 hF => ?_)
    refine r_cVv (pc := 21) (As := [.ref (B + a3)]) (rest := []) CX P hl.1 hF kv_X9_67 (fun h1 q => c_X4_keep l G B _ _ _ _ q) rfl rfl ⟨Nat.le_of_ble_eq_true rfl, Nat.le_of_ble_eq_true rfl⟩ (Nat.le_of_ble_eq_true rfl) ⟨Nat.le_of_ble_eq_true rfl, Nat.le_of_ble_eq_true rfl⟩ dX9_tick_21 (fun h4 H locs P hF => ?_)
    refine lv_iconst (pc := 24) (v := 0) hx hb dX9_tick_24 (by decide) ?_
    refine lv_istore_n (pc := 25) hx hb dX9_tick_25 rfl hl (by decide) rfl (fun ls hl => ?_)
    replace hl : lv_has ls 3 [(2, .int 0), (0, .ref (B + a0)), (1, .int vp1)] := hl
    obtain ⟨r5, hLp5, hK5⟩ := bd_some hF
    have hX5 : ∀ (h18 : Hp) (H : Heap) (locs : List Loc) (ls : Array Slot), Pic G B h18 s H locs → lv_has ls 3 [(0, .ref (B + a0))] → h18 = r5 → W p l e (rmM 5 184 0 0) s m args below meth c H locs 0 0 Q (F0 m 62 ls []) := by
      intro h18 H locs ls P hl er
      subst er
      have hF := hK5
      refine lv_aload_n (pc := 62) hx hb dX9_tick_62 rfl (lv_at hl 0 rfl) ?_
      refine lv_aload_n (pc := 63) hx hb dX9_tick_63 rfl (lv_at hl 0 rfl) ?_
      refine r_gR (pc := 64) CX P hF fl_X9_10 dX9_tick_64 (fun a19 hF => ?_)
      refine r_gI (pc := 67) CX P hF fl_X9_221 dX9_tick_67 (fun v20 hF => ?_)
      refine r_cVi (pc := 70) (As := [.int v20]) (rest := []) CX P hl.1 hF kv_X9_85 (fun r h1 q => c_X9_settle l G B _ _ _ _ _ q) rfl rfl ⟨Nat.le_of_ble_eq_true rfl, Nat.le_of_ble_eq_true rfl⟩ (Nat.le_of_ble_eq_true rfl) ⟨Nat.le_of_ble_eq_true rfl, Nat.le_of_ble_eq_true rfl⟩ dX9_tick_70 (fun v21 h22 H locs P hF => ?_)
      replace hF := un_i hF
      cases hF
      exact hret _ _ _ _ P rfl dX9_tick_73
    have hL5 : ∀ (n : Nat) (v8 : Int32) (h9 : Hp) (H : Heap) (locs : List Loc) (ls : Array Slot), Pic G B h9 s H locs → lv_has ls 3 [(0, .ref (B + a0)), (1, .int vp1), (2, .int v8)] → loopF (fun x => F_X9_tick_L26 a0 vp1 x.1 x.2) n (v8, h9) = some r5 → W p l e (rmM 5 184 0 0) s m args below meth c H locs 0 0 Q (F0 m 26 ls []) := by
      intro n
      induction n with
      | zero => intro v8 h9 H locs ls P hl hq; cases hq
      | succ n ih =>
        intro v8 h9 H locs ls P hl hq
        obtain ⟨z5, hS5, hI5, hR5⟩ := loop_some hq
        have hF : F_X9_tick_L26 a0 vp1 v8 h9 = some z5 := hS5
        unfold F_X9_tick_L26 at hF
        refine lv_iload_n (pc := 26) hx hb dX9_tick_26 rfl (lv_at hl 2 rfl) ?_
        refine lv_iload_n (pc := 27) hx hb dX9_tick_27 rfl (lv_at hl 1 rfl) ?_
        refine lv_icmp_ge (pc := 28) (tgt := 62) hx hb dX9_tick_28 (by decide) (fun hc => ?_) (fun hc => ?_)
        · rw [if_pos hc] at hF
          exact hX5 _ _ _ _ P (lv_sub hl [0] rfl) (hR5 _ (Option.some.inj hF).symm)
        · rw [if_neg hc] at hF
          refine lv_aload_n (pc := 31) hx hb dX9_tick_31 rfl (lv_at hl 0 rfl) ?_
          refine r_gR (pc := 32) CX P hF fl_X9_49 dX9_tick_32 (fun a10 hF => ?_)
          refine lv_aload_n (pc := 35) hx hb dX9_tick_35 rfl (lv_at hl 0 rfl) ?_
          refine r_gR (pc := 36) CX P hF fl_X9_10 dX9_tick_36 (fun a11 hF => ?_)
          refine r_cVv (pc := 39) (As := [.ref (B + a11)]) (rest := []) CX P hl.1 hF kv_X9_212 (fun h1 q => c_X2_doWork l G B _ _ _ _ q) rfl rfl ⟨Nat.le_of_ble_eq_true rfl, Nat.le_of_ble_eq_true rfl⟩ (Nat.le_of_ble_eq_true rfl) ⟨Nat.le_of_ble_eq_true rfl, Nat.le_of_ble_eq_true rfl⟩ dX9_tick_39 (fun h12 H locs P hF => ?_)
          refine lv_aload_n (pc := 42) hx hb dX9_tick_42 rfl (lv_at hl 0 rfl) ?_
          refine r_gR (pc := 43) CX P hF fl_X9_10 dX9_tick_43 (fun a13 hF => ?_)
          refine r_cVv (pc := 46) (As := []) (rest := []) CX P hl.1 hF kv_X9_215 (fun h1 q => c_X8_noteStalls l G B _ _ _ q) rfl rfl ⟨Nat.le_of_ble_eq_true rfl, Nat.le_of_ble_eq_true rfl⟩ (Nat.le_of_ble_eq_true rfl) ⟨Nat.le_of_ble_eq_true rfl, Nat.le_of_ble_eq_true rfl⟩ dX9_tick_46 (fun h14 H locs P hF => ?_)
          refine lv_aload_n (pc := 49) hx hb dX9_tick_49 rfl (lv_at hl 0 rfl) ?_
          refine r_gR (pc := 50) CX P hF fl_X9_10 dX9_tick_50 (fun a15 hF => ?_)
          refine r_cVv (pc := 53) (As := []) (rest := []) CX P hl.1 hF kv_X9_218 (fun h1 q => c_X8_passTick l G B _ _ _ q) rfl rfl ⟨Nat.le_of_ble_eq_true rfl, Nat.le_of_ble_eq_true rfl⟩ (Nat.le_of_ble_eq_true rfl) ⟨Nat.le_of_ble_eq_true rfl, Nat.le_of_ble_eq_true rfl⟩ dX9_tick_53 (fun h16 H locs P hF => ?_)
          obtain ⟨v17, ev17, hF⟩ := bl_o hF
          refine lv_iinc (pc := 56) (k := 2) (v := v17) hx hb dX9_tick_56 hl rfl ev17 (by decide) rfl (fun ls hl => ?_)
          replace hl : lv_has ls 3 [(2, .int v17), (0, .ref (B + a0)), (1, .int vp1)] := hl
          refine lv_goto (pc := 59) (tgt := 26) hx hb dX9_tick_59 (by decide) ?_
          exact ih _ _ _ _ _ P (lv_sub hl [1, 2, 0] rfl) (hI5 _ (Option.some.inj hF).symm)
    exact hL5 _ _ _ _ _ _ P (lv_sub hl [1, 2, 0] rfl) hLp5
  · rw [if_neg hc] at hF
    refine lv_bipush (pc := 10) (v := (-3)) hx hb dX9_tick_10 (by decide) ?_
    cases hF
    exact hret _ _ _ _ P rfl dX9_tick_12
def F_X9_trigger (h : Hp) (a0 : Nat) (vp1 : Int32) (vp2 : Int32) (vp3 : Int32) : Option (Int32 × Hp) :=
(gR h a0 9 0).bind fun a1 =>
(gR h a1 8 0).bind fun a2 =>
(cO h a2 6 (F_X6_has h a2 vp1)).bind fun v3 =>
if v3 = 0 then (
some ((-2), h)) else (
(F_X9_outside h vp2 1 40).bind fun v4 =>
if v4 = 0 then (
(F_X9_outside h vp3 1 vp2).bind fun v5 =>
if v5 = 0 then (
(gR h a0 9 0).bind fun a6 =>
(gR h a6 8 3).bind fun a7 =>
(gI h a7 7 4).bind fun v8 =>
if v8 < 4 then (
(gR h a0 9 2).bind fun a9 =>
(gR h a0 9 0).bind fun a10 =>
(cO h a9 4 (F_X4_keep h a9 a10)).bind fun h11 =>
(gR h11 a0 9 0).bind fun a12 =>
(gR h11 a12 8 3).bind fun a13 =>
(cO h11 a13 7 (F_X7_add h11 a13 vp1 vp2 vp3)).bind (un fun v14 h15 =>
(cO h15 a0 9 (F_X9_settle h15 a0 v14)).bind (un fun v16 h17 =>
some (v16, h17)))) else (
some ((-4), h))) else (
some ((-3), h))) else (
some ((-3), h)))
set_option maxRecDepth 100000 in
set_option maxHeartbeats 4000000 in
theorem c_X9_trigger (l : Launch) (G : GG) (B : Nat) (h : Hp) (a0 : Nat) (vp1 : Int32) (vp2 : Int32) (vp3 : Int32) (r0 : Int32) (hr : Hp) (hF : F_X9_trigger h a0 vp1 vp2 vp3 = some (r0, hr)) : CI l yX9_trigger cX9_trigger 4 .int 5 184 0 0 G B h [.ref (B + a0), .int vp1, .int vp2, .int vp3] r0 hr := by
  refine ent_i rfl (Nat.le_of_ble_eq_true rfl) ?_
  intro p e s m args below meth c ls Q CX hnm hret P hl
  have CX : Cxt p m c cX9_trigger 4 s args RX9 G B := CX
  obtain ⟨⟨hx, hb, hml, hown, hts⟩, -, -⟩ := id CX
  replace hl : lv_has ls 4 [(0, .ref (B + a0)), (1, .int vp1), (2, .int vp2), (3, .int vp3)] := hl
  generalize s.heap = H at P ⊢
  generalize ([] : List Loc) = locs at P ⊢
  unfold F_X9_trigger at hF
  refine lv_aload_n (pc := 0) hx hb dX9_trigger_0 rfl (lv_at hl 0 rfl) ?_
  refine r_gR (pc := 1) CX P hF fl_X9_10 dX9_trigger_1 (fun a1 hF => ?_)
  refine r_gR (pc := 4) CX P hF fl_X9_53 dX9_trigger_4 (fun a2 hF => ?_)
  refine lv_iload_n (pc := 7) hx hb dX9_trigger_7 rfl (lv_at hl 1 rfl) ?_
  refine r_cVp (pc := 8) (As := [.int vp1]) (rest := []) CX P hl.1 hF kv_X9_57 (fun r q => c_X6_has l G B _ _ _ _ q) rfl rfl ⟨Nat.le_of_ble_eq_true rfl, Nat.le_of_ble_eq_true rfl⟩ (Nat.le_of_ble_eq_true rfl) ⟨Nat.le_of_ble_eq_true rfl, Nat.le_of_ble_eq_true rfl⟩ dX9_trigger_8 (fun v3 H locs P hF => ?_)
  refine lv_if_ne (pc := 11) (tgt := 17) hx hb dX9_trigger_11 (by decide) (fun hc => ?_) (fun hc => ?_)
  · rw [if_neg hc] at hF
    refine lv_iload_n (pc := 17) hx hb dX9_trigger_17 rfl (lv_at hl 2 rfl) ?_
    refine lv_iconst (pc := 18) (v := 1) hx hb dX9_trigger_18 (by decide) ?_
    refine lv_bipush (pc := 19) (v := 40) hx hb dX9_trigger_19 (by decide) ?_
    refine r_cSp (pc := 21) (As := [.int vp2, .int 1, .int 40]) (rest := []) CX P hl.1 hF ks_X9_111 (fun r q => c_X9_outside l G B _ _ _ _ _ q) rfl rfl ⟨Nat.le_of_ble_eq_true rfl, Nat.le_of_ble_eq_true rfl⟩ (Nat.le_of_ble_eq_true rfl) ⟨Nat.le_of_ble_eq_true rfl, Nat.le_of_ble_eq_true rfl⟩ dX9_trigger_21 (fun v4 H locs P hF => ?_)
    refine lv_if_ne (pc := 24) (tgt := 36) hx hb dX9_trigger_24 (by decide) (fun hc => ?_) (fun hc => ?_)
    · rw [if_neg hc] at hF
      refine lv_bipush (pc := 36) (v := (-3)) hx hb dX9_trigger_36 (by decide) ?_
      cases hF
      exact hret _ _ _ _ P rfl dX9_trigger_38
    · rw [if_pos hc] at hF
      refine lv_iload_n (pc := 27) hx hb dX9_trigger_27 rfl (lv_at hl 3 rfl) ?_
      refine lv_iconst (pc := 28) (v := 1) hx hb dX9_trigger_28 (by decide) ?_
      refine lv_iload_n (pc := 29) hx hb dX9_trigger_29 rfl (lv_at hl 2 rfl) ?_
      refine r_cSp (pc := 30) (As := [.int vp3, .int 1, .int vp2]) (rest := []) CX P hl.1 hF ks_X9_111 (fun r q => c_X9_outside l G B _ _ _ _ _ q) rfl rfl ⟨Nat.le_of_ble_eq_true rfl, Nat.le_of_ble_eq_true rfl⟩ (Nat.le_of_ble_eq_true rfl) ⟨Nat.le_of_ble_eq_true rfl, Nat.le_of_ble_eq_true rfl⟩ dX9_trigger_30 (fun v5 H locs P hF => ?_)
      refine lv_if_eq (pc := 33) (tgt := 39) hx hb dX9_trigger_33 (by decide) (fun hc => ?_) (fun hc => ?_)
      · rw [if_pos hc] at hF
        refine lv_aload_n (pc := 39) hx hb dX9_trigger_39 rfl (lv_at hl 0 rfl) ?_
        refine r_gR (pc := 40) CX P hF fl_X9_10 dX9_trigger_40 (fun a6 hF => ?_)
        refine r_gR (pc := 43) CX P hF fl_X9_102 dX9_trigger_43 (fun a7 hF => ?_)
        refine r_gI (pc := 46) CX P hF fl_X9_224 dX9_trigger_46 (fun v8 hF => ?_)
        refine lv_iconst (pc := 49) (v := 4) hx hb dX9_trigger_49 (by decide) ?_
        refine lv_icmp_lt (pc := 50) (tgt := 56) hx hb dX9_trigger_50 (by decide) (fun hc => ?_) (fun hc => ?_)
        · rw [if_pos hc] at hF
          refine lv_aload_n (pc := 56) hx hb dX9_trigger_56 rfl (lv_at hl 0 rfl) ?_
          refine r_gR (pc := 57) CX P hF fl_X9_22 dX9_trigger_57 (fun a9 hF => ?_)
          refine lv_aload_n (pc := 60) hx hb dX9_trigger_60 rfl (lv_at hl 0 rfl) ?_
          refine r_gR (pc := 61) CX P hF fl_X9_10 dX9_trigger_61 (fun a10 hF => ?_)
          refine r_cVv (pc := 64) (As := [.ref (B + a10)]) (rest := []) CX P hl.1 hF kv_X9_67 (fun h1 q => c_X4_keep l G B _ _ _ _ q) rfl rfl ⟨Nat.le_of_ble_eq_true rfl, Nat.le_of_ble_eq_true rfl⟩ (Nat.le_of_ble_eq_true rfl) ⟨Nat.le_of_ble_eq_true rfl, Nat.le_of_ble_eq_true rfl⟩ dX9_trigger_64 (fun h11 H locs P hF => ?_)
          refine lv_aload_n (pc := 67) hx hb dX9_trigger_67 rfl (lv_at hl 0 rfl) ?_
          refine lv_aload_n (pc := 68) hx hb dX9_trigger_68 rfl (lv_at hl 0 rfl) ?_
          refine r_gR (pc := 69) CX P hF fl_X9_10 dX9_trigger_69 (fun a12 hF => ?_)
          refine r_gR (pc := 72) CX P hF fl_X9_102 dX9_trigger_72 (fun a13 hF => ?_)
          refine lv_iload_n (pc := 75) hx hb dX9_trigger_75 rfl (lv_at hl 1 rfl) ?_
          refine lv_iload_n (pc := 76) hx hb dX9_trigger_76 rfl (lv_at hl 2 rfl) ?_
          refine lv_iload_n (pc := 77) hx hb dX9_trigger_77 rfl (lv_at hl 3 rfl) ?_
          refine r_cVi (pc := 78) (As := [.int vp1, .int vp2, .int vp3]) (rest := [.ref (B + a0)]) CX P hl.1 hF kv_X9_227 (fun r h1 q => c_X7_add l G B _ _ _ _ _ _ _ q) rfl rfl ⟨Nat.le_of_ble_eq_true rfl, Nat.le_of_ble_eq_true rfl⟩ (Nat.le_of_ble_eq_true rfl) ⟨Nat.le_of_ble_eq_true rfl, Nat.le_of_ble_eq_true rfl⟩ dX9_trigger_78 (fun v14 h15 H locs P hF => ?_)
          replace hF := un_i hF
          refine r_cVi (pc := 81) (As := [.int v14]) (rest := []) CX P hl.1 hF kv_X9_85 (fun r h1 q => c_X9_settle l G B _ _ _ _ _ q) rfl rfl ⟨Nat.le_of_ble_eq_true rfl, Nat.le_of_ble_eq_true rfl⟩ (Nat.le_of_ble_eq_true rfl) ⟨Nat.le_of_ble_eq_true rfl, Nat.le_of_ble_eq_true rfl⟩ dX9_trigger_81 (fun v16 h17 H locs P hF => ?_)
          replace hF := un_i hF
          cases hF
          exact hret _ _ _ _ P rfl dX9_trigger_84
        · rw [if_neg hc] at hF
          refine lv_bipush (pc := 53) (v := (-4)) hx hb dX9_trigger_53 (by decide) ?_
          cases hF
          exact hret _ _ _ _ P rfl dX9_trigger_55
      · rw [if_neg hc] at hF
        refine lv_bipush (pc := 36) (v := (-3)) hx hb dX9_trigger_36 (by decide) ?_
        cases hF
        exact hret _ _ _ _ P rfl dX9_trigger_38
  · rw [if_pos hc] at hF
    refine lv_bipush (pc := 14) (v := (-2)) hx hb dX9_trigger_14 (by decide) ?_
    cases hF
    exact hret _ _ _ _ P rfl dX9_trigger_16
