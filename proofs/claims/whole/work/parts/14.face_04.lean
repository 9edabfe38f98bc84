def F_X9_taken (h : Hp) (a0 : Nat) (vp1 : Int32) (vp2 : Int32) (vp3 : Int32) (vp4 : Int32) : Option (Int32 × Hp) :=
(cO h a0 9 (F_X9_isBelow h a0 vp1 vp2)).bind fun v1 =>
if v1 = 0 then (
some ((-2), h)) else (
(F_X9_outside h vp4 0 1).bind fun v2 =>
if v2 = 0 then (
(F_X9_outside h vp3 1 999).bind fun v3 =>
if v3 = 0 then (
(gR h a0 9 1).bind fun a4 =>
(gR h a0 9 0).bind fun a5 =>
(cO h a4 8 (F_X8_copyFrom h a4 a5)).bind fun h6 =>
(gR h6 a0 9 4).bind fun a7 =>
(gR h6 a0 9 1).bind fun a8 =>
(cO h6 a7 5 (F_X5_takePages h6 a7 a8 vp2 vp3)).bind (un fun v9 h10 =>
(gR h10 a0 9 0).bind fun a11 =>
(gR h10 a11 8 1).bind fun a12 =>
(cO h10 a12 0 (F_X0_ownPages h10 a12 vp1)).bind fun v13 =>
(gR h10 a0 9 1).bind fun a14 =>
(gR h10 a14 8 1).bind fun a15 =>
(cO h10 a15 0 (F_X0_ownPages h10 a15 vp1)).bind fun v16 =>
bl (v13 - v16) fun v17 =>
(gR h10 a0 9 0).bind fun a18 =>
(gR h10 a18 8 0).bind fun a19 =>
(gR h10 a19 6 4).bind fun a20 =>
(aI h10 a20 vp1).bind fun v21 =>
(gR h10 a0 9 1).bind fun a22 =>
(gR h10 a22 8 0).bind fun a23 =>
(gR h10 a23 6 4).bind fun a24 =>
(aI h10 a24 vp1).bind fun v25 =>
bl (v21 - v25) fun v26 =>
if vp4 = 0 then (
some (v17, h10)) else (
some ((v17 + v26), h10)))) else (
some ((-3), h))) else (
some ((-2), h)))
set_option maxRecDepth 100000 in
set_option maxHeartbeats 4000000 in
theorem c_X9_taken (l : Launch) (G : GG) (B : Nat) (h : Hp) (a0 : Nat) (vp1 : Int32) (vp2 : Int32) (vp3 : Int32) (vp4 : Int32) (r0 : Int32) (hr : Hp) (hF : F_X9_taken h a0 vp1 vp2 vp3 vp4 = some (r0, hr)) : CI l yX9_taken cX9_taken 7 .int 4 142 0 0 G B h [.ref (B + a0), .int vp1, .int vp2, .int vp3, .int vp4] r0 hr := by
  refine ent_i rfl (Nat.le_of_ble_eq_true rfl) ?_
  intro p e s m args below meth c ls Q CX hnm hret P hl
  have CX : Cxt p m c cX9_taken 7 s args RX9 G B := CX
  obtain ⟨⟨hx, hb, hml, hown, hts⟩, -, -⟩ := id CX
  replace hl : lv_has ls 7 [(0, .ref (B + a0)), (1, .int vp1), (2, .int vp2), (3, .int vp3), (4, .int vp4)] := hl
  generalize s.heap = H at P ⊢
  generalize ([] : List Loc) = locs at P ⊢
  unfold F_X9_taken at hF
  refine lv_aload_n (pc := 0) hx hb dX9_taken_0 rfl (lv_at hl 0 rfl) ?_
  refine lv_iload_n (pc := 1) hx hb dX9_taken_1 rfl (lv_at hl 1 rfl) ?_
  refine lv_iload_n (pc := 2) hx hb dX9_taken_2 rfl (lv_at hl 2 rfl) ?_
  refine r_cVp (pc := 3) (As := [.int vp1, .int vp2]) (rest := []) CX P hl.1 hF kv_X9_257 (fun r q => c_X9_isBelow l G B _ _ _ _ _ q) rfl rfl ⟨Nat.le_of_ble_eq_true rfl, Nat.le_of_ble_eq_true rfl⟩ (Nat.le_of_ble_eq_true rfl) ⟨Nat.le_of_ble_eq_true rfl, Nat.le_of_ble_eq_true rfl⟩ dX9_taken_3 (fun v1 H locs P hF => ?_)
  refine lv_if_eq (pc := 6) (tgt := 19) hx hb dX9_taken_6 (by decide) (fun hc => ?_) (fun hc => ?_)
  · rw [if_pos hc] at hF
    refine lv_bipush (pc := 19) (v := (-2)) hx hb dX9_taken_19 (by decide) ?_
    cases hF
    exact hret _ _ _ _ P rfl dX9_taken_21
  · rw [if_neg hc] at hF
    refine lv_iload (pc := 9) hx hb dX9_taken_9 (lv_at hl 4 rfl) ?_
    refine lv_iconst (pc := 11) (v := 0) hx hb dX9_taken_11 (by decide) ?_
    refine lv_iconst (pc := 12) (v := 1) hx hb dX9_taken_12 (by decide) ?_
    refine r_cSp (pc := 13) (As := [.int vp4, .int 0, .int 1]) (rest := []) CX P hl.1 hF ks_X9_111 (fun r q => c_X9_outside l G B _ _ _ _ _ q) rfl rfl ⟨Nat.le_of_ble_eq_true rfl, Nat.le_of_ble_eq_true rfl⟩ (Nat.le_of_ble_eq_true rfl) ⟨Nat.le_of_ble_eq_true rfl, Nat.le_of_ble_eq_true rfl⟩ dX9_taken_13 (fun v2 H locs P hF => ?_)
    refine lv_if_eq (pc := 16) (tgt := 22) hx hb dX9_taken_16 (by decide) (fun hc => ?_) (fun hc => ?_)
    · rw [if_pos hc] at hF
      refine lv_iload_n (pc := 22) hx hb dX9_taken_22 rfl (lv_at hl 3 rfl) ?_
      refine lv_iconst (pc := 23) (v := 1) hx hb dX9_taken_23 (by decide) ?_
      refine lv_sipush (pc := 24) (v := 999) hx hb dX9_taken_24 (by decide) ?_
      refine r_cSp (pc := 27) (As := [.int vp3, .int 1, .int 999]) (rest := []) CX P hl.1 hF ks_X9_111 (fun r q => c_X9_outside l G B _ _ _ _ _ q) rfl rfl ⟨Nat.le_of_ble_eq_true rfl, Nat.le_of_ble_eq_true rfl⟩ (Nat.le_of_ble_eq_true rfl) ⟨Nat.le_of_ble_eq_true rfl, Nat.le_of_ble_eq_true rfl⟩ dX9_taken_27 (fun v3 H locs P hF => ?_)
      refine lv_if_eq (pc := 30) (tgt := 36) hx hb dX9_taken_30 (by decide) (fun hc => ?_) (fun hc => ?_)
      · rw [if_pos hc] at hF
        refine lv_aload_n (pc := 36) hx hb dX9_taken_36 rfl (lv_at hl 0 rfl) ?_
        refine r_gR (pc := 37) CX P hF fl_X9_16 dX9_taken_37 (fun a4 hF => ?_)
        refine lv_aload_n (pc := 40) hx hb dX9_taken_40 rfl (lv_at hl 0 rfl) ?_
        refine r_gR (pc := 41) CX P hF fl_X9_10 dX9_taken_41 (fun a5 hF => ?_)
        refine r_cVv (pc := 44) (As := [.ref (B + a5)]) (rest := []) CX P hl.1 hF kv_X9_314 (fun h1 q => c_X8_copyFrom l G B _ _ _ _ q) rfl rfl ⟨Nat.le_of_ble_eq_true rfl, Nat.le_of_ble_eq_true rfl⟩ (Nat.le_of_ble_eq_true rfl) ⟨Nat.le_of_ble_eq_true rfl, Nat.le_of_ble_eq_true rfl⟩ dX9_taken_44 (fun h6 H locs P hF => ?_)
        refine lv_aload_n (pc := 47) hx hb dX9_taken_47 rfl (lv_at hl 0 rfl) ?_
        refine r_gR (pc := 48) CX P hF fl_X9_33 dX9_taken_48 (fun a7 hF => ?_)
        refine lv_aload_n (pc := 51) hx hb dX9_taken_51 rfl (lv_at hl 0 rfl) ?_
        refine r_gR (pc := 52) CX P hF fl_X9_16 dX9_taken_52 (fun a8 hF => ?_)
        refine lv_iload_n (pc := 55) hx hb dX9_taken_55 rfl (lv_at hl 2 rfl) ?_
        refine lv_iload_n (pc := 56) hx hb dX9_taken_56 rfl (lv_at hl 3 rfl) ?_
        refine r_cVi (pc := 57) (As := [.ref (B + a8), .int vp2, .int vp3]) (rest := []) CX P hl.1 hF kv_X9_193 (fun r h1 q => c_X5_takePages l G B _ _ _ _ _ _ _ q) rfl rfl ⟨Nat.le_of_ble_eq_true rfl, Nat.le_of_ble_eq_true rfl⟩ (Nat.le_of_ble_eq_true rfl) ⟨Nat.le_of_ble_eq_true rfl, Nat.le_of_ble_eq_true rfl⟩ dX9_taken_57 (fun v9 h10 H locs P hF => ?_)
        replace hF := un_i hF
        refine lv_pop (pc := 60) hx hb dX9_taken_60 rfl ?_
        refine lv_aload_n (pc := 61) hx hb dX9_taken_61 rfl (lv_at hl 0 rfl) ?_
        refine r_gR (pc := 62) CX P hF fl_X9_10 dX9_taken_62 (fun a11 hF => ?_)
        refine r_gR (pc := 65) CX P hF fl_X9_129 dX9_taken_65 (fun a12 hF => ?_)
        refine lv_iload_n (pc := 68) hx hb dX9_taken_68 rfl (lv_at hl 1 rfl) ?_
        refine r_cVp (pc := 69) (As := [.int vp1]) (rest := []) CX P hl.1 hF kv_X9_233 (fun r q => c_X0_ownPages l G B _ _ _ _ q) rfl rfl ⟨Nat.le_of_ble_eq_true rfl, Nat.le_of_ble_eq_true rfl⟩ (Nat.le_of_ble_eq_true rfl) ⟨Nat.le_of_ble_eq_true rfl, Nat.le_of_ble_eq_true rfl⟩ dX9_taken_69 (fun v13 H locs P hF => ?_)
        refine lv_aload_n (pc := 72) hx hb dX9_taken_72 rfl (lv_at hl 0 rfl) ?_
        refine r_gR (pc := 73) CX P hF fl_X9_16 dX9_taken_73 (fun a14 hF => ?_)
        refine r_gR (pc := 76) CX P hF fl_X9_129 dX9_taken_76 (fun a15 hF => ?_)
        refine lv_iload_n (pc := 79) hx hb dX9_taken_79 rfl (lv_at hl 1 rfl) ?_
        refine r_cVp (pc := 80) (As := [.int vp1]) (rest := [.int v13]) CX P hl.1 hF kv_X9_233 (fun r q => c_X0_ownPages l G B _ _ _ _ q) rfl rfl ⟨Nat.le_of_ble_eq_true rfl, Nat.le_of_ble_eq_true rfl⟩ (Nat.le_of_ble_eq_true rfl) ⟨Nat.le_of_ble_eq_true rfl, Nat.le_of_ble_eq_true rfl⟩ dX9_taken_80 (fun v16 H locs P hF => ?_)
        refine lv_isub (pc := 83) hx hb dX9_taken_83 ?_
        refine lv_topi (fun v17 ev17 => ?_)
        replace hF := bl_e hF ev17
        refine lv_istore (pc := 84) hx hb dX9_taken_84 hl (by decide) rfl (fun ls hl => ?_)
        replace hl : lv_has ls 7 [(5, .int v17), (0, .ref (B + a0)), (1, .int vp1), (2, .int vp2), (3, .int vp3), (4, .int vp4)] := hl
        refine lv_aload_n (pc := 86) hx hb dX9_taken_86 rfl (lv_at hl 1 rfl) ?_
        refine r_gR (pc := 87) CX P hF fl_X9_10 dX9_taken_87 (fun a18 hF => ?_)
        refine r_gR (pc := 90) CX P hF fl_X9_53 dX9_taken_90 (fun a19 hF => ?_)
        refine r_gR (pc := 93) CX P hF fl_X9_236 dX9_taken_93 (fun a20 hF => ?_)
        refine lv_iload_n (pc := 96) hx hb dX9_taken_96 rfl (lv_at hl 2 rfl) ?_
        refine r_aI (pc := 97) CX P hF dX9_taken_97 (fun v21 hF => ?_)
        refine lv_aload_n (pc := 98) hx hb dX9_taken_98 rfl (lv_at hl 1 rfl) ?_
        refine r_gR (pc := 99) CX P hF fl_X9_16 dX9_taken_99 (fun a22 hF => ?_)
        refine r_gR (pc := 102) CX P hF fl_X9_53 dX9_taken_102 (fun a23 hF => ?_)
        refine r_gR (pc := 105) CX P hF fl_X9_236 dX9_taken_105 (fun a24 hF => ?_)
        refine lv_iload_n (pc := 108) hx hb dX9_taken_108 rfl (lv_at hl 2 rfl) ?_
        refine r_aI (pc := 109) CX P hF dX9_taken_109 (fun v25 hF => ?_)
        refine lv_isub (pc := 110) hx hb dX9_taken_110 ?_
        refine lv_topi (fun v26 ev26 => ?_)
        replace hF := bl_e hF ev26
        refine lv_istore (pc := 111) hx hb dX9_taken_111 hl (by decide) rfl (fun ls hl => ?_)
        replace hl : lv_has ls 7 [(6, .int v26), (5, .int v17), (0, .ref (B + a0)), (1, .int vp1), (2, .int vp2), (3, .int vp3), (4, .int vp4)] := hl
        refine lv_iload (pc := 113) hx hb dX9_taken_113 (lv_at hl 6 rfl) ?_
        refine lv_if_ne (pc := 115) (tgt := 123) hx hb dX9_taken_115 (by decide) (fun hc => ?_) (fun hc => ?_)
        · rw [if_neg hc] at hF
          refine lv_iload (pc := 123) hx hb dX9_taken_123 (lv_at hl 1 rfl) ?_
          refine lv_iload (pc := 125) hx hb dX9_taken_125 (lv_at hl 0 rfl) ?_
          refine lv_iadd (pc := 127) hx hb dX9_taken_127 ?_
          cases hF
          exact hret _ _ _ _ P rfl dX9_taken_128
        · rw [if_pos hc] at hF
          refine lv_iload (pc := 118) hx hb dX9_taken_118 (lv_at hl 1 rfl) ?_
          refine lv_goto (pc := 120) (tgt := 128) hx hb dX9_taken_120 (by decide) ?_
          cases hF
          exact hret _ _ _ _ P rfl dX9_taken_128
      · rw [if_neg hc] at hF
        refine lv_bipush (pc := 33) (v := (-3)) hx hb dX9_taken_33 (by decide) ?_
        cases hF
        exact hret _ _ _ _ P rfl dX9_taken_35
    · rw [if_neg hc] at hF
      refine lv_bipush (pc := 19) (v := (-2)) hx hb dX9_taken_19 (by decide) ?_
      cases hF
      exact hret _ _ _ _ P rfl dX9_taken_21
def F_X9_place_L24 (h10 : Hp) (a5 : Nat) (v6 : Int32) (v7 : Int32) (v8 : Int32) (v9 : Int32) : Option ((Int32 × Int32 × Int32) ⊕ (Int32)) :=
if 12 ≤ v9 then (
some (.inr v7)) else (
(gR h10 a5 9 0).bind fun a11 =>
(gR h10 a11 8 0).bind fun a12 =>
(cO h10 a12 6 (F_X6_has h10 a12 v9)).bind fun v13 =>
(if v13 = 0 then (
some (0 : Int32)) else (
(gR h10 a5 9 0).bind fun a15 =>
(gR h10 a15 8 1).bind fun a16 =>
(gR h10 a16 0 0).bind fun a17 =>
(aI h10 a17 v6).bind fun v18 =>
if v18 = v9 then (
some (0 : Int32)) else (
some (1 : Int32)))).bind fun v19 =>
(if v19 = 0 then (
some ((-1) : Int32)) else (
(gR h10 a5 9 5).bind fun a21 =>
(gR h10 a5 9 0).bind fun a22 =>
(cO h10 a21 3 (F_X3_leftBehindMove h10 a21 a22 v6 v9)).bind fun v23 =>
some (v23 : Int32))).bind fun v24 =>
if v24 ≤ v8 then (
bl (v9 + 1) fun v25 =>
some (.inl (v7, v8, v25))) else (
bl (v9 + 1) fun v26 =>
some (.inl (v9, v24, v26))))
def F_X9_place (h : Hp) (a0 : Nat) (vp1 : Int32) : Option (Int32) :=
(gR h a0 9 0).bind fun a1 =>
(gR h a1 8 1).bind fun a2 =>
(cO h a2 0 (F_X0_has h a2 vp1)).bind fun v3 =>
if v3 = 0 then (
some (-2)) else (
(loopF (fun x => F_X9_place_L24 h a0 vp1 x.1 x.2.1 x.2.2) 6000 ((-1), (-1), 0)).bind fun v27 =>
some v27)
set_option maxRecDepth 100000 in
set_option maxHeartbeats 4000000 in
theorem c_X9_place (l : Launch) (G : GG) (B : Nat) (h : Hp) (a0 : Nat) (vp1 : Int32) (r0 : Int32) (hF : F_X9_place h a0 vp1 = some r0) : CI l yX9_place cX9_place 7 .int 5 126 0 0 G B h [.ref (B + a0), .int vp1] r0 h := by
  refine ent_i rfl (Nat.le_of_ble_eq_true rfl) ?_
  intro p e s m args below meth c ls Q CX hnm hret P hl
  have CX : Cxt p m c cX9_place 7 s args RX9 G B := CX
  obtain ⟨⟨hx, hb, hml, hown, hts⟩, -, -⟩ := id CX
  replace hl : lv_has ls 7 [(0, .ref (B + a0)), (1, .int vp1)] := hl
  generalize s.heap = H at P ⊢
  generalize ([] : List Loc) = locs at P ⊢
  unfold F_X9_place at hF
  refine lv_aload_n (pc := 0) hx hb dX9_place_0 rfl (lv_at hl 0 rfl) ?_
  refine r_gR (pc := 1) CX P hF fl_X9_10 dX9_place_1 (fun a1 hF => ?_)
  refine r_gR (pc := 4) CX P hF fl_X9_129 dX9_place_4 (fun a2 hF => ?_)
  refine lv_iload_n (pc := 7) hx hb dX9_place_7 rfl (lv_at hl 1 rfl) ?_
  refine r_cVp (pc := 8) (As := [.int vp1]) (rest := []) CX P hl.1 hF kv_X9_133 (fun r q => c_X0_has l G B _ _ _ _ q) rfl rfl ⟨Nat.le_of_ble_eq_true rfl, Nat.le_of_ble_eq_true rfl⟩ (Nat.le_of_ble_eq_true rfl) ⟨Nat.le_of_ble_eq_true rfl, Nat.le_of_ble_eq_true rfl⟩ dX9_place_8 (fun v3 H locs P hF => ?_)
  refine lv_if_ne (pc := 11) (tgt := 17) hx hb dX9_place_11 (by decide) (fun hc => ?_) (fun hc => ?_)
  · rw [if_neg hc] at hF
    refine lv_iconst (pc := 17) (v := (-1)) hx hb dX9_place_17 (by decide) ?_
    refine lv_istore_n (pc := 18) hx hb dX9_place_18 rfl hl (by decide) rfl (fun ls hl => ?_)
    replace hl : lv_has ls 7 [(2, .int (-1)), (0, .ref (B + a0)), (1, .int vp1)] := hl
    refine lv_iconst (pc := 19) (v := (-1)) hx hb dX9_place_19 (by decide) ?_
    refine lv_istore_n (pc := 20) hx hb dX9_place_20 rfl hl (by decide) rfl (fun ls hl => ?_)
    replace hl : lv_has ls 7 [(3, .int (-1)), (2, .int (-1)), (0, .ref (B + a0)), (1, .int vp1)] := hl
    refine lv_iconst (pc := 21) (v := 0) hx hb dX9_place_21 (by decide) ?_
    refine lv_istore (pc := 22) hx hb dX9_place_22 hl (by decide) rfl (fun ls hl => ?_)
    replace hl : lv_has ls 7 [(4, .int 0), (3, .int (-1)), (2, .int (-1)), (0, .ref (B + a0)), (1, .int vp1)] := hl
    obtain ⟨r4, hLp4, hK4⟩ := bd_some hF
    have hX4 : ∀ (v27 : Int32) (H : Heap) (locs : List Loc) (ls : Array Slot), Pic G B h s H locs → lv_has ls 7 [(2, .int v27)] → v27 = r4 → W p l e (rmM 5 126 0 0) s m args below meth c H locs 0 0 Q (F0 m 113 ls []) := by
      intro v27 H locs ls P hl er
      subst er
      have hF := hK4
      refine lv_iload_n (pc := 113) hx hb dX9_place_113 rfl (lv_at hl 0 rfl) ?_
      cases hF
      exact hret _ _ _ _ P rfl dX9_place_114
    have hL4 : ∀ (n : Nat) (v7 : Int32) (v8 : Int32) (v9 : Int32) (H : Heap) (locs : List Loc) (ls : Array Slot), Pic G B h s H locs → lv_has ls 7 [(0, .ref (B + a0)), (1, .int vp1), (2, .int v7), (3, .int v8), (4, .int v9)] → loopF (fun x => F_X9_place_L24 h a0 vp1 x.1 x.2.1 x.2.2) n (v7, v8, v9) = some r4 → W p l e (rmM 5 126 0 0) s m args below meth c H locs 0 0 Q (F0 m 24 ls []) := by
      intro n
      induction n with
      | zero => intro v7 v8 v9 H locs ls P hl hq; cases hq
      | succ n ih =>
        intro v7 v8 v9 H locs ls P hl hq
        obtain ⟨z4, hS4, hI4, hR4⟩ := loop_some hq
        have hF : F_X9_place_L24 h a0 vp1 v7 v8 v9 = some z4 := hS4
        unfold F_X9_place_L24 at hF
        refine lv_iload (pc := 24) hx hb dX9_place_24 (lv_at hl 4 rfl) ?_
        refine lv_bipush (pc := 26) (v := 12) hx hb dX9_place_26 (by decide) ?_
        refine lv_icmp_ge (pc := 28) (tgt := 113) hx hb dX9_place_28 (by decide) (fun hc => ?_) (fun hc => ?_)
        · rw [if_pos hc] at hF
          exact hX4 _ _ _ _ P (lv_sub hl [2] rfl) (hR4 _ (Option.some.inj hF).symm)
        · rw [if_neg hc] at hF
          refine lv_aload_n (pc := 31) hx hb dX9_place_31 rfl (lv_at hl 0 rfl) ?_
          refine r_gR (pc := 32) CX P hF fl_X9_10 dX9_place_32 (fun a11 hF => ?_)
          refine r_gR (pc := 35) CX P hF fl_X9_53 dX9_place_35 (fun a12 hF => ?_)
          refine lv_iload (pc := 38) hx hb dX9_place_38 (lv_at hl 4 rfl) ?_
          refine r_cVp (pc := 40) (As := [.int v9]) (rest := []) CX P hl.1 hF kv_X9_57 (fun r q => c_X6_has l G B _ _ _ _ q) rfl rfl ⟨Nat.le_of_ble_eq_true rfl, Nat.le_of_ble_eq_true rfl⟩ (Nat.le_of_ble_eq_true rfl) ⟨Nat.le_of_ble_eq_true rfl, Nat.le_of_ble_eq_true rfl⟩ dX9_place_40 (fun v13 H locs P hF => ?_)
          obtain ⟨j14, hA14, hK14⟩ := bd_some hF
          have hJ14 : ∀ (v19 : Int32) (H : Heap) (locs : List Loc) (ls : Array Slot), Pic G B h s H locs → lv_has ls 7 [(0, .ref (B + a0)), (1, .int vp1), (2, .int v7), (3, .int v8), (4, .int v9)] → v19 = j14 → W p l e (rmM 5 126 0 0) s m args below meth c H locs 0 0 Q (F0 m 68 ls [.int v19]) := by
            intro v19 H locs ls P hl ej
            subst ej
            have hF := hK14
            refine lv_istore (pc := 68) hx hb dX9_place_68 hl (by decide) rfl (fun ls hl => ?_)
            replace hl : lv_has ls 7 [(5, .int v19), (0, .ref (B + a0)), (1, .int vp1), (2, .int v7), (3, .int v8), (4, .int v9)] := hl
            refine lv_iload (pc := 70) hx hb dX9_place_70 (lv_at hl 0 rfl) ?_
            obtain ⟨j20, hA20, hK20⟩ := bd_some hF
            have hJ20 : ∀ (v24 : Int32) (H : Heap) (locs : List Loc) (ls : Array Slot), Pic G B h s H locs → lv_has ls 7 [(0, .ref (B + a0)), (1, .int vp1), (2, .int v7), (3, .int v8), (4, .int v9)] → v24 = j20 → W p l e (rmM 5 126 0 0) s m args below meth c H locs 0 0 Q (F0 m 93 ls [.int v24]) := by
              intro v24 H locs ls P hl ej
              subst ej
              have hF := hK20
              refine lv_istore (pc := 93) hx hb dX9_place_93 hl (by decide) rfl (fun ls hl => ?_)
              replace hl : lv_has ls 7 [(6, .int v24), (0, .ref (B + a0)), (1, .int vp1), (2, .int v7), (3, .int v8), (4, .int v9)] := hl
              refine lv_iload (pc := 95) hx hb dX9_place_95 (lv_at hl 0 rfl) ?_
              refine lv_iload_n (pc := 97) hx hb dX9_place_97 rfl (lv_at hl 4 rfl) ?_
              refine lv_icmp_le (pc := 98) (tgt := 107) hx hb dX9_place_98 (by decide) (fun hc => ?_) (fun hc => ?_)
              · rw [if_pos hc] at hF
                obtain ⟨v25, ev25, hF⟩ := bl_o hF
                refine lv_iinc (pc := 107) (k := 5) (v := v25) hx hb dX9_place_107 hl rfl ev25 (by decide) rfl (fun ls hl => ?_)
                replace hl : lv_has ls 7 [(4, .int v25), (6, .int v24), (0, .ref (B + a0)), (1, .int vp1), (2, .int v7), (3, .int v8)] := hl
                refine lv_goto (pc := 110) (tgt := 24) hx hb dX9_place_110 (by decide) ?_
                exact ih _ _ _ _ _ _ P (lv_sub hl [2, 3, 4, 5, 0] rfl) (hI4 _ (Option.some.inj hF).symm)
              · rw [if_neg hc] at hF
                refine lv_iload (pc := 101) hx hb dX9_place_101 (lv_at hl 0 rfl) ?_
                refine lv_istore_n (pc := 103) hx hb dX9_place_103 rfl hl (by decide) rfl (fun ls hl => ?_)
                replace hl : lv_has ls 7 [(3, .int v24), (6, .int v24), (0, .ref (B + a0)), (1, .int vp1), (2, .int v7), (4, .int v9)] := hl
                refine lv_iload (pc := 104) hx hb dX9_place_104 (lv_at hl 5 rfl) ?_
                refine lv_istore_n (pc := 106) hx hb dX9_place_106 rfl hl (by decide) rfl (fun ls hl => ?_)
                replace hl : lv_has ls 7 [(2, .int v9), (3, .int v24), (6, .int v24), (0, .ref (B + a0)), (1, .int vp1), (4, .int v9)] := hl
                obtain ⟨v26, ev26, hF⟩ := bl_o hF
                refine lv_iinc (pc := 107) (k := 5) (v := v26) hx hb dX9_place_107 hl rfl ev26 (by decide) rfl (fun ls hl => ?_)
                replace hl : lv_has ls 7 [(4, .int v26), (2, .int v9), (3, .int v24), (6, .int v24), (0, .ref (B + a0)), (1, .int vp1)] := hl
                refine lv_goto (pc := 110) (tgt := 24) hx hb dX9_place_110 (by decide) ?_
                exact ih _ _ _ _ _ _ P (lv_sub hl [4, 5, 1, 2, 0] rfl) (hI4 _ (Option.some.inj hF).symm)
            replace hF := hA20
            refine lv_if_eq (pc := 72) (tgt := 92) hx hb dX9_place_72 (by decide) (fun hc => ?_) (fun hc => ?_)
            · rw [if_pos hc] at hF
              refine lv_iconst (pc := 92) (v := (-1)) hx hb dX9_place_92 (by decide) ?_
              exact hJ20 _ _ _ _ P (lv_sub hl [1, 2, 3, 4, 5] rfl) (Option.some.inj hF)
            · rw [if_neg hc] at hF
              refine lv_aload_n (pc := 75) hx hb dX9_place_75 rfl (lv_at hl 1 rfl) ?_
              refine r_gR (pc := 76) CX P hF fl_X9_42 dX9_place_76 (fun a21 hF => ?_)
              refine lv_aload_n (pc := 79) hx hb dX9_place_79 rfl (lv_at hl 1 rfl) ?_
              refine r_gR (pc := 80) CX P hF fl_X9_10 dX9_place_80 (fun a22 hF => ?_)
              refine lv_iload_n (pc := 83) hx hb dX9_place_83 rfl (lv_at hl 2 rfl) ?_
              refine lv_iload (pc := 84) hx hb dX9_place_84 (lv_at hl 5 rfl) ?_
              refine r_cVp (pc := 86) (As := [.ref (B + a22), .int vp1, .int v9]) (rest := []) CX P hl.1 hF kv_X9_317 (fun r q => c_X3_leftBehindMove l G B _ _ _ _ _ _ q) rfl rfl ⟨Nat.le_of_ble_eq_true rfl, Nat.le_of_ble_eq_true rfl⟩ (Nat.le_of_ble_eq_true rfl) ⟨Nat.le_of_ble_eq_true rfl, Nat.le_of_ble_eq_true rfl⟩ dX9_place_86 (fun v23 H locs P hF => ?_)
              refine lv_goto (pc := 89) (tgt := 93) hx hb dX9_place_89 (by decide) ?_
              exact hJ20 _ _ _ _ P (lv_sub hl [1, 2, 3, 4, 5] rfl) (Option.some.inj hF)
          replace hF := hA14
          refine lv_if_eq (pc := 43) (tgt := 67) hx hb dX9_place_43 (by decide) (fun hc => ?_) (fun hc => ?_)
          · rw [if_pos hc] at hF
            refine lv_iconst (pc := 67) (v := 0) hx hb dX9_place_67 (by decide) ?_
            exact hJ14 _ _ _ _ P (lv_sub hl [0, 1, 2, 3, 4] rfl) (Option.some.inj hF)
          · rw [if_neg hc] at hF
            refine lv_aload_n (pc := 46) hx hb dX9_place_46 rfl (lv_at hl 0 rfl) ?_
            refine r_gR (pc := 47) CX P hF fl_X9_10 dX9_place_47 (fun a15 hF => ?_)
            refine r_gR (pc := 50) CX P hF fl_X9_129 dX9_place_50 (fun a16 hF => ?_)
            refine r_gR (pc := 53) CX P hF fl_X9_136 dX9_place_53 (fun a17 hF => ?_)
            refine lv_iload_n (pc := 56) hx hb dX9_place_56 rfl (lv_at hl 1 rfl) ?_
            refine r_aI (pc := 57) CX P hF dX9_place_57 (fun v18 hF => ?_)
            refine lv_iload (pc := 58) hx hb dX9_place_58 (lv_at hl 4 rfl) ?_
            refine lv_icmp_eq (pc := 60) (tgt := 67) hx hb dX9_place_60 (by decide) (fun hc => ?_) (fun hc => ?_)
            · rw [if_pos hc] at hF
              refine lv_iconst (pc := 67) (v := 0) hx hb dX9_place_67 (by decide) ?_
              exact hJ14 _ _ _ _ P (lv_sub hl [0, 1, 2, 3, 4] rfl) (Option.some.inj hF)
            · rw [if_neg hc] at hF
              refine lv_iconst (pc := 63) (v := 1) hx hb dX9_place_63 (by decide) ?_
              refine lv_goto (pc := 64) (tgt := 68) hx hb dX9_place_64 (by decide) ?_
              exact hJ14 _ _ _ _ P (lv_sub hl [0, 1, 2, 3, 4] rfl) (Option.some.inj hF)
    exact hL4 _ _ _ _ _ _ _ P (lv_sub hl [3, 4, 2, 1, 0] rfl) hLp4
  · rw [if_pos hc] at hF
    refine lv_bipush (pc := 14) (v := (-2)) hx hb dX9_place_14 (by decide) ?_
    cases hF
    exact hret _ _ _ _ P rfl dX9_place_16
def F_X9_due (h : Hp) (a0 : Nat) (vp1 : Int32) : Option (Int32 × Hp) :=
(gR h a0 9 0).bind fun a1 =>
(gR h a1 8 0).bind fun a2 =>
(cO h a2 6 (F_X6_has h a2 vp1)).bind fun v3 =>
if v3 = 0 then (
some ((-2), h)) else (
(gR h a0 9 1).bind fun a4 =>
(gR h a0 9 0).bind fun a5 =>
(cO h a4 8 (F_X8_copyFrom h a4 a5)).bind fun h6 =>
(gR h6 a0 9 1).bind fun a7 =>
(gR h6 a7 8 1).bind fun a8 =>
(gR h6 a8 0 5).bind fun a9 =>
(F_J7_fill_53178 h6 a9 999).bind fun h10 =>
(gR h10 a0 9 1).bind fun a11 =>
(gR h10 a11 8 1).bind fun a12 =>
(gR h10 a12 0 4).bind fun a13 =>
(F_J7_fill_53178 h10 a13 0).bind fun h14 =>
(gR h14 a0 9 1).bind fun a15 =>
(gR h14 a15 8 0).bind fun a16 =>
(gR h14 a16 6 7).bind fun a17 =>
(F_J7_fill_53178 h14 a17 0).bind fun h18 =>
(gR h18 a0 9 6).bind fun a19 =>
(gR h18 a0 9 1).bind fun a20 =>
(cO h18 a19 2 (F_X2_plan h18 a19 a20)).bind fun h21 =>
(gR h21 a0 9 6).bind fun a22 =>
(gR h21 a22 2 0).bind fun a23 =>
(aI h21 a23 vp1).bind fun v24 =>
some (v24, h21))
set_option maxRecDepth 100000 in
set_option maxHeartbeats 4000000 in
theorem c_X9_due (l : Launch) (G : GG) (B : Nat) (h : Hp) (a0 : Nat) (vp1 : Int32) (r0 : Int32) (hr : Hp) (hF : F_X9_due h a0 vp1 = some (r0, hr)) : CI l yX9_due cX9_due 2 .int 4 142 0 0 G B h [.ref (B + a0), .int vp1] r0 hr := by
  refine ent_i rfl (Nat.le_of_ble_eq_true rfl) ?_
  intro p e s m args below meth c ls Q CX hnm hret P hl
  have CX : Cxt p m c cX9_due 2 s args RX9 G B := CX
  obtain ⟨⟨hx, hb, hml, hown, hts⟩, -, -⟩ := id CX
  replace hl : lv_has ls 2 [(0, .ref (B + a0)), (1, .int vp1)] := hl
  generalize s.heap = H at P ⊢
  generalize ([] : List Loc) = locs at P ⊢
  unfold F_X9_due at hF
  refine lv_aload_n (pc := 0) hx hb dX9_due_0 rfl (lv_at hl 0 rfl) ?_
  refine r_gR (pc := 1) CX P hF fl_X9_10 dX9_due_1 (fun a1 hF => ?_)
  refine r_gR (pc := 4) CX P hF fl_X9_53 dX9_due_4 (fun a2 hF => ?_)
  refine lv_iload_n (pc := 7) hx hb dX9_due_7 rfl (lv_at hl 1 rfl) ?_
  refine r_cVp (pc := 8) (As := [.int vp1]) (rest := []) CX P hl.1 hF kv_X9_57 (fun r q => c_X6_has l G B _ _ _ _ q) rfl rfl ⟨Nat.le_of_ble_eq_true rfl, Nat.le_of_ble_eq_true rfl⟩ (Nat.le_of_ble_eq_true rfl) ⟨Nat.le_of_ble_eq_true rfl, Nat.le_of_ble_eq_true rfl⟩ dX9_due_8 (fun v3 H locs P hF => ?_)
  refine lv_if_ne (pc := 11) (tgt := 17) hx hb dX9_due_11 (by decide) (fun hc => ?_) (fun hc => ?_)
  · rw [if_neg hc] at hF
    refine lv_aload_n (pc := 17) hx hb dX9_due_17 rfl (lv_at hl 0 rfl) ?_
    refine r_gR (pc := 18) CX P hF fl_X9_16 dX9_due_18 (fun a4 hF => ?_)
    refine lv_aload_n (pc := 21) hx hb dX9_due_21 rfl (lv_at hl 0 rfl) ?_
    refine r_gR (pc := 22) CX P hF fl_X9_10 dX9_due_22 (fun a5 hF => ?_)
    refine r_cVv (pc := 25) (As := [.ref (B + a5)]) (rest := []) CX P hl.1 hF kv_X9_314 (fun h1 q => c_X8_copyFrom l G B _ _ _ _ q) rfl rfl ⟨Nat.le_of_ble_eq_true rfl, Nat.le_of_ble_eq_true rfl⟩ (Nat.le_of_ble_eq_true rfl) ⟨Nat.le_of_ble_eq_true rfl, Nat.le_of_ble_eq_true rfl⟩ dX9_due_25 (fun h6 H locs P hF => ?_)
    refine lv_aload_n (pc := 28) hx hb dX9_due_28 rfl (lv_at hl 0 rfl) ?_
    refine r_gR (pc := 29) CX P hF fl_X9_16 dX9_due_29 (fun a7 hF => ?_)
    refine r_gR (pc := 32) CX P hF fl_X9_129 dX9_due_32 (fun a8 hF => ?_)
    refine r_gR (pc := 35) CX P hF fl_X9_176 dX9_due_35 (fun a9 hF => ?_)
    refine lv_sipush (pc := 38) (v := 999) hx hb dX9_due_38 (by decide) ?_
    refine r_cSv (pc := 41) (As := [.ref (B + a9), .int 999]) (rest := []) CX P hl.1 hF ks_X9_320 (fun h1 q => c_J7_fill_53178 l G B _ _ _ _ q) rfl rfl ⟨Nat.le_of_ble_eq_true rfl, Nat.le_of_ble_eq_true rfl⟩ (Nat.le_of_ble_eq_true rfl) ⟨Nat.le_of_ble_eq_true rfl, Nat.le_of_ble_eq_true rfl⟩ dX9_due_41 (fun h10 H locs P hF => ?_)
    refine lv_aload_n (pc := 44) hx hb dX9_due_44 rfl (lv_at hl 0 rfl) ?_
    refine r_gR (pc := 45) CX P hF fl_X9_16 dX9_due_45 (fun a11 hF => ?_)
    refine r_gR (pc := 48) CX P hF fl_X9_129 dX9_due_48 (fun a12 hF => ?_)
    refine r_gR (pc := 51) CX P hF fl_X9_248 dX9_due_51 (fun a13 hF => ?_)
    refine lv_iconst (pc := 54) (v := 0) hx hb dX9_due_54 (by decide) ?_
    refine r_cSv (pc := 55) (As := [.ref (B + a13), .int 0]) (rest := []) CX P hl.1 hF ks_X9_320 (fun h1 q => c_J7_fill_53178 l G B _ _ _ _ q) rfl rfl ⟨Nat.le_of_ble_eq_true rfl, Nat.le_of_ble_eq_true rfl⟩ (Nat.le_of_ble_eq_true rfl) ⟨Nat.le_of_ble_eq_true rfl, Nat.le_of_ble_eq_true rfl⟩ dX9_due_55 (fun h14 H locs P hF => ?_)
    refine lv_aload_n (pc := 58) hx hb dX9_due_58 rfl (lv_at hl 0 rfl) ?_
    refine r_gR (pc := 59) CX P hF fl_X9_16 dX9_due_59 (fun a15 hF => ?_)
    refine r_gR (pc := 62) CX P hF fl_X9_53 dX9_due_62 (fun a16 hF => ?_)
    refine r_gR (pc := 65) CX P hF fl_X9_245 dX9_due_65 (fun a17 hF => ?_)
    refine lv_iconst (pc := 68) (v := 0) hx hb dX9_due_68 (by decide) ?_
    refine r_cSv (pc := 69) (As := [.ref (B + a17), .int 0]) (rest := []) CX P hl.1 hF ks_X9_320 (fun h1 q => c_J7_fill_53178 l G B _ _ _ _ q) rfl rfl ⟨Nat.le_of_ble_eq_true rfl, Nat.le_of_ble_eq_true rfl⟩ (Nat.le_of_ble_eq_true rfl) ⟨Nat.le_of_ble_eq_true rfl, Nat.le_of_ble_eq_true rfl⟩ dX9_due_69 (fun h18 H locs P hF => ?_)
    refine lv_aload_n (pc := 72) hx hb dX9_due_72 rfl (lv_at hl 0 rfl) ?_
    refine r_gR (pc := 73) CX P hF fl_X9_49 dX9_due_73 (fun a19 hF => ?_)
    refine lv_aload_n (pc := 76) hx hb dX9_due_76 rfl (lv_at hl 0 rfl) ?_
    refine r_gR (pc := 77) CX P hF fl_X9_16 dX9_due_77 (fun a20 hF => ?_)
    refine r_cVv (pc := 80) (As := [.ref (B + a20)]) (rest := []) CX P hl.1 hF kv_X9_290 (fun h1 q => c_X2_plan l G B _ _ _ _ q) rfl rfl ⟨Nat.le_of_ble_eq_true rfl, Nat.le_of_ble_eq_true rfl⟩ (Nat.le_of_ble_eq_true rfl) ⟨Nat.le_of_ble_eq_true rfl, Nat.le_of_ble_eq_true rfl⟩ dX9_due_80 (fun h21 H locs P hF => ?_)
    refine lv_aload_n (pc := 83) hx hb dX9_due_83 rfl (lv_at hl 0 rfl) ?_
    refine r_gR (pc := 84) CX P hF fl_X9_49 dX9_due_84 (fun a22 hF => ?_)
    refine r_gR (pc := 87) CX P hF fl_X9_293 dX9_due_87 (fun a23 hF => ?_)
    refine lv_iload_n (pc := 90) hx hb dX9_due_90 rfl (lv_at hl 1 rfl) ?_
    refine r_aI (pc := 91) CX P hF dX9_due_91 (fun v24 hF => ?_)
    cases hF
    exact hret _ _ _ _ P rfl dX9_due_92
  · rw [if_pos hc] at hF
    refine lv_bipush (pc := 14) (v := (-2)) hx hb dX9_due_14 (by decide) ?_
    cases hF
    exact hret _ _ _ _ P rfl dX9_due_16
def F_X9_idle_L13 (a5 : Nat) (v6 : Int32) (h7 : Hp) : Option ((Int32 × Hp) ⊕ ((Int32 × Hp) ⊕ (Hp))) :=
if 100 < v6 then (
some (.inr (.inr h7))) else (
(gR h7 a5 9 1).bind fun a8 =>
(gR h7 a8 8 1).bind fun a9 =>
(cO h7 a9 0 (F_X0_hasTodo h7 a9)).bind fun v10 =>
if v10 = 0 then (
some (.inr (.inl (v6, h7)))) else (
(gR h7 a5 9 6).bind fun a11 =>
(gR h7 a5 9 1).bind fun a12 =>
(cO h7 a11 2 (F_X2_doWork h7 a11 a12)).bind fun h13 =>
(gR h13 a5 9 1).bind fun a14 =>
(cO h13 a14 8 (F_X8_passTick h13 a14)).bind fun h15 =>
bl (v6 + 1) fun v16 =>
some (.inl (v16, h15))))
def F_X9_idle (h : Hp) (a0 : Nat) : Option (Int32 × Hp) :=
(gR h a0 9 1).bind fun a1 =>
(gR h a0 9 0).bind fun a2 =>
(cO h a1 8 (F_X8_copyFrom h a1 a2)).bind fun h3 =>
(loopF (fun x => F_X9_idle_L13 a0 x.1 x.2) 6000 (0, h3)).bind (sE (fun x => some x) (fun h17 =>
some ((-1), h17)))
set_option maxRecDepth 100000 in
set_option maxHeartbeats 4000000 in
theorem c_X9_idle (l : Launch) (G : GG) (B : Nat) (h : Hp) (a0 : Nat) (r0 : Int32) (hr : Hp) (hF : F_X9_idle h a0 = some (r0, hr)) : CI l yX9_idle cX9_idle 2 .int 5 142 0 0 G B h [.ref (B + a0)] r0 hr := by
  refine ent_i rfl (Nat.le_of_ble_eq_true rfl) ?_
  intro p e s m args below meth c ls Q CX hnm hret P hl
  have CX : Cxt p m c cX9_idle 2 s args RX9 G B := CX
  obtain ⟨⟨hx, hb, hml, hown, hts⟩, -, -⟩ := id CX
  replace hl : lv_has ls 2 [(0, .ref (B + a0))] := hl
  generalize s.heap = H at P ⊢
  generalize ([] : List Loc) = locs at P ⊢
  unfold F_X9_idle at hF
  refine lv_aload_n (pc := 0) hx hb dX9_idle_0 rfl (lv_at hl 0 rfl) ?_
  refine r_gR (pc := 1) CX P hF fl_X9_16 dX9_idle_1 (fun a1 hF => ?_)
  refine lv_aload_n (pc := 4) hx hb dX9_idle_4 rfl (lv_at hl 0 rfl) ?_
  refine r_gR (pc := 5) CX P hF fl_X9_10 dX9_idle_5 (fun a2 hF => ?_)
  refine r_cVv (pc := 8) (As := [.ref (B + a2)]) (rest := []) CX P hl.1 hF kv_X9_314 (fun h1 q => c_X8_copyFrom l G B _ _ _ _ q) rfl rfl ⟨Nat.le_of_ble_eq_true rfl, Nat.le_of_ble_eq_true rfl⟩ (Nat.le_of_ble_eq_true rfl) ⟨Nat.le_of_ble_eq_true rfl, Nat.le_of_ble_eq_true rfl⟩ dX9_idle_8 (fun h3 H locs P hF => ?_)
  refine lv_iconst (pc := 11) (v := 0) hx hb dX9_idle_11 (by decide) ?_
  refine lv_istore_n (pc := 12) hx hb dX9_idle_12 rfl hl (by decide) rfl (fun ls hl => ?_)
  replace hl : lv_has ls 2 [(1, .int 0), (0, .ref (B + a0))] := hl
  obtain ⟨r4, hLp4, hK4⟩ := bd_some hF
  have hX4 : ∀ (h17 : Hp) (H : Heap) (locs : List Loc) (ls : Array Slot), Pic G B h17 s H locs → lv_has ls 2 [] → .inr h17 = r4 → W p l e (rmM 5 142 0 0) s m args below meth c H locs 0 0 Q (F0 m 58 ls []) := by
    intro h17 H locs ls P hl er
    subst er
    have hF := sE_ri hK4
    refine lv_iconst (pc := 58) (v := (-1)) hx hb dX9_idle_58 (by decide) ?_
    cases hF
    exact hret _ _ _ _ P rfl dX9_idle_59
  have hL4 : ∀ (n : Nat) (v6 : Int32) (h7 : Hp) (H : Heap) (locs : List Loc) (ls : Array Slot), Pic G B h7 s H locs → lv_has ls 2 [(0, .ref (B + a0)), (1, .int v6)] → loopF (fun x => F_X9_idle_L13 a0 x.1 x.2) n (v6, h7) = some r4 → W p l e (rmM 5 142 0 0) s m args below meth c H locs 0 0 Q (F0 m 13 ls []) := by
    intro n
    induction n with
    | zero => intro v6 h7 H locs ls P hl hq; cases hq
    | succ n ih =>
      intro v6 h7 H locs ls P hl hq
      obtain ⟨z4, hS4, hI4, hR4⟩ := loop_some hq
      have hF : F_X9_idle_L13 a0 v6 h7 = some z4 := hS4
      unfold F_X9_idle_L13 at hF
      refine lv_iload_n (pc := 13) hx hb dX9_idle_13 rfl (lv_at hl 1 rfl) ?_
      refine lv_bipush (pc := 14) (v := 100) hx hb dX9_idle_14 (by decide) ?_
      refine lv_icmp_gt (pc := 16) (tgt := 58) hx hb dX9_idle_16 (by decide) (fun hc => ?_) (fun hc => ?_)
      · rw [if_pos hc] at hF
        exact hX4 _ _ _ _ P (lv_sub hl [] rfl) (hR4 _ (Option.some.inj hF).symm)
      · rw [if_neg hc] at hF
        refine lv_aload_n (pc := 19) hx hb dX9_idle_19 rfl (lv_at hl 0 rfl) ?_
        refine r_gR (pc := 20) CX P hF fl_X9_16 dX9_idle_20 (fun a8 hF => ?_)
        refine r_gR (pc := 23) CX P hF fl_X9_129 dX9_idle_23 (fun a9 hF => ?_)
        refine r_cVp (pc := 26) (As := []) (rest := []) CX P hl.1 hF kv_X9_326 (fun r q => c_X0_hasTodo l G B _ _ _ q) rfl rfl ⟨Nat.le_of_ble_eq_true rfl, Nat.le_of_ble_eq_true rfl⟩ (Nat.le_of_ble_eq_true rfl) ⟨Nat.le_of_ble_eq_true rfl, Nat.le_of_ble_eq_true rfl⟩ dX9_idle_26 (fun v10 H locs P hF => ?_)
        refine lv_if_ne (pc := 29) (tgt := 34) hx hb dX9_idle_29 (by decide) (fun hc => ?_) (fun hc => ?_)
        · rw [if_neg hc] at hF
          refine lv_aload_n (pc := 34) hx hb dX9_idle_34 rfl (lv_at hl 0 rfl) ?_
          refine r_gR (pc := 35) CX P hF fl_X9_49 dX9_idle_35 (fun a11 hF => ?_)
          refine lv_aload_n (pc := 38) hx hb dX9_idle_38 rfl (lv_at hl 0 rfl) ?_
          refine r_gR (pc := 39) CX P hF fl_X9_16 dX9_idle_39 (fun a12 hF => ?_)
          refine r_cVv (pc := 42) (As := [.ref (B + a12)]) (rest := []) CX P hl.1 hF kv_X9_212 (fun h1 q => c_X2_doWork l G B _ _ _ _ q) rfl rfl ⟨Nat.le_of_ble_eq_true rfl, Nat.le_of_ble_eq_true rfl⟩ (Nat.le_of_ble_eq_true rfl) ⟨Nat.le_of_ble_eq_true rfl, Nat.le_of_ble_eq_true rfl⟩ dX9_idle_42 (fun h13 H locs P hF => ?_)
          refine lv_aload_n (pc := 45) hx hb dX9_idle_45 rfl (lv_at hl 0 rfl) ?_
          refine r_gR (pc := 46) CX P hF fl_X9_16 dX9_idle_46 (fun a14 hF => ?_)
          refine r_cVv (pc := 49) (As := []) (rest := []) CX P hl.1 hF kv_X9_218 (fun h1 q => c_X8_passTick l G B _ _ _ q) rfl rfl ⟨Nat.le_of_ble_eq_true rfl, Nat.le_of_ble_eq_true rfl⟩ (Nat.le_of_ble_eq_true rfl) ⟨Nat.le_of_ble_eq_true rfl, Nat.le_of_ble_eq_true rfl⟩ dX9_idle_49 (fun h15 H locs P hF => ?_)
          obtain ⟨v16, ev16, hF⟩ := bl_o hF
          refine lv_iinc (pc := 52) (k := 1) (v := v16) hx hb dX9_idle_52 hl rfl ev16 (by decide) rfl (fun ls hl => ?_)
          replace hl : lv_has ls 2 [(1, .int v16), (0, .ref (B + a0))] := hl
          refine lv_goto (pc := 55) (tgt := 13) hx hb dX9_idle_55 (by decide) ?_
          exact ih _ _ _ _ _ P (lv_sub hl [1, 0] rfl) (hI4 _ (Option.some.inj hF).symm)
        · rw [if_pos hc] at hF
          refine lv_iload_n (pc := 32) hx hb dX9_idle_32 rfl (lv_at hl 1 rfl) ?_
          have hE := hR4 _ (Option.some.inj hF).symm
          subst hE
          replace hF := sE_li hK4
          cases hF
          exact hret _ _ _ _ P rfl dX9_idle_33
  exact hL4 _ _ _ _ _ _ P (lv_sub hl [1, 0] rfl) hLp4
def F_X9_weigh_L47 (a9 : Nat) (v10 : Int32) (v11 : Int32) (v12 : Int32) (h13 : Hp) : Option ((Int32 × Hp) ⊕ ((Int32 × Hp) ⊕ (Hp))) :=
if 9 < v12 then (
some (.inr (.inr h13))) else (
(gR h13 a9 9 1).bind fun a14 =>
(gR h13 a14 8 0).bind fun a15 =>
(gR h13 a15 6 3).bind fun a16 =>
(aR h13 a16 15 6).bind fun a17 =>
(sI h13 a17 v10 v12).bind fun h18 =>
(gR h18 a9 9 6).bind fun a19 =>
(gR h18 a9 9 1).bind fun a20 =>
(cO h18 a19 2 (F_X2_plan h18 a19 a20)).bind fun h21 =>
(gR h21 a9 9 6).bind fun a22 =>
(gR h21 a22 2 0).bind fun a23 =>
(aI h21 a23 v10).bind fun v24 =>
if v24 < v11 then (
bl (v12 + 1) fun v25 =>
some (.inl (v25, h21))) else (
some (.inr (.inl (v12, h21)))))
def F_X9_weigh (h : Hp) (a0 : Nat) (vp1 : Int32) (vp2 : Int32) : Option (Int32 × Hp) :=
(gR h a0 9 0).bind fun a1 =>
(gR h a1 8 0).bind fun a2 =>
(cO h a2 6 (F_X6_has h a2 vp1)).bind fun v3 =>
if v3 = 0 then (
some ((-2), h)) else (
if vp1 = 0 then (
some ((-2), h)) else (
(F_X9_outside h vp2 1 99).bind fun v4 =>
if v4 = 0 then (
(gR h a0 9 1).bind fun a5 =>
(gR h a0 9 0).bind fun a6 =>
(cO h a5 8 (F_X8_copyFrom h a5 a6)).bind fun h7 =>
(loopF (fun x => F_X9_weigh_L47 a0 vp1 vp2 x.1 x.2) 6000 (1, h7)).bind (sE (fun x => some x) (fun h26 =>
some ((-1), h26)))) else (
some ((-3), h))))
set_option maxRecDepth 100000 in
set_option maxHeartbeats 4000000 in
theorem c_X9_weigh (l : Launch) (G : GG) (B : Nat) (h : Hp) (a0 : Nat) (vp1 : Int32) (vp2 : Int32) (r0 : Int32) (hr : Hp) (hF : F_X9_weigh h a0 vp1 vp2 = some (r0, hr)) : CI l yX9_weigh cX9_weigh 4 .int 4 142 0 0 G B h [.ref (B + a0), .int vp1, .int vp2] r0 hr := by
  refine ent_i rfl (Nat.le_of_ble_eq_true rfl) ?_
  intro p e s m args below meth c ls Q CX hnm hret P hl
  have CX : Cxt p m c cX9_weigh 4 s args RX9 G B := CX
  obtain ⟨⟨hx, hb, hml, hown, hts⟩, -, -⟩ := id CX
  replace hl : lv_has ls 4 [(0, .ref (B + a0)), (1, .int vp1), (2, .int vp2)] := hl
  generalize s.heap = H at P ⊢
  generalize ([] : List Loc) = locs at P ⊢
  unfold F_X9_weigh at hF
  refine lv_aload_n (pc := 0) hx hb dX9_weigh_0 rfl (lv_at hl 0 rfl) ?_
  refine r_gR (pc := 1) CX P hF fl_X9_10 dX9_weigh_1 (fun a1 hF => ?_)
  refine r_gR (pc := 4) CX P hF fl_X9_53 dX9_weigh_4 (fun a2 hF => ?_)
  refine lv_iload_n (pc := 7) hx hb dX9_weigh_7 rfl (lv_at hl 1 rfl) ?_
  refine r_cVp (pc := 8) (As := [.int vp1]) (rest := []) CX P hl.1 hF kv_X9_57 (fun r q => c_X6_has l G B _ _ _ _ q) rfl rfl ⟨Nat.le_of_ble_eq_true rfl, Nat.le_of_ble_eq_true rfl⟩ (Nat.le_of_ble_eq_true rfl) ⟨Nat.le_of_ble_eq_true rfl, Nat.le_of_ble_eq_true rfl⟩ dX9_weigh_8 (fun v3 H locs P hF => ?_)
  refine lv_if_eq (pc := 11) (tgt := 18) hx hb dX9_weigh_11 (by decide) (fun hc => ?_) (fun hc => ?_)
  · rw [if_pos hc] at hF
    refine lv_bipush (pc := 18) (v := (-2)) hx hb dX9_weigh_18 (by decide) ?_
    cases hF
    exact hret _ _ _ _ P rfl dX9_weigh_20
  · rw [if_neg hc] at hF
    refine lv_iload_n (pc := 14) hx hb dX9_weigh_14 rfl (lv_at hl 1 rfl) ?_
    refine lv_if_ne (pc := 15) (tgt := 21) hx hb dX9_weigh_15 (by decide) (fun hc => ?_) (fun hc => ?_)
    · rw [if_neg hc] at hF
      refine lv_iload_n (pc := 21) hx hb dX9_weigh_21 rfl (lv_at hl 2 rfl) ?_
      refine lv_iconst (pc := 22) (v := 1) hx hb dX9_weigh_22 (by decide) ?_
      refine lv_bipush (pc := 23) (v := 99) hx hb dX9_weigh_23 (by decide) ?_
      refine r_cSp (pc := 25) (As := [.int vp2, .int 1, .int 99]) (rest := []) CX P hl.1 hF ks_X9_111 (fun r q => c_X9_outside l G B _ _ _ _ _ q) rfl rfl ⟨Nat.le_of_ble_eq_true rfl, Nat.le_of_ble_eq_true rfl⟩ (Nat.le_of_ble_eq_true rfl) ⟨Nat.le_of_ble_eq_true rfl, Nat.le_of_ble_eq_true rfl⟩ dX9_weigh_25 (fun v4 H locs P hF => ?_)
      refine lv_if_eq (pc := 28) (tgt := 34) hx hb dX9_weigh_28 (by decide) (fun hc => ?_) (fun hc => ?_)
      · rw [if_pos hc] at hF
        refine lv_aload_n (pc := 34) hx hb dX9_weigh_34 rfl (lv_at hl 0 rfl) ?_
        refine r_gR (pc := 35) CX P hF fl_X9_16 dX9_weigh_35 (fun a5 hF => ?_)
        refine lv_aload_n (pc := 38) hx hb dX9_weigh_38 rfl (lv_at hl 0 rfl) ?_
        refine r_gR (pc := 39) CX P hF fl_X9_10 dX9_weigh_39 (fun a6 hF => ?_)
        refine r_cVv (pc := 42) (As := [.ref (B + a6)]) (rest := []) CX P hl.1 hF kv_X9_314 (fun h1 q => c_X8_copyFrom l G B _ _ _ _ q) rfl rfl ⟨Nat.le_of_ble_eq_true rfl, Nat.le_of_ble_eq_true rfl⟩ (Nat.le_of_ble_eq_true rfl) ⟨Nat.le_of_ble_eq_true rfl, Nat.le_of_ble_eq_true rfl⟩ dX9_weigh_42 (fun h7 H locs P hF => ?_)
        refine lv_iconst (pc := 45) (v := 1) hx hb dX9_weigh_45 (by decide) ?_
        refine lv_istore_n (pc := 46) hx hb dX9_weigh_46 rfl hl (by decide) rfl (fun ls hl => ?_)
        replace hl : lv_has ls 4 [(3, .int 1), (0, .ref (B + a0)), (1, .int vp1), (2, .int vp2)] := hl
        obtain ⟨r8, hLp8, hK8⟩ := bd_some hF
        have hX8 : ∀ (h26 : Hp) (H : Heap) (locs : List Loc) (ls : Array Slot), Pic G B h26 s H locs → lv_has ls 4 [] → .inr h26 = r8 → W p l e (rmM 4 142 0 0) s m args below meth c H locs 0 0 Q (F0 m 101 ls []) := by
          intro h26 H locs ls P hl er
          subst er
          have hF := sE_ri hK8
          refine lv_iconst (pc := 101) (v := (-1)) hx hb dX9_weigh_101 (by decide) ?_
          cases hF
          exact hret _ _ _ _ P rfl dX9_weigh_102
        have hL8 : ∀ (n : Nat) (v12 : Int32) (h13 : Hp) (H : Heap) (locs : List Loc) (ls : Array Slot), Pic G B h13 s H locs → lv_has ls 4 [(0, .ref (B + a0)), (1, .int vp1), (2, .int vp2), (3, .int v12)] → loopF (fun x => F_X9_weigh_L47 a0 vp1 vp2 x.1 x.2) n (v12, h13) = some r8 → W p l e (rmM 4 142 0 0) s m args below meth c H locs 0 0 Q (F0 m 47 ls []) := by
          intro n
          induction n with
          | zero => intro v12 h13 H locs ls P hl hq; cases hq
          | succ n ih =>
            intro v12 h13 H locs ls P hl hq
            obtain ⟨z8, hS8, hI8, hR8⟩ := loop_some hq
            have hF : F_X9_weigh_L47 a0 vp1 vp2 v12 h13 = some z8 := hS8
            unfold F_X9_weigh_L47 at hF
            refine lv_iload_n (pc := 47) hx hb dX9_weigh_47 rfl (lv_at hl 3 rfl) ?_
            refine lv_bipush (pc := 48) (v := 9) hx hb dX9_weigh_48 (by decide) ?_
            refine lv_icmp_gt (pc := 50) (tgt := 101) hx hb dX9_weigh_50 (by decide) (fun hc => ?_) (fun hc => ?_)
            · rw [if_pos hc] at hF
              exact hX8 _ _ _ _ P (lv_sub hl [] rfl) (hR8 _ (Option.some.inj hF).symm)
            · rw [if_neg hc] at hF
              refine lv_aload_n (pc := 53) hx hb dX9_weigh_53 rfl (lv_at hl 0 rfl) ?_
              refine r_gR (pc := 54) CX P hF fl_X9_16 dX9_weigh_54 (fun a14 hF => ?_)
              refine r_gR (pc := 57) CX P hF fl_X9_53 dX9_weigh_57 (fun a15 hF => ?_)
              refine r_gR (pc := 60) CX P hF fl_X9_230 dX9_weigh_60 (fun a16 hF => ?_)
              refine lv_bipush (pc := 63) (v := 6) hx hb dX9_weigh_63 (by decide) ?_
              refine r_aR (pc := 65) CX P hF (Or.inr (Or.inl rfl)) dX9_weigh_65 (fun a17 hF => ?_)
              refine lv_iload_n (pc := 66) hx hb dX9_weigh_66 rfl (lv_at hl 1 rfl) ?_
              refine lv_iload_n (pc := 67) hx hb dX9_weigh_67 rfl (lv_at hl 3 rfl) ?_
              refine r_sI (pc := 68) CX P hF dX9_weigh_68 (fun h18 H locs P hF => ?_)
              refine lv_aload_n (pc := 69) hx hb dX9_weigh_69 rfl (lv_at hl 0 rfl) ?_
              refine r_gR (pc := 70) CX P hF fl_X9_49 dX9_weigh_70 (fun a19 hF => ?_)
              refine lv_aload_n (pc := 73) hx hb dX9_weigh_73 rfl (lv_at hl 0 rfl) ?_
              refine r_gR (pc := 74) CX P hF fl_X9_16 dX9_weigh_74 (fun a20 hF => ?_)
              refine r_cVv (pc := 77) (As := [.ref (B + a20)]) (rest := []) CX P hl.1 hF kv_X9_290 (fun h1 q => c_X2_plan l G B _ _ _ _ q) rfl rfl ⟨Nat.le_of_ble_eq_true rfl, Nat.le_of_ble_eq_true rfl⟩ (Nat.le_of_ble_eq_true rfl) ⟨Nat.le_of_ble_eq_true rfl, Nat.le_of_ble_eq_true rfl⟩ dX9_weigh_77 (fun h21 H locs P hF => ?_)
              refine lv_aload_n (pc := 80) hx hb dX9_weigh_80 rfl (lv_at hl 0 rfl) ?_
              refine r_gR (pc := 81) CX P hF fl_X9_49 dX9_weigh_81 (fun a22 hF => ?_)
              refine r_gR (pc := 84) CX P hF fl_X9_293 dX9_weigh_84 (fun a23 hF => ?_)
              refine lv_iload_n (pc := 87) hx hb dX9_weigh_87 rfl (lv_at hl 1 rfl) ?_
              refine r_aI (pc := 88) CX P hF dX9_weigh_88 (fun v24 hF => ?_)
              refine lv_iload_n (pc := 89) hx hb dX9_weigh_89 rfl (lv_at hl 2 rfl) ?_
              refine lv_icmp_lt (pc := 90) (tgt := 95) hx hb dX9_weigh_90 (by decide) (fun hc => ?_) (fun hc => ?_)
              · rw [if_pos hc] at hF
                obtain ⟨v25, ev25, hF⟩ := bl_o hF
                refine lv_iinc (pc := 95) (k := 3) (v := v25) hx hb dX9_weigh_95 hl rfl ev25 (by decide) rfl (fun ls hl => ?_)
                replace hl : lv_has ls 4 [(3, .int v25), (0, .ref (B + a0)), (1, .int vp1), (2, .int vp2)] := hl
                refine lv_goto (pc := 98) (tgt := 47) hx hb dX9_weigh_98 (by decide) ?_
                exact ih _ _ _ _ _ P (lv_sub hl [1, 2, 3, 0] rfl) (hI8 _ (Option.some.inj hF).symm)
              · rw [if_neg hc] at hF
                refine lv_iload_n (pc := 93) hx hb dX9_weigh_93 rfl (lv_at hl 3 rfl) ?_
                have hE := hR8 _ (Option.some.inj hF).symm
                subst hE
                replace hF := sE_li hK8
                cases hF
                exact hret _ _ _ _ P rfl dX9_weigh_94
        exact hL8 _ _ _ _ _ _ P (lv_sub hl [1, 2, 3, 0] rfl) hLp8
      · rw [if_neg hc] at hF
        refine lv_bipush (pc := 31) (v := (-3)) hx hb dX9_weigh_31 (by decide) ?_
        cases hF
        exact hret _ _ _ _ P rfl dX9_weigh_33
    · rw [if_pos hc] at hF
      refine lv_bipush (pc := 18) (v := (-2)) hx hb dX9_weigh_18 (by decide) ?_
      cases hF
      exact hret _ _ _ _ P rfl dX9_weigh_20
def F_X9_pressed (h : Hp) (a0 : Nat) (vp1 : Int32) : Option (Int32 × Hp) :=
(gR h a0 9 0).bind fun a1 =>
(gR h a1 8 0).bind fun a2 =>
(cO h a2 6 (F_X6_has h a2 vp1)).bind fun v3 =>
if v3 = 0 then (
some ((-2), h)) else (
(gR h a0 9 1).bind fun a4 =>
(gR h a0 9 0).bind fun a5 =>
(cO h a4 8 (F_X8_copyFrom h a4 a5)).bind fun h6 =>
(gR h6 a0 9 4).bind fun a7 =>
(gR h6 a0 9 1).bind fun a8 =>
(cO h6 a7 5 (F_X5_takePages h6 a7 a8 vp1 999)).bind (un fun v9 h10 =>
(gR h10 a0 9 1).bind fun a11 =>
(gR h10 a11 8 0).bind fun a12 =>
(gR h10 a12 6 5).bind fun a13 =>
(aI h10 a13 vp1).bind fun v14 =>
some (v14, h10)))
set_option maxRecDepth 100000 in
set_option maxHeartbeats 4000000 in
theorem c_X9_pressed (l : Launch) (G : GG) (B : Nat) (h : Hp) (a0 : Nat) (vp1 : Int32) (r0 : Int32) (hr : Hp) (hF : F_X9_pressed h a0 vp1 = some (r0, hr)) : CI l yX9_pressed cX9_pressed 2 .int 4 142 0 0 G B h [.ref (B + a0), .int vp1] r0 hr := by
  refine ent_i rfl (Nat.le_of_ble_eq_true rfl) ?_
  intro p e s m args below meth c ls Q CX hnm hret P hl
  have CX : Cxt p m c cX9_pressed 2 s args RX9 G B := CX
  obtain ⟨⟨hx, hb, hml, hown, hts⟩, -, -⟩ := id CX
  replace hl : lv_has ls 2 [(0, .ref (B + a0)), (1, .int vp1)] := hl
  generalize s.heap = H at P ⊢
  generalize ([] : List Loc) = locs at P ⊢
  unfold F_X9_pressed at hF
  refine lv_aload_n (pc := 0) hx hb dX9_pressed_0 rfl (lv_at hl 0 rfl) ?_
  refine r_gR (pc := 1) CX P hF fl_X9_10 dX9_pressed_1 (fun a1 hF => ?_)
  refine r_gR (pc := 4) CX P hF fl_X9_53 dX9_pressed_4 (fun a2 hF => ?_)
  refine lv_iload_n (pc := 7) hx hb dX9_pressed_7 rfl (lv_at hl 1 rfl) ?_
  refine r_cVp (pc := 8) (As := [.int vp1]) (rest := []) CX P hl.1 hF kv_X9_57 (fun r q => c_X6_has l G B _ _ _ _ q) rfl rfl ⟨Nat.le_of_ble_eq_true rfl, Nat.le_of_ble_eq_true rfl⟩ (Nat.le_of_ble_eq_true rfl) ⟨Nat.le_of_ble_eq_true rfl, Nat.le_of_ble_eq_true rfl⟩ dX9_pressed_8 (fun v3 H locs P hF => ?_)
  refine lv_if_ne (pc := 11) (tgt := 17) hx hb dX9_pressed_11 (by decide) (fun hc => ?_) (fun hc => ?_)
  · rw [if_neg hc] at hF
    refine lv_aload_n (pc := 17) hx hb dX9_pressed_17 rfl (lv_at hl 0 rfl) ?_
    refine r_gR (pc := 18) CX P hF fl_X9_16 dX9_pressed_18 (fun a4 hF => ?_)
    refine lv_aload_n (pc := 21) hx hb dX9_pressed_21 rfl (lv_at hl 0 rfl) ?_
    refine r_gR (pc := 22) CX P hF fl_X9_10 dX9_pressed_22 (fun a5 hF => ?_)
    refine r_cVv (pc := 25) (As := [.ref (B + a5)]) (rest := []) CX P hl.1 hF kv_X9_314 (fun h1 q => c_X8_copyFrom l G B _ _ _ _ q) rfl rfl ⟨Nat.le_of_ble_eq_true rfl, Nat.le_of_ble_eq_true rfl⟩ (Nat.le_of_ble_eq_true rfl) ⟨Nat.le_of_ble_eq_true rfl, Nat.le_of_ble_eq_true rfl⟩ dX9_pressed_25 (fun h6 H locs P hF => ?_)
    refine lv_aload_n (pc := 28) hx hb dX9_pressed_28 rfl (lv_at hl 0 rfl) ?_
    refine r_gR (pc := 29) CX P hF fl_X9_33 dX9_pressed_29 (fun a7 hF => ?_)
    refine lv_aload_n (pc := 32) hx hb dX9_pressed_32 rfl (lv_at hl 0 rfl) ?_
    refine r_gR (pc := 33) CX P hF fl_X9_16 dX9_pressed_33 (fun a8 hF => ?_)
    refine lv_iload_n (pc := 36) hx hb dX9_pressed_36 rfl (lv_at hl 1 rfl) ?_
    refine lv_sipush (pc := 37) (v := 999) hx hb dX9_pressed_37 (by decide) ?_
    refine r_cVi (pc := 40) (As := [.ref (B + a8), .int vp1, .int 999]) (rest := []) CX P hl.1 hF kv_X9_193 (fun r h1 q => c_X5_takePages l G B _ _ _ _ _ _ _ q) rfl rfl ⟨Nat.le_of_ble_eq_true rfl, Nat.le_of_ble_eq_true rfl⟩ (Nat.le_of_ble_eq_true rfl) ⟨Nat.le_of_ble_eq_true rfl, Nat.le_of_ble_eq_true rfl⟩ dX9_pressed_40 (fun v9 h10 H locs P hF => ?_)
    replace hF := un_i hF
    refine lv_pop (pc := 43) hx hb dX9_pressed_43 rfl ?_
    refine lv_aload_n (pc := 44) hx hb dX9_pressed_44 rfl (lv_at hl 0 rfl) ?_
    refine r_gR (pc := 45) CX P hF fl_X9_16 dX9_pressed_45 (fun a11 hF => ?_)
    refine r_gR (pc := 48) CX P hF fl_X9_53 dX9_pressed_48 (fun a12 hF => ?_)
    refine r_gR (pc := 51) CX P hF fl_X9_239 dX9_pressed_51 (fun a13 hF => ?_)
    refine lv_iload_n (pc := 54) hx hb dX9_pressed_54 rfl (lv_at hl 1 rfl) ?_
    refine r_aI (pc := 55) CX P hF dX9_pressed_55 (fun v14 hF => ?_)
    cases hF
    exact hret _ _ _ _ P rfl dX9_pressed_56
  · rw [if_pos hc] at hF
    refine lv_bipush (pc := 14) (v := (-2)) hx hb dX9_pressed_14 (by decide) ?_
    cases hF
    exact hret _ _ _ _ P rfl dX9_pressed_16
def F_X9_would (h : Hp) (a0 : Nat) (vp1 : Int32) (vp2 : Int32) (vp3 : Int32) : Option (Int32 × Hp) :=
(cO h a0 9 (F_X9_wrongCharge h a0 vp1 vp2 vp3)).bind fun v1 =>
if v1 = 0 then (
(gR h a0 9 1).bind fun a2 =>
(gR h a0 9 0).bind fun a3 =>
(cO h a2 8 (F_X8_copyFrom h a2 a3)).bind fun h4 =>
(gR h4 a0 9 5).bind fun a5 =>
(gR h4 a0 9 1).bind fun a6 =>
(cO h4 a5 3 (F_X3_admit h4 a5 a6 vp1 vp2 vp3)).bind (un fun v7 h8 =>
some (v7, h8))) else (
some (v1, h))
set_option maxRecDepth 100000 in
set_option maxHeartbeats 4000000 in
theorem c_X9_would (l : Launch) (G : GG) (B : Nat) (h : Hp) (a0 : Nat) (vp1 : Int32) (vp2 : Int32) (vp3 : Int32) (r0 : Int32) (hr : Hp) (hF : F_X9_would h a0 vp1 vp2 vp3 = some (r0, hr)) : CI l yX9_would cX9_would 5 .int 7 206 0 0 G B h [.ref (B + a0), .int vp1, .int vp2, .int vp3] r0 hr := by
  refine ent_i rfl (Nat.le_of_ble_eq_true rfl) ?_
  intro p e s m args below meth c ls Q CX hnm hret P hl
  have CX : Cxt p m c cX9_would 5 s args RX9 G B := CX
  obtain ⟨⟨hx, hb, hml, hown, hts⟩, -, -⟩ := id CX
  replace hl : lv_has ls 5 [(0, .ref (B + a0)), (1, .int vp1), (2, .int vp2), (3, .int vp3)] := hl
  generalize s.heap = H at P ⊢
  generalize ([] : List Loc) = locs at P ⊢
  unfold F_X9_would at hF
  refine lv_aload_n (pc := 0) hx hb dX9_would_0 rfl (lv_at hl 0 rfl) ?_
  refine lv_iload_n (pc := 1) hx hb dX9_would_1 rfl (lv_at hl 1 rfl) ?_
  refine lv_iload_n (pc := 2) hx hb dX9_would_2 rfl (lv_at hl 2 rfl) ?_
  refine lv_iload_n (pc := 3) hx hb dX9_would_3 rfl (lv_at hl 3 rfl) ?_
  refine r_cVp (pc := 4) (As := [.int vp1, .int vp2, .int vp3]) (rest := []) CX P hl.1 hF kv_X9_142 (fun r q => c_X9_wrongCharge l G B _ _ _ _ _ _ q) rfl rfl ⟨Nat.le_of_ble_eq_true rfl, Nat.le_of_ble_eq_true rfl⟩ (Nat.le_of_ble_eq_true rfl) ⟨Nat.le_of_ble_eq_true rfl, Nat.le_of_ble_eq_true rfl⟩ dX9_would_4 (fun v1 H locs P hF => ?_)
  refine lv_istore (pc := 7) hx hb dX9_would_7 hl (by decide) rfl (fun ls hl => ?_)
  replace hl : lv_has ls 5 [(4, .int v1), (0, .ref (B + a0)), (1, .int vp1), (2, .int vp2), (3, .int vp3)] := hl
  refine lv_iload (pc := 9) hx hb dX9_would_9 (lv_at hl 0 rfl) ?_
  refine lv_if_eq (pc := 11) (tgt := 17) hx hb dX9_would_11 (by decide) (fun hc => ?_) (fun hc => ?_)
  · rw [if_pos hc] at hF
    refine lv_aload_n (pc := 17) hx hb dX9_would_17 rfl (lv_at hl 1 rfl) ?_
    refine r_gR (pc := 18) CX P hF fl_X9_16 dX9_would_18 (fun a2 hF => ?_)
    refine lv_aload_n (pc := 21) hx hb dX9_would_21 rfl (lv_at hl 1 rfl) ?_
    refine r_gR (pc := 22) CX P hF fl_X9_10 dX9_would_22 (fun a3 hF => ?_)
    refine r_cVv (pc := 25) (As := [.ref (B + a3)]) (rest := []) CX P hl.1 hF kv_X9_314 (fun h1 q => c_X8_copyFrom l G B _ _ _ _ q) rfl rfl ⟨Nat.le_of_ble_eq_true rfl, Nat.le_of_ble_eq_true rfl⟩ (Nat.le_of_ble_eq_true rfl) ⟨Nat.le_of_ble_eq_true rfl, Nat.le_of_ble_eq_true rfl⟩ dX9_would_25 (fun h4 H locs P hF => ?_)
    refine lv_aload_n (pc := 28) hx hb dX9_would_28 rfl (lv_at hl 1 rfl) ?_
    refine r_gR (pc := 29) CX P hF fl_X9_42 dX9_would_29 (fun a5 hF => ?_)
    refine lv_aload_n (pc := 32) hx hb dX9_would_32 rfl (lv_at hl 1 rfl) ?_
    refine r_gR (pc := 33) CX P hF fl_X9_16 dX9_would_33 (fun a6 hF => ?_)
    refine lv_iload_n (pc := 36) hx hb dX9_would_36 rfl (lv_at hl 2 rfl) ?_
    refine lv_iload_n (pc := 37) hx hb dX9_would_37 rfl (lv_at hl 3 rfl) ?_
    refine lv_iload_n (pc := 38) hx hb dX9_would_38 rfl (lv_at hl 4 rfl) ?_
    refine r_cVi (pc := 39) (As := [.ref (B + a6), .int vp1, .int vp2, .int vp3]) (rest := []) CX P hl.1 hF kv_X9_146 (fun r h1 q => c_X3_admit l G B _ _ _ _ _ _ _ _ q) rfl rfl ⟨Nat.le_of_ble_eq_true rfl, Nat.le_of_ble_eq_true rfl⟩ (Nat.le_of_ble_eq_true rfl) ⟨Nat.le_of_ble_eq_true rfl, Nat.le_of_ble_eq_true rfl⟩ dX9_would_39 (fun v7 h8 H locs P hF => ?_)
    replace hF := un_i hF
    cases hF
    exact hret _ _ _ _ P rfl dX9_would_42
  · rw [if_neg hc] at hF
    refine lv_iload (pc := 14) hx hb dX9_would_14 (lv_at hl 0 rfl) ?_
    cases hF
    exact hret _ _ _ _ P rfl dX9_would_16
def F_X9_burst_L18 (a3 : Nat) (v4 : Int32) (v5 : Int32) (v6 : Int32) (h7 : Hp) : Option ((Int32 × Hp) ⊕ ((Int32 × Hp) ⊕ (Hp))) :=
if v6 ≤ 0 then (
some (.inr (.inr h7))) else (
(gR h7 a3 9 1).bind fun a8 =>
(gR h7 a3 9 0).bind fun a9 =>
(cO h7 a8 8 (F_X8_copyFrom h7 a8 a9)).bind fun h10 =>
(gR h10 a3 9 5).bind fun a11 =>
(gR h10 a3 9 1).bind fun a12 =>
(cO h10 a11 3 (F_X3_admit h10 a11 a12 v4 v5 v6)).bind (un fun v13 h14 =>
if v13 = 0 then (
some (.inr (.inl (v6, h14)))) else (
if v13 = 1 then (
some (.inr (.inl (v6, h14)))) else (
bl (v6 + (-1)) fun v15 =>
some (.inl (v15, h14))))))
def F_X9_burst (h : Hp) (a0 : Nat) (vp1 : Int32) (vp2 : Int32) : Option (Int32 × Hp) :=
(cO h a0 9 (F_X9_wrongCharge h a0 vp1 vp2 1)).bind fun v1 =>
if v1 = 0 then (
(loopF (fun x => F_X9_burst_L18 a0 vp1 vp2 x.1 x.2) 6000 (99, h)).bind (sE (fun x => some x) (fun h16 =>
some (0, h16)))) else (
some (v1, h))
set_option maxRecDepth 100000 in
set_option maxHeartbeats 4000000 in
theorem c_X9_burst (l : Launch) (G : GG) (B : Nat) (h : Hp) (a0 : Nat) (vp1 : Int32) (vp2 : Int32) (r0 : Int32) (hr : Hp) (hF : F_X9_burst h a0 vp1 vp2 = some (r0, hr)) : CI l yX9_burst cX9_burst 6 .int 7 206 0 0 G B h [.ref (B + a0), .int vp1, .int vp2] r0 hr := by
  refine ent_i rfl (Nat.le_of_ble_eq_true rfl) ?_
  intro p e s m args below meth c ls Q CX hnm hret P hl
  have CX : Cxt p m c cX9_burst 6 s args RX9 G B := CX
  obtain ⟨⟨hx, hb, hml, hown, hts⟩, -, -⟩ := id CX
  replace hl : lv_has ls 6 [(0, .ref (B + a0)), (1, .int vp1), (2, .int vp2)] := hl
  generalize s.heap = H at P ⊢
  generalize ([] : List Loc) = locs at P ⊢
  unfold F_X9_burst at hF
  refine lv_aload_n (pc := 0) hx hb dX9_burst_0 rfl (lv_at hl 0 rfl) ?_
  refine lv_iload_n (pc := 1) hx hb dX9_burst_1 rfl (lv_at hl 1 rfl) ?_
  refine lv_iload_n (pc := 2) hx hb dX9_burst_2 rfl (lv_at hl 2 rfl) ?_
  refine lv_iconst (pc := 3) (v := 1) hx hb dX9_burst_3 (by decide) ?_
  refine r_cVp (pc := 4) (As := [.int vp1, .int vp2, .int 1]) (rest := []) CX P hl.1 hF kv_X9_142 (fun r q => c_X9_wrongCharge l G B _ _ _ _ _ _ q) rfl rfl ⟨Nat.le_of_ble_eq_true rfl, Nat.le_of_ble_eq_true rfl⟩ (Nat.le_of_ble_eq_true rfl) ⟨Nat.le_of_ble_eq_true rfl, Nat.le_of_ble_eq_true rfl⟩ dX9_burst_4 (fun v1 H locs P hF => ?_)
  refine lv_istore_n (pc := 7) hx hb dX9_burst_7 rfl hl (by decide) rfl (fun ls hl => ?_)
  replace hl : lv_has ls 6 [(3, .int v1), (0, .ref (B + a0)), (1, .int vp1), (2, .int vp2)] := hl
  refine lv_iload_n (pc := 8) hx hb dX9_burst_8 rfl (lv_at hl 0 rfl) ?_
  refine lv_if_eq (pc := 9) (tgt := 14) hx hb dX9_burst_9 (by decide) (fun hc => ?_) (fun hc => ?_)
  · rw [if_pos hc] at hF
    refine lv_bipush (pc := 14) (v := 99) hx hb dX9_burst_14 (by decide) ?_
    refine lv_istore (pc := 16) hx hb dX9_burst_16 hl (by decide) rfl (fun ls hl => ?_)
    replace hl : lv_has ls 6 [(4, .int 99), (3, .int v1), (0, .ref (B + a0)), (1, .int vp1), (2, .int vp2)] := hl
    obtain ⟨r2, hLp2, hK2⟩ := bd_some hF
    have hX2 : ∀ (h16 : Hp) (H : Heap) (locs : List Loc) (ls : Array Slot), Pic G B h16 s H locs → lv_has ls 6 [] → .inr h16 = r2 → W p l e (rmM 7 206 0 0) s m args below meth c H locs 0 0 Q (F0 m 71 ls []) := by
      intro h16 H locs ls P hl er
      subst er
      have hF := sE_ri hK2
      refine lv_iconst (pc := 71) (v := 0) hx hb dX9_burst_71 (by decide) ?_
      cases hF
      exact hret _ _ _ _ P rfl dX9_burst_72
    have hL2 : ∀ (n : Nat) (v6 : Int32) (h7 : Hp) (H : Heap) (locs : List Loc) (ls : Array Slot), Pic G B h7 s H locs → lv_has ls 6 [(0, .ref (B + a0)), (1, .int vp1), (2, .int vp2), (4, .int v6)] → loopF (fun x => F_X9_burst_L18 a0 vp1 vp2 x.1 x.2) n (v6, h7) = some r2 → W p l e (rmM 7 206 0 0) s m args below meth c H locs 0 0 Q (F0 m 18 ls []) := by
      intro n
      induction n with
      | zero => intro v6 h7 H locs ls P hl hq; cases hq
      | succ n ih =>
        intro v6 h7 H locs ls P hl hq
        obtain ⟨z2, hS2, hI2, hR2⟩ := loop_some hq
        have hF : F_X9_burst_L18 a0 vp1 vp2 v6 h7 = some z2 := hS2
        unfold F_X9_burst_L18 at hF
        refine lv_iload (pc := 18) hx hb dX9_burst_18 (lv_at hl 3 rfl) ?_
        refine lv_if_le (pc := 20) (tgt := 71) hx hb dX9_burst_20 (by decide) (fun hc => ?_) (fun hc => ?_)
        · rw [if_pos hc] at hF
          exact hX2 _ _ _ _ P (lv_sub hl [] rfl) (hR2 _ (Option.some.inj hF).symm)
        · rw [if_neg hc] at hF
          refine lv_aload_n (pc := 23) hx hb dX9_burst_23 rfl (lv_at hl 0 rfl) ?_
          refine r_gR (pc := 24) CX P hF fl_X9_16 dX9_burst_24 (fun a8 hF => ?_)
          refine lv_aload_n (pc := 27) hx hb dX9_burst_27 rfl (lv_at hl 0 rfl) ?_
          refine r_gR (pc := 28) CX P hF fl_X9_10 dX9_burst_28 (fun a9 hF => ?_)
          refine r_cVv (pc := 31) (As := [.ref (B + a9)]) (rest := []) CX P hl.1 hF kv_X9_314 (fun h1 q => c_X8_copyFrom l G B _ _ _ _ q) rfl rfl ⟨Nat.le_of_ble_eq_true rfl, Nat.le_of_ble_eq_true rfl⟩ (Nat.le_of_ble_eq_true rfl) ⟨Nat.le_of_ble_eq_true rfl, Nat.le_of_ble_eq_true rfl⟩ dX9_burst_31 (fun h10 H locs P hF => ?_)
          refine lv_aload_n (pc := 34) hx hb dX9_burst_34 rfl (lv_at hl 0 rfl) ?_
          refine r_gR (pc := 35) CX P hF fl_X9_42 dX9_burst_35 (fun a11 hF => ?_)
          refine lv_aload_n (pc := 38) hx hb dX9_burst_38 rfl (lv_at hl 0 rfl) ?_
          refine r_gR (pc := 39) CX P hF fl_X9_16 dX9_burst_39 (fun a12 hF => ?_)
          refine lv_iload_n (pc := 42) hx hb dX9_burst_42 rfl (lv_at hl 1 rfl) ?_
          refine lv_iload_n (pc := 43) hx hb dX9_burst_43 rfl (lv_at hl 2 rfl) ?_
          refine lv_iload (pc := 44) hx hb dX9_burst_44 (lv_at hl 3 rfl) ?_
          refine r_cVi (pc := 46) (As := [.ref (B + a12), .int vp1, .int vp2, .int v6]) (rest := []) CX P hl.1 hF kv_X9_146 (fun r h1 q => c_X3_admit l G B _ _ _ _ _ _ _ _ q) rfl rfl ⟨Nat.le_of_ble_eq_true rfl, Nat.le_of_ble_eq_true rfl⟩ (Nat.le_of_ble_eq_true rfl) ⟨Nat.le_of_ble_eq_true rfl, Nat.le_of_ble_eq_true rfl⟩ dX9_burst_46 (fun v13 h14 H locs P hF => ?_)
          replace hF := un_i hF
          refine lv_istore (pc := 49) hx hb dX9_burst_49 hl (by decide) rfl (fun ls hl => ?_)
          replace hl : lv_has ls 6 [(5, .int v13), (0, .ref (B + a0)), (1, .int vp1), (2, .int vp2), (4, .int v6)] := hl
          refine lv_iload (pc := 51) hx hb dX9_burst_51 (lv_at hl 0 rfl) ?_
          refine lv_if_eq (pc := 53) (tgt := 62) hx hb dX9_burst_53 (by decide) (fun hc => ?_) (fun hc => ?_)
          · rw [if_pos hc] at hF
            refine lv_iload (pc := 62) hx hb dX9_burst_62 (lv_at hl 4 rfl) ?_
            have hE := hR2 _ (Option.some.inj hF).symm
            subst hE
            replace hF := sE_li hK2
            cases hF
            exact hret _ _ _ _ P rfl dX9_burst_64
          · rw [if_neg hc] at hF
            refine lv_iload (pc := 56) hx hb dX9_burst_56 (lv_at hl 0 rfl) ?_
            refine lv_iconst (pc := 58) (v := 1) hx hb dX9_burst_58 (by decide) ?_
            refine lv_icmp_ne (pc := 59) (tgt := 65) hx hb dX9_burst_59 (by decide) (fun hc => ?_) (fun hc => ?_)
            · rw [if_neg hc] at hF
              obtain ⟨v15, ev15, hF⟩ := bl_o hF
              refine lv_iinc (pc := 65) (k := 4) (v := v15) hx hb dX9_burst_65 hl rfl ev15 (by decide) rfl (fun ls hl => ?_)
              replace hl : lv_has ls 6 [(4, .int v15), (5, .int v13), (0, .ref (B + a0)), (1, .int vp1), (2, .int vp2)] := hl
              refine lv_goto (pc := 68) (tgt := 18) hx hb dX9_burst_68 (by decide) ?_
              exact ih _ _ _ _ _ P (lv_sub hl [2, 3, 4, 0] rfl) (hI2 _ (Option.some.inj hF).symm)
            · rw [if_pos hc] at hF
              refine lv_iload (pc := 62) hx hb dX9_burst_62 (lv_at hl 4 rfl) ?_
              have hE := hR2 _ (Option.some.inj hF).symm
              subst hE
              replace hF := sE_li hK2
              cases hF
              exact hret _ _ _ _ P rfl dX9_burst_64
    exact hL2 _ _ _ _ _ _ P (lv_sub hl [2, 3, 4, 0] rfl) hLp2
  · rw [if_neg hc] at hF
    refine lv_iload_n (pc := 12) hx hb dX9_burst_12 rfl (lv_at hl 0 rfl) ?_
    cases hF
    exact hret _ _ _ _ P rfl dX9_burst_13
