def F_X10_taken (h : Hp) (a0 : Nat) (vp1 : Int32) (vp2 : Int32) (vp3 : Int32) (vp4 : Int32) : Option (Int32 × Hp) :=
(pI h a0 10 0 0).bind fun h1 =>
(cO h1 a0 10 (F_X10_isPair h1 a0 vp1 vp2)).bind (un fun v2 h3 =>
if v2 = 0 then (
some ((-2), h3)) else (
(F_X10_within h3 (Int32.toInt64 vp4) 0 1).bind fun v4 =>
if v4 = 0 then (
some ((-2), h3)) else (
(F_X10_within h3 (Int32.toInt64 vp3) 1 999).bind fun v5 =>
if v5 = 0 then (
some ((-3), h3)) else (
(cO h3 a0 10 (F_X10_opensPaper h3 a0)).bind fun h6 =>
(cO h6 a0 10 (F_X10_ownOf h6 a0 vp1)).bind (un fun v7 h8 =>
(if vp4 = 1 then (
(cO h8 a0 10 (F_X10_of h8 a0 vp1 10 0)).bind (un fun v10 h11 =>
some ((v10 : Int32), h11))) else (
some ((0 : Int32), h8))).bind fun q9 =>
bl q9.1 fun v12 =>
bl q9.2 fun h13 =>
bl (v7 + v12) fun v14 =>
(cO h13 a0 10 (F_X10_takes h13 a0 vp2 vp3)).bind (un fun v15 h16 =>
(cO h16 a0 10 (F_X10_ownOf h16 a0 vp1)).bind (un fun v17 h18 =>
(if vp4 = 1 then (
(cO h18 a0 10 (F_X10_of h18 a0 vp1 10 0)).bind (un fun v20 h21 =>
some ((v20 : Int32), h21))) else (
some ((0 : Int32), h18))).bind fun q19 =>
bl q19.1 fun v22 =>
bl q19.2 fun h23 =>
bl (v17 + v22) fun v24 =>
(cO h23 a0 10 (F_X10_closesPaper h23 a0)).bind fun h25 =>
some ((v14 - v24), h25))))))))
set_option maxRecDepth 100000 in
set_option maxHeartbeats 4000000 in
theorem c_X10_taken (l : Launch) (G : GG) (B : Nat) (h : Hp) (a0 : Nat) (vp1 : Int32) (vp2 : Int32) (vp3 : Int32) (vp4 : Int32) (r0 : Int32) (hr : Hp) (hF : F_X10_taken h a0 vp1 vp2 vp3 vp4 = some (r0, hr)) : CI l yX10_taken cX10_taken 8 .int 8 191 0 0 G B h [.ref (B + a0), .int vp1, .int vp2, .int vp3, .int vp4] r0 hr := by
  refine ent_i rfl (Nat.le_of_ble_eq_true rfl) ?_
  intro p e s m args below meth c ls Q CX hnm hret P hl
  have CX : Cxt p m c cX10_taken 8 s args RX10 G B := CX
  obtain ⟨⟨hx, hb, hml, hown, hts⟩, -, -⟩ := id CX
  replace hl : lv_has ls 8 [(0, .ref (B + a0)), (1, .int vp1), (2, .int vp2), (3, .int vp3), (4, .int vp4)] := hl
  generalize s.heap = H at P ⊢
  generalize ([] : List Loc) = locs at P ⊢
  unfold F_X10_taken at hF
  refine lv_aload_n (pc := 0) hx hb dX10_taken_0 rfl (lv_at hl 0 rfl) ?_
  refine lv_iconst (pc := 1) (v := 0) hx hb dX10_taken_1 (by decide) ?_
  refine r_pI (pc := 2) CX P hF fl_X10_1 dX10_taken_2 (fun h1 H locs P hF => ?_)
  refine lv_aload_n (pc := 5) hx hb dX10_taken_5 rfl (lv_at hl 0 rfl) ?_
  refine lv_iload_n (pc := 6) hx hb dX10_taken_6 rfl (lv_at hl 1 rfl) ?_
  refine lv_iload_n (pc := 7) hx hb dX10_taken_7 rfl (lv_at hl 2 rfl) ?_
  refine r_cVi (pc := 8) (As := [.int vp1, .int vp2]) (rest := []) CX P hl.1 hF kv_X10_315 (fun r h1 q => c_X10_isPair l G B _ _ _ _ _ _ q) rfl rfl ⟨Nat.le_of_ble_eq_true rfl, Nat.le_of_ble_eq_true rfl⟩ (Nat.le_of_ble_eq_true rfl) ⟨Nat.le_of_ble_eq_true rfl, Nat.le_of_ble_eq_true rfl⟩ dX10_taken_8 (fun v2 h3 H locs P hF => ?_)
  replace hF := un_i hF
  refine lv_if_eq (pc := 11) (tgt := 25) hx hb dX10_taken_11 (by decide) (fun hc => ?_) (fun hc => ?_)
  · rw [if_pos hc] at hF
    refine lv_bipush (pc := 25) (v := (-2)) hx hb dX10_taken_25 (by decide) ?_
    cases hF
    exact hret _ _ _ _ P rfl dX10_taken_27
  · rw [if_neg hc] at hF
    refine lv_iload (pc := 14) hx hb dX10_taken_14 (lv_at hl 4 rfl) ?_
    refine lv_i2l (pc := 16) hx hb dX10_taken_16 rfl ?_
    refine lv_lconst (pc := 17) (v := 0) hx hb dX10_taken_17 (by decide) ?_
    refine lv_lconst (pc := 18) (v := 1) hx hb dX10_taken_18 (by decide) ?_
    refine r_cSp (pc := 19) (As := [.long (Int32.toInt64 vp4), .long 0, .long 1]) (rest := []) CX P hl.1 hF ks_X10_85 (fun r q => c_X10_within l G B _ _ _ _ _ q) rfl rfl ⟨Nat.le_of_ble_eq_true rfl, Nat.le_of_ble_eq_true rfl⟩ (Nat.le_of_ble_eq_true rfl) ⟨Nat.le_of_ble_eq_true rfl, Nat.le_of_ble_eq_true rfl⟩ dX10_taken_19 (fun v4 H locs P hF => ?_)
    refine lv_if_ne (pc := 22) (tgt := 28) hx hb dX10_taken_22 (by decide) (fun hc => ?_) (fun hc => ?_)
    · rw [if_neg hc] at hF
      refine lv_iload_n (pc := 28) hx hb dX10_taken_28 rfl (lv_at hl 3 rfl) ?_
      refine lv_i2l (pc := 29) hx hb dX10_taken_29 rfl ?_
      refine lv_lconst (pc := 30) (v := 1) hx hb dX10_taken_30 (by decide) ?_
      refine lv_ldc2 (pc := 31) (v := 999) hx hb hown (hts _ tw_1255) dX10_taken_31 ?_
      refine r_cSp (pc := 34) (As := [.long (Int32.toInt64 vp3), .long 1, .long 999]) (rest := []) CX P hl.1 hF ks_X10_85 (fun r q => c_X10_within l G B _ _ _ _ _ q) rfl rfl ⟨Nat.le_of_ble_eq_true rfl, Nat.le_of_ble_eq_true rfl⟩ (Nat.le_of_ble_eq_true rfl) ⟨Nat.le_of_ble_eq_true rfl, Nat.le_of_ble_eq_true rfl⟩ dX10_taken_34 (fun v5 H locs P hF => ?_)
      refine lv_if_ne (pc := 37) (tgt := 43) hx hb dX10_taken_37 (by decide) (fun hc => ?_) (fun hc => ?_)
      · rw [if_neg hc] at hF
        refine lv_aload_n (pc := 43) hx hb dX10_taken_43 rfl (lv_at hl 0 rfl) ?_
        refine r_cVv (pc := 44) (As := []) (rest := []) CX P hl.1 hF kv_X10_321 (fun h1 q => c_X10_opensPaper l G B _ _ _ q) rfl rfl ⟨Nat.le_of_ble_eq_true rfl, Nat.le_of_ble_eq_true rfl⟩ (Nat.le_of_ble_eq_true rfl) ⟨Nat.le_of_ble_eq_true rfl, Nat.le_of_ble_eq_true rfl⟩ dX10_taken_44 (fun h6 H locs P hF => ?_)
        refine lv_aload_n (pc := 47) hx hb dX10_taken_47 rfl (lv_at hl 0 rfl) ?_
        refine lv_iload_n (pc := 48) hx hb dX10_taken_48 rfl (lv_at hl 1 rfl) ?_
        refine r_cVi (pc := 49) (As := [.int vp1]) (rest := []) CX P hl.1 hF kv_X10_310 (fun r h1 q => c_X10_ownOf l G B _ _ _ _ _ q) rfl rfl ⟨Nat.le_of_ble_eq_true rfl, Nat.le_of_ble_eq_true rfl⟩ (Nat.le_of_ble_eq_true rfl) ⟨Nat.le_of_ble_eq_true rfl, Nat.le_of_ble_eq_true rfl⟩ dX10_taken_49 (fun v7 h8 H locs P hF => ?_)
        replace hF := un_i hF
        refine lv_iload (pc := 52) hx hb dX10_taken_52 (lv_at hl 4 rfl) ?_
        refine lv_iconst (pc := 54) (v := 1) hx hb dX10_taken_54 (by decide) ?_
        obtain ⟨j9, hA9, hK9⟩ := bd_some hF
        have hJ9 : ∀ (v12 : Int32) (h13 : Hp) (H : Heap) (locs : List Loc) (ls : Array Slot), Pic G B h13 s H locs → lv_has ls 8 [(0, .ref (B + a0)), (1, .int vp1), (2, .int vp2), (3, .int vp3), (4, .int vp4)] → (v12, h13) = j9 → W p l e (rmM 8 191 0 0) s m args below meth c H locs 0 0 Q (F0 m 70 ls [.int v12, .int v7]) := by
          intro v12 h13 H locs ls P hl ej
          subst ej
          have hF := hK9
          replace hF := bl_i hF
          replace hF := bl_i hF
          try dsimp only at hF
          refine lv_iadd (pc := 70) hx hb dX10_taken_70 ?_
          refine lv_topi (fun v14 ev14 => ?_)
          replace hF := bl_e hF ev14
          refine lv_istore (pc := 71) hx hb dX10_taken_71 hl (by decide) rfl (fun ls hl => ?_)
          replace hl : lv_has ls 8 [(5, .int v14), (0, .ref (B + a0)), (1, .int vp1), (2, .int vp2), (3, .int vp3), (4, .int vp4)] := hl
          refine lv_aload_n (pc := 73) hx hb dX10_taken_73 rfl (lv_at hl 1 rfl) ?_
          refine lv_iload_n (pc := 74) hx hb dX10_taken_74 rfl (lv_at hl 3 rfl) ?_
          refine lv_iload_n (pc := 75) hx hb dX10_taken_75 rfl (lv_at hl 4 rfl) ?_
          refine r_cVi (pc := 76) (As := [.int vp2, .int vp3]) (rest := []) CX P hl.1 hF kv_X10_190 (fun r h1 q => c_X10_takes l G B _ _ _ _ _ _ q) rfl rfl ⟨Nat.le_of_ble_eq_true rfl, Nat.le_of_ble_eq_true rfl⟩ (Nat.le_of_ble_eq_true rfl) ⟨Nat.le_of_ble_eq_true rfl, Nat.le_of_ble_eq_true rfl⟩ dX10_taken_76 (fun v15 h16 H locs P hF => ?_)
          replace hF := un_i hF
          refine lv_istore (pc := 79) hx hb dX10_taken_79 hl (by decide) rfl (fun ls hl => ?_)
          replace hl : lv_has ls 8 [(6, .int v15), (5, .int v14), (0, .ref (B + a0)), (1, .int vp1), (2, .int vp2), (3, .int vp3), (4, .int vp4)] := hl
          refine lv_aload_n (pc := 81) hx hb dX10_taken_81 rfl (lv_at hl 2 rfl) ?_
          refine lv_iload_n (pc := 82) hx hb dX10_taken_82 rfl (lv_at hl 3 rfl) ?_
          refine r_cVi (pc := 83) (As := [.int vp1]) (rest := []) CX P hl.1 hF kv_X10_310 (fun r h1 q => c_X10_ownOf l G B _ _ _ _ _ q) rfl rfl ⟨Nat.le_of_ble_eq_true rfl, Nat.le_of_ble_eq_true rfl⟩ (Nat.le_of_ble_eq_true rfl) ⟨Nat.le_of_ble_eq_true rfl, Nat.le_of_ble_eq_true rfl⟩ dX10_taken_83 (fun v17 h18 H locs P hF => ?_)
          replace hF := un_i hF
          refine lv_iload (pc := 86) hx hb dX10_taken_86 (lv_at hl 6 rfl) ?_
          refine lv_iconst (pc := 88) (v := 1) hx hb dX10_taken_88 (by decide) ?_
          obtain ⟨j19, hA19, hK19⟩ := bd_some hF
          have hJ19 : ∀ (v22 : Int32) (h23 : Hp) (H : Heap) (locs : List Loc) (ls : Array Slot), Pic G B h23 s H locs → lv_has ls 8 [(0, .ref (B + a0)), (5, .int v14)] → (v22, h23) = j19 → W p l e (rmM 8 191 0 0) s m args below meth c H locs 0 0 Q (F0 m 104 ls [.int v22, .int v17]) := by
            intro v22 h23 H locs ls P hl ej
            subst ej
            have hF := hK19
            replace hF := bl_i hF
            replace hF := bl_i hF
            try dsimp only at hF
            refine lv_iadd (pc := 104) hx hb dX10_taken_104 ?_
            refine lv_topi (fun v24 ev24 => ?_)
            replace hF := bl_e hF ev24
            refine lv_istore (pc := 105) hx hb dX10_taken_105 hl (by decide) rfl (fun ls hl => ?_)
            replace hl : lv_has ls 8 [(7, .int v24), (0, .ref (B + a0)), (5, .int v14)] := hl
            refine lv_aload_n (pc := 107) hx hb dX10_taken_107 rfl (lv_at hl 1 rfl) ?_
            refine r_cVv (pc := 108) (As := []) (rest := []) CX P hl.1 hF kv_X10_324 (fun h1 q => c_X10_closesPaper l G B _ _ _ q) rfl rfl ⟨Nat.le_of_ble_eq_true rfl, Nat.le_of_ble_eq_true rfl⟩ (Nat.le_of_ble_eq_true rfl) ⟨Nat.le_of_ble_eq_true rfl, Nat.le_of_ble_eq_true rfl⟩ dX10_taken_108 (fun h25 H locs P hF => ?_)
            refine lv_iload (pc := 111) hx hb dX10_taken_111 (lv_at hl 2 rfl) ?_
            refine lv_iload (pc := 113) hx hb dX10_taken_113 (lv_at hl 0 rfl) ?_
            refine lv_isub (pc := 115) hx hb dX10_taken_115 ?_
            cases hF
            exact hret _ _ _ _ P rfl dX10_taken_116
          replace hF := hA19
          refine lv_icmp_ne (pc := 89) (tgt := 103) hx hb dX10_taken_89 (by decide) (fun hc => ?_) (fun hc => ?_)
          · rw [if_neg hc] at hF
            refine lv_iconst (pc := 103) (v := 0) hx hb dX10_taken_103 (by decide) ?_
            exact hJ19 _ _ _ _ _ P (lv_sub hl [2, 1] rfl) (Option.some.inj hF)
          · rw [if_pos hc] at hF
            refine lv_aload_n (pc := 92) hx hb dX10_taken_92 rfl (lv_at hl 2 rfl) ?_
            refine lv_iload_n (pc := 93) hx hb dX10_taken_93 rfl (lv_at hl 3 rfl) ?_
            refine lv_bipush (pc := 94) (v := 10) hx hb dX10_taken_94 (by decide) ?_
            refine lv_iconst (pc := 96) (v := 0) hx hb dX10_taken_96 (by decide) ?_
            refine r_cVi (pc := 97) (As := [.int vp1, .int 10, .int 0]) (rest := [.int v17]) CX P hl.1 hF kv_X10_99 (fun r h1 q => c_X10_of l G B _ _ _ _ _ _ _ q) rfl rfl ⟨Nat.le_of_ble_eq_true rfl, Nat.le_of_ble_eq_true rfl⟩ (Nat.le_of_ble_eq_true rfl) ⟨Nat.le_of_ble_eq_true rfl, Nat.le_of_ble_eq_true rfl⟩ dX10_taken_97 (fun v20 h21 H locs P hF => ?_)
            replace hF := un_i hF
            refine lv_goto (pc := 100) (tgt := 104) hx hb dX10_taken_100 (by decide) ?_
            exact hJ19 _ _ _ _ _ P (lv_sub hl [2, 1] rfl) (Option.some.inj hF)
        replace hF := hA9
        refine lv_icmp_ne (pc := 55) (tgt := 69) hx hb dX10_taken_55 (by decide) (fun hc => ?_) (fun hc => ?_)
        · rw [if_neg hc] at hF
          refine lv_iconst (pc := 69) (v := 0) hx hb dX10_taken_69 (by decide) ?_
          exact hJ9 _ _ _ _ _ P (lv_sub hl [0, 1, 2, 3, 4] rfl) (Option.some.inj hF)
        · rw [if_pos hc] at hF
          refine lv_aload_n (pc := 58) hx hb dX10_taken_58 rfl (lv_at hl 0 rfl) ?_
          refine lv_iload_n (pc := 59) hx hb dX10_taken_59 rfl (lv_at hl 1 rfl) ?_
          refine lv_bipush (pc := 60) (v := 10) hx hb dX10_taken_60 (by decide) ?_
          refine lv_iconst (pc := 62) (v := 0) hx hb dX10_taken_62 (by decide) ?_
          refine r_cVi (pc := 63) (As := [.int vp1, .int 10, .int 0]) (rest := [.int v7]) CX P hl.1 hF kv_X10_99 (fun r h1 q => c_X10_of l G B _ _ _ _ _ _ _ q) rfl rfl ⟨Nat.le_of_ble_eq_true rfl, Nat.le_of_ble_eq_true rfl⟩ (Nat.le_of_ble_eq_true rfl) ⟨Nat.le_of_ble_eq_true rfl, Nat.le_of_ble_eq_true rfl⟩ dX10_taken_63 (fun v10 h11 H locs P hF => ?_)
          replace hF := un_i hF
          refine lv_goto (pc := 66) (tgt := 70) hx hb dX10_taken_66 (by decide) ?_
          exact hJ9 _ _ _ _ _ P (lv_sub hl [0, 1, 2, 3, 4] rfl) (Option.some.inj hF)
      · rw [if_pos hc] at hF
        refine lv_bipush (pc := 40) (v := (-3)) hx hb dX10_taken_40 (by decide) ?_
        cases hF
        exact hret _ _ _ _ P rfl dX10_taken_42
    · rw [if_pos hc] at hF
      refine lv_bipush (pc := 25) (v := (-2)) hx hb dX10_taken_25 (by decide) ?_
      cases hF
      exact hret _ _ _ _ P rfl dX10_taken_27
def F_X10_leastRoom_L6 (a2 : Nat) (v3 : Int32) (v4 : Int32) (h5 : Hp) : Option ((Int32 × Int32 × Hp) ⊕ (Int32 × Hp)) :=
if v4 = (-1) then (
some (.inr (v3, h5))) else (
(cO h5 a2 10 (F_X10_of h5 a2 v4 3 0)).bind (un fun v6 h7 =>
(cO h7 a2 10 (F_X10_totalOf h7 a2 v4)).bind (un fun v8 h9 =>
(F_X10_lesser h9 v3 (v6 - v8)).bind fun v10 =>
(cO h9 a2 10 (F_X10_parentOf h9 a2 v4)).bind (un fun v11 h12 =>
some (.inl (v10, v11, h12))))))
def F_X10_leastRoom (h : Hp) (a0 : Nat) (vp1 : Int32) : Option (Int32 × Hp) :=
(loopF (fun x => F_X10_leastRoom_L6 a0 x.1 x.2.1 x.2.2) 6000 (1048576, vp1, h)).bind fun q1 =>
bl q1.1 fun v13 =>
bl q1.2 fun h14 =>
some (v13, h14)
set_option maxRecDepth 100000 in
set_option maxHeartbeats 4000000 in
theorem c_X10_leastRoom (l : Launch) (G : GG) (B : Nat) (h : Hp) (a0 : Nat) (vp1 : Int32) (r0 : Int32) (hr : Hp) (hF : F_X10_leastRoom h a0 vp1 = some (r0, hr)) : CI l yX10_leastRoom cX10_leastRoom 4 .int 5 110 0 0 G B h [.ref (B + a0), .int vp1] r0 hr := by
  refine ent_i rfl (Nat.le_of_ble_eq_true rfl) ?_
  intro p e s m args below meth c ls Q CX hnm hret P hl
  have CX : Cxt p m c cX10_leastRoom 4 s args RX10 G B := CX
  obtain ⟨⟨hx, hb, hml, hown, hts⟩, -, -⟩ := id CX
  replace hl : lv_has ls 4 [(0, .ref (B + a0)), (1, .int vp1)] := hl
  generalize s.heap = H at P ⊢
  generalize ([] : List Loc) = locs at P ⊢
  unfold F_X10_leastRoom at hF
  refine lv_ldcw (pc := 0) (v := 1048576) hx hb hown (hts _ tw_1492) dX10_leastRoom_0 ?_
  refine lv_istore_n (pc := 3) hx hb dX10_leastRoom_3 rfl hl (by decide) rfl (fun ls hl => ?_)
  replace hl : lv_has ls 4 [(2, .int 1048576), (0, .ref (B + a0)), (1, .int vp1)] := hl
  refine lv_iload_n (pc := 4) hx hb dX10_leastRoom_4 rfl (lv_at hl 2 rfl) ?_
  refine lv_istore_n (pc := 5) hx hb dX10_leastRoom_5 rfl hl (by decide) rfl (fun ls hl => ?_)
  replace hl : lv_has ls 4 [(3, .int vp1), (2, .int 1048576), (0, .ref (B + a0)), (1, .int vp1)] := hl
  obtain ⟨r1, hLp1, hK1⟩ := bd_some hF
  have hX1 : ∀ (v13 : Int32) (h14 : Hp) (H : Heap) (locs : List Loc) (ls : Array Slot), Pic G B h14 s H locs → lv_has ls 4 [(2, .int v13)] → (v13, h14) = r1 → W p l e (rmM 5 110 0 0) s m args below meth c H locs 0 0 Q (F0 m 38 ls []) := by
    intro v13 h14 H locs ls P hl er
    subst er
    have hF := hK1
    replace hF := bl_i hF
    replace hF := bl_i hF
    try dsimp only at hF
    refine lv_iload_n (pc := 38) hx hb dX10_leastRoom_38 rfl (lv_at hl 0 rfl) ?_
    cases hF
    exact hret _ _ _ _ P rfl dX10_leastRoom_39
  have hL1 : ∀ (n : Nat) (v3 : Int32) (v4 : Int32) (h5 : Hp) (H : Heap) (locs : List Loc) (ls : Array Slot), Pic G B h5 s H locs → lv_has ls 4 [(0, .ref (B + a0)), (2, .int v3), (3, .int v4)] → loopF (fun x => F_X10_leastRoom_L6 a0 x.1 x.2.1 x.2.2) n (v3, v4, h5) = some r1 → W p l e (rmM 5 110 0 0) s m args below meth c H locs 0 0 Q (F0 m 6 ls []) := by
    intro n
    induction n with
    | zero => intro v3 v4 h5 H locs ls P hl hq; cases hq
    | succ n ih =>
      intro v3 v4 h5 H locs ls P hl hq
      obtain ⟨z1, hS1, hI1, hR1⟩ := loop_some hq
      have hF : F_X10_leastRoom_L6 a0 v3 v4 h5 = some z1 := hS1
      unfold F_X10_leastRoom_L6 at hF
      refine lv_iload_n (pc := 6) hx hb dX10_leastRoom_6 rfl (lv_at hl 2 rfl) ?_
      refine lv_iconst (pc := 7) (v := (-1)) hx hb dX10_leastRoom_7 (by decide) ?_
      refine lv_icmp_eq (pc := 8) (tgt := 38) hx hb dX10_leastRoom_8 (by decide) (fun hc => ?_) (fun hc => ?_)
      · rw [if_pos hc] at hF
        exact hX1 _ _ _ _ _ P (lv_sub hl [1] rfl) (hR1 _ (Option.some.inj hF).symm)
      · rw [if_neg hc] at hF
        refine lv_iload_n (pc := 11) hx hb dX10_leastRoom_11 rfl (lv_at hl 1 rfl) ?_
        refine lv_aload_n (pc := 12) hx hb dX10_leastRoom_12 rfl (lv_at hl 0 rfl) ?_
        refine lv_iload_n (pc := 13) hx hb dX10_leastRoom_13 rfl (lv_at hl 2 rfl) ?_
        refine lv_iconst (pc := 14) (v := 3) hx hb dX10_leastRoom_14 (by decide) ?_
        refine lv_iconst (pc := 15) (v := 0) hx hb dX10_leastRoom_15 (by decide) ?_
        refine r_cVi (pc := 16) (As := [.int v4, .int 3, .int 0]) (rest := [.int v3]) CX P hl.1 hF kv_X10_99 (fun r h1 q => c_X10_of l G B _ _ _ _ _ _ _ q) rfl rfl ⟨Nat.le_of_ble_eq_true rfl, Nat.le_of_ble_eq_true rfl⟩ (Nat.le_of_ble_eq_true rfl) ⟨Nat.le_of_ble_eq_true rfl, Nat.le_of_ble_eq_true rfl⟩ dX10_leastRoom_16 (fun v6 h7 H locs P hF => ?_)
        replace hF := un_i hF
        refine lv_aload_n (pc := 19) hx hb dX10_leastRoom_19 rfl (lv_at hl 0 rfl) ?_
        refine lv_iload_n (pc := 20) hx hb dX10_leastRoom_20 rfl (lv_at hl 2 rfl) ?_
        refine r_cVi (pc := 21) (As := [.int v4]) (rest := [.int v6, .int v3]) CX P hl.1 hF kv_X10_184 (fun r h1 q => c_X10_totalOf l G B _ _ _ _ _ q) rfl rfl ⟨Nat.le_of_ble_eq_true rfl, Nat.le_of_ble_eq_true rfl⟩ (Nat.le_of_ble_eq_true rfl) ⟨Nat.le_of_ble_eq_true rfl, Nat.le_of_ble_eq_true rfl⟩ dX10_leastRoom_21 (fun v8 h9 H locs P hF => ?_)
        replace hF := un_i hF
        refine lv_isub (pc := 24) hx hb dX10_leastRoom_24 ?_
        refine r_cSp (pc := 25) (As := [.int v3, .int (v6 - v8)]) (rest := []) CX P hl.1 hF ks_X10_137 (fun r q => c_X10_lesser l G B _ _ _ _ q) rfl rfl ⟨Nat.le_of_ble_eq_true rfl, Nat.le_of_ble_eq_true rfl⟩ (Nat.le_of_ble_eq_true rfl) ⟨Nat.le_of_ble_eq_true rfl, Nat.le_of_ble_eq_true rfl⟩ dX10_leastRoom_25 (fun v10 H locs P hF => ?_)
        refine lv_istore_n (pc := 28) hx hb dX10_leastRoom_28 rfl hl (by decide) rfl (fun ls hl => ?_)
        replace hl : lv_has ls 4 [(2, .int v10), (0, .ref (B + a0)), (3, .int v4)] := hl
        refine lv_aload_n (pc := 29) hx hb dX10_leastRoom_29 rfl (lv_at hl 1 rfl) ?_
        refine lv_iload_n (pc := 30) hx hb dX10_leastRoom_30 rfl (lv_at hl 2 rfl) ?_
        refine r_cVi (pc := 31) (As := [.int v4]) (rest := []) CX P hl.1 hF kv_X10_103 (fun r h1 q => c_X10_parentOf l G B _ _ _ _ _ q) rfl rfl ⟨Nat.le_of_ble_eq_true rfl, Nat.le_of_ble_eq_true rfl⟩ (Nat.le_of_ble_eq_true rfl) ⟨Nat.le_of_ble_eq_true rfl, Nat.le_of_ble_eq_true rfl⟩ dX10_leastRoom_31 (fun v11 h12 H locs P hF => ?_)
        replace hF := un_i hF
        refine lv_istore_n (pc := 34) hx hb dX10_leastRoom_34 rfl hl (by decide) rfl (fun ls hl => ?_)
        replace hl : lv_has ls 4 [(3, .int v11), (2, .int v10), (0, .ref (B + a0))] := hl
        refine lv_goto (pc := 35) (tgt := 6) hx hb dX10_leastRoom_35 (by decide) ?_
        exact ih _ _ _ _ _ _ P (lv_sub hl [2, 1, 0] rfl) (hI1 _ (Option.some.inj hF).symm)
  exact hL1 _ _ _ _ _ _ _ P (lv_sub hl [2, 1, 0] rfl) hLp1
def F_X10_room (h : Hp) (a0 : Nat) (vp1 : Int32) : Option (Int32 × Hp) :=
(pI h a0 10 0 0).bind fun h1 =>
(cO h1 a0 10 (F_X10_isGroup h1 a0 vp1)).bind fun v2 =>
if v2 = 0 then (
some ((-2), h1)) else (
(cO h1 a0 10 (F_X10_leastRoom h1 a0 vp1)).bind (un fun v3 h4 =>
(cO h4 a0 10 (F_X10_of h4 a0 vp1 10 0)).bind (un fun v5 h6 =>
some ((v3 + v5), h6))))
set_option maxRecDepth 100000 in
set_option maxHeartbeats 4000000 in
theorem c_X10_room (l : Launch) (G : GG) (B : Nat) (h : Hp) (a0 : Nat) (vp1 : Int32) (r0 : Int32) (hr : Hp) (hF : F_X10_room h a0 vp1 = some (r0, hr)) : CI l yX10_room cX10_room 2 .int 6 133 0 0 G B h [.ref (B + a0), .int vp1] r0 hr := by
  refine ent_i rfl (Nat.le_of_ble_eq_true rfl) ?_
  intro p e s m args below meth c ls Q CX hnm hret P hl
  have CX : Cxt p m c cX10_room 2 s args RX10 G B := CX
  obtain ⟨⟨hx, hb, hml, hown, hts⟩, -, -⟩ := id CX
  replace hl : lv_has ls 2 [(0, .ref (B + a0)), (1, .int vp1)] := hl
  generalize s.heap = H at P ⊢
  generalize ([] : List Loc) = locs at P ⊢
  unfold F_X10_room at hF
  refine lv_aload_n (pc := 0) hx hb dX10_room_0 rfl (lv_at hl 0 rfl) ?_
  refine lv_iconst (pc := 1) (v := 0) hx hb dX10_room_1 (by decide) ?_
  refine r_pI (pc := 2) CX P hF fl_X10_1 dX10_room_2 (fun h1 H locs P hF => ?_)
  refine lv_aload_n (pc := 5) hx hb dX10_room_5 rfl (lv_at hl 0 rfl) ?_
  refine lv_iload_n (pc := 6) hx hb dX10_room_6 rfl (lv_at hl 1 rfl) ?_
  refine r_cVp (pc := 7) (As := [.int vp1]) (rest := []) CX P hl.1 hF kv_X10_107 (fun r q => c_X10_isGroup l G B _ _ _ _ q) rfl rfl ⟨Nat.le_of_ble_eq_true rfl, Nat.le_of_ble_eq_true rfl⟩ (Nat.le_of_ble_eq_true rfl) ⟨Nat.le_of_ble_eq_true rfl, Nat.le_of_ble_eq_true rfl⟩ dX10_room_7 (fun v2 H locs P hF => ?_)
  refine lv_if_eq (pc := 10) (tgt := 30) hx hb dX10_room_10 (by decide) (fun hc => ?_) (fun hc => ?_)
  · rw [if_pos hc] at hF
    refine lv_bipush (pc := 30) (v := (-2)) hx hb dX10_room_30 (by decide) ?_
    cases hF
    exact hret _ _ _ _ P rfl dX10_room_32
  · rw [if_neg hc] at hF
    refine lv_aload_n (pc := 13) hx hb dX10_room_13 rfl (lv_at hl 0 rfl) ?_
    refine lv_iload_n (pc := 14) hx hb dX10_room_14 rfl (lv_at hl 1 rfl) ?_
    refine r_cVi (pc := 15) (As := [.int vp1]) (rest := []) CX P hl.1 hF kv_X10_337 (fun r h1 q => c_X10_leastRoom l G B _ _ _ _ _ q) rfl rfl ⟨Nat.le_of_ble_eq_true rfl, Nat.le_of_ble_eq_true rfl⟩ (Nat.le_of_ble_eq_true rfl) ⟨Nat.le_of_ble_eq_true rfl, Nat.le_of_ble_eq_true rfl⟩ dX10_room_15 (fun v3 h4 H locs P hF => ?_)
    replace hF := un_i hF
    refine lv_aload_n (pc := 18) hx hb dX10_room_18 rfl (lv_at hl 0 rfl) ?_
    refine lv_iload_n (pc := 19) hx hb dX10_room_19 rfl (lv_at hl 1 rfl) ?_
    refine lv_bipush (pc := 20) (v := 10) hx hb dX10_room_20 (by decide) ?_
    refine lv_iconst (pc := 22) (v := 0) hx hb dX10_room_22 (by decide) ?_
    refine r_cVi (pc := 23) (As := [.int vp1, .int 10, .int 0]) (rest := [.int v3]) CX P hl.1 hF kv_X10_99 (fun r h1 q => c_X10_of l G B _ _ _ _ _ _ _ q) rfl rfl ⟨Nat.le_of_ble_eq_true rfl, Nat.le_of_ble_eq_true rfl⟩ (Nat.le_of_ble_eq_true rfl) ⟨Nat.le_of_ble_eq_true rfl, Nat.le_of_ble_eq_true rfl⟩ dX10_room_23 (fun v5 h6 H locs P hF => ?_)
    replace hF := un_i hF
    refine lv_iadd (pc := 26) hx hb dX10_room_26 ?_
    refine lv_goto (pc := 27) (tgt := 32) hx hb dX10_room_27 (by decide) ?_
    cases hF
    exact hret _ _ _ _ P rfl dX10_room_32
def F_X10_roomBehind_L9 (a4 : Nat) (v5 : Int32) (v6 : Int32) (v7 : Int32) (v8 : Int32) (h9 : Hp) : Option ((Int32 × Hp) ⊕ ((Int32 × Hp) ⊕ (Hp))) :=
if v8 = (-1) then (
some (.inr (.inr h9))) else (
(cO h9 a4 10 (F_X10_isBelow h9 a4 v7 v8)).bind (un fun v10 h11 =>
if v10 = 0 then (
(cO h11 a4 10 (F_X10_hasRoomFor h11 a4 v8 v5)).bind (un fun v12 h13 =>
if v12 = 0 then (
some (.inr (.inl ((-1), h13)))) else (
(cO h13 a4 10 (F_X10_totalOf h13 a4 v8)).bind (un fun v14 h15 =>
(cO h15 a4 10 (F_X10_pagesOf h15 a4 v5)).bind (un fun v16 h17 =>
(cO h17 a4 10 (F_X10_of h17 a4 v8 3 0)).bind (un fun v18 h19 =>
if (v14 + v16) ≤ v18 then (
(cO h19 a4 10 (F_X10_parentOf h19 a4 v8)).bind (un fun v20 h21 =>
some (.inl (v20, h21)))) else (
some (.inr (.inl ((-1), h19)))))))))) else (
some (.inr (.inr h11)))))
def F_X10_roomBehind (h : Hp) (a0 : Nat) (vp1 : Int32) (vp2 : Int32) : Option (Int32 × Hp) :=
(cO h a0 10 (F_X10_groupOf h a0 vp1)).bind (un fun v1 h2 =>
(loopF (fun x => F_X10_roomBehind_L9 a0 vp1 vp2 v1 x.1 x.2) 6000 (vp2, h2)).bind (sE (fun x => some x) (fun h22 =>
(cO h22 a0 10 (F_X10_laysProcess h22 a0 vp1 0 vp2)).bind fun h23 =>
(cO h23 a0 10 (F_X10_leastRoom h23 a0 vp2)).bind (un fun v24 h25 =>
(cO h25 a0 10 (F_X10_laysProcess h25 a0 vp1 0 v1)).bind fun h26 =>
some (v24, h26)))))
set_option maxRecDepth 100000 in
set_option maxHeartbeats 4000000 in
theorem c_X10_roomBehind (l : Launch) (G : GG) (B : Nat) (h : Hp) (a0 : Nat) (vp1 : Int32) (vp2 : Int32) (r0 : Int32) (hr : Hp) (hF : F_X10_roomBehind h a0 vp1 vp2 = some (r0, hr)) : CI l yX10_roomBehind cX10_roomBehind 5 .int 6 134 0 0 G B h [.ref (B + a0), .int vp1, .int vp2] r0 hr := by
  refine ent_i rfl (Nat.le_of_ble_eq_true rfl) ?_
  intro p e s m args below meth c ls Q CX hnm hret P hl
  have CX : Cxt p m c cX10_roomBehind 5 s args RX10 G B := CX
  obtain ⟨⟨hx, hb, hml, hown, hts⟩, -, -⟩ := id CX
  replace hl : lv_has ls 5 [(0, .ref (B + a0)), (1, .int vp1), (2, .int vp2)] := hl
  generalize s.heap = H at P ⊢
  generalize ([] : List Loc) = locs at P ⊢
  unfold F_X10_roomBehind at hF
  refine lv_aload_n (pc := 0) hx hb dX10_roomBehind_0 rfl (lv_at hl 0 rfl) ?_
  refine lv_iload_n (pc := 1) hx hb dX10_roomBehind_1 rfl (lv_at hl 1 rfl) ?_
  refine r_cVi (pc := 2) (As := [.int vp1]) (rest := []) CX P hl.1 hF kv_X10_120 (fun r h1 q => c_X10_groupOf l G B _ _ _ _ _ q) rfl rfl ⟨Nat.le_of_ble_eq_true rfl, Nat.le_of_ble_eq_true rfl⟩ (Nat.le_of_ble_eq_true rfl) ⟨Nat.le_of_ble_eq_true rfl, Nat.le_of_ble_eq_true rfl⟩ dX10_roomBehind_2 (fun v1 h2 H locs P hF => ?_)
  replace hF := un_i hF
  refine lv_istore_n (pc := 5) hx hb dX10_roomBehind_5 rfl hl (by decide) rfl (fun ls hl => ?_)
  replace hl : lv_has ls 5 [(3, .int v1), (0, .ref (B + a0)), (1, .int vp1), (2, .int vp2)] := hl
  refine lv_iload_n (pc := 6) hx hb dX10_roomBehind_6 rfl (lv_at hl 3 rfl) ?_
  refine lv_istore (pc := 7) hx hb dX10_roomBehind_7 hl (by decide) rfl (fun ls hl => ?_)
  replace hl : lv_has ls 5 [(4, .int vp2), (3, .int v1), (0, .ref (B + a0)), (1, .int vp1), (2, .int vp2)] := hl
  obtain ⟨r3, hLp3, hK3⟩ := bd_some hF
  have hX3 : ∀ (h22 : Hp) (H : Heap) (locs : List Loc) (ls : Array Slot), Pic G B h22 s H locs → lv_has ls 5 [(0, .ref (B + a0)), (1, .int vp1), (2, .int vp2), (3, .int v1)] → .inr h22 = r3 → W p l e (rmM 6 134 0 0) s m args below meth c H locs 0 0 Q (F0 m 71 ls []) := by
    intro h22 H locs ls P hl er
    subst er
    have hF := sE_ri hK3
    refine lv_aload_n (pc := 71) hx hb dX10_roomBehind_71 rfl (lv_at hl 0 rfl) ?_
    refine lv_iload_n (pc := 72) hx hb dX10_roomBehind_72 rfl (lv_at hl 1 rfl) ?_
    refine lv_iconst (pc := 73) (v := 0) hx hb dX10_roomBehind_73 (by decide) ?_
    refine lv_iload_n (pc := 74) hx hb dX10_roomBehind_74 rfl (lv_at hl 2 rfl) ?_
    refine r_cVv (pc := 75) (As := [.int vp1, .int 0, .int vp2]) (rest := []) CX P hl.1 hF kv_X10_174 (fun h1 q => c_X10_laysProcess l G B _ _ _ _ _ _ q) rfl rfl ⟨Nat.le_of_ble_eq_true rfl, Nat.le_of_ble_eq_true rfl⟩ (Nat.le_of_ble_eq_true rfl) ⟨Nat.le_of_ble_eq_true rfl, Nat.le_of_ble_eq_true rfl⟩ dX10_roomBehind_75 (fun h23 H locs P hF => ?_)
    refine lv_aload_n (pc := 78) hx hb dX10_roomBehind_78 rfl (lv_at hl 0 rfl) ?_
    refine lv_iload_n (pc := 79) hx hb dX10_roomBehind_79 rfl (lv_at hl 2 rfl) ?_
    refine r_cVi (pc := 80) (As := [.int vp2]) (rest := []) CX P hl.1 hF kv_X10_337 (fun r h1 q => c_X10_leastRoom l G B _ _ _ _ _ q) rfl rfl ⟨Nat.le_of_ble_eq_true rfl, Nat.le_of_ble_eq_true rfl⟩ (Nat.le_of_ble_eq_true rfl) ⟨Nat.le_of_ble_eq_true rfl, Nat.le_of_ble_eq_true rfl⟩ dX10_roomBehind_80 (fun v24 h25 H locs P hF => ?_)
    replace hF := un_i hF
    refine lv_istore (pc := 83) hx hb dX10_roomBehind_83 hl (by decide) rfl (fun ls hl => ?_)
    replace hl : lv_has ls 5 [(4, .int v24), (0, .ref (B + a0)), (1, .int vp1), (2, .int vp2), (3, .int v1)] := hl
    refine lv_aload_n (pc := 85) hx hb dX10_roomBehind_85 rfl (lv_at hl 1 rfl) ?_
    refine lv_iload_n (pc := 86) hx hb dX10_roomBehind_86 rfl (lv_at hl 2 rfl) ?_
    refine lv_iconst (pc := 87) (v := 0) hx hb dX10_roomBehind_87 (by decide) ?_
    refine lv_iload_n (pc := 88) hx hb dX10_roomBehind_88 rfl (lv_at hl 4 rfl) ?_
    refine r_cVv (pc := 89) (As := [.int vp1, .int 0, .int v1]) (rest := []) CX P hl.1 hF kv_X10_174 (fun h1 q => c_X10_laysProcess l G B _ _ _ _ _ _ q) rfl rfl ⟨Nat.le_of_ble_eq_true rfl, Nat.le_of_ble_eq_true rfl⟩ (Nat.le_of_ble_eq_true rfl) ⟨Nat.le_of_ble_eq_true rfl, Nat.le_of_ble_eq_true rfl⟩ dX10_roomBehind_89 (fun h26 H locs P hF => ?_)
    refine lv_iload (pc := 92) hx hb dX10_roomBehind_92 (lv_at hl 0 rfl) ?_
    cases hF
    exact hret _ _ _ _ P rfl dX10_roomBehind_94
  have hL3 : ∀ (n : Nat) (v8 : Int32) (h9 : Hp) (H : Heap) (locs : List Loc) (ls : Array Slot), Pic G B h9 s H locs → lv_has ls 5 [(0, .ref (B + a0)), (1, .int vp1), (2, .int vp2), (3, .int v1), (4, .int v8)] → loopF (fun x => F_X10_roomBehind_L9 a0 vp1 vp2 v1 x.1 x.2) n (v8, h9) = some r3 → W p l e (rmM 6 134 0 0) s m args below meth c H locs 0 0 Q (F0 m 9 ls []) := by
    intro n
    induction n with
    | zero => intro v8 h9 H locs ls P hl hq; cases hq
    | succ n ih =>
      intro v8 h9 H locs ls P hl hq
      obtain ⟨z3, hS3, hI3, hR3⟩ := loop_some hq
      have hF : F_X10_roomBehind_L9 a0 vp1 vp2 v1 v8 h9 = some z3 := hS3
      unfold F_X10_roomBehind_L9 at hF
      refine lv_iload (pc := 9) hx hb dX10_roomBehind_9 (lv_at hl 4 rfl) ?_
      refine lv_iconst (pc := 11) (v := (-1)) hx hb dX10_roomBehind_11 (by decide) ?_
      refine lv_icmp_eq (pc := 12) (tgt := 71) hx hb dX10_roomBehind_12 (by decide) (fun hc => ?_) (fun hc => ?_)
      · rw [if_pos hc] at hF
        exact hX3 _ _ _ _ P (lv_sub hl [0, 1, 2, 3] rfl) (hR3 _ (Option.some.inj hF).symm)
      · rw [if_neg hc] at hF
        refine lv_aload_n (pc := 15) hx hb dX10_roomBehind_15 rfl (lv_at hl 0 rfl) ?_
        refine lv_iload_n (pc := 16) hx hb dX10_roomBehind_16 rfl (lv_at hl 3 rfl) ?_
        refine lv_iload (pc := 17) hx hb dX10_roomBehind_17 (lv_at hl 4 rfl) ?_
        refine r_cVi (pc := 19) (As := [.int v1, .int v8]) (rest := []) CX P hl.1 hF kv_X10_111 (fun r h1 q => c_X10_isBelow l G B _ _ _ _ _ _ q) rfl rfl ⟨Nat.le_of_ble_eq_true rfl, Nat.le_of_ble_eq_true rfl⟩ (Nat.le_of_ble_eq_true rfl) ⟨Nat.le_of_ble_eq_true rfl, Nat.le_of_ble_eq_true rfl⟩ dX10_roomBehind_19 (fun v10 h11 H locs P hF => ?_)
        replace hF := un_i hF
        refine lv_if_ne (pc := 22) (tgt := 71) hx hb dX10_roomBehind_22 (by decide) (fun hc => ?_) (fun hc => ?_)
        · rw [if_neg hc] at hF
          exact hX3 _ _ _ _ P (lv_sub hl [0, 1, 2, 3] rfl) (hR3 _ (Option.some.inj hF).symm)
        · rw [if_pos hc] at hF
          refine lv_aload_n (pc := 25) hx hb dX10_roomBehind_25 rfl (lv_at hl 0 rfl) ?_
          refine lv_iload (pc := 26) hx hb dX10_roomBehind_26 (lv_at hl 4 rfl) ?_
          refine lv_iload_n (pc := 28) hx hb dX10_roomBehind_28 rfl (lv_at hl 1 rfl) ?_
          refine r_cVi (pc := 29) (As := [.int v8, .int vp1]) (rest := []) CX P hl.1 hF kv_X10_255 (fun r h1 q => c_X10_hasRoomFor l G B _ _ _ _ _ _ q) rfl rfl ⟨Nat.le_of_ble_eq_true rfl, Nat.le_of_ble_eq_true rfl⟩ (Nat.le_of_ble_eq_true rfl) ⟨Nat.le_of_ble_eq_true rfl, Nat.le_of_ble_eq_true rfl⟩ dX10_roomBehind_29 (fun v12 h13 H locs P hF => ?_)
          replace hF := un_i hF
          refine lv_if_eq (pc := 32) (tgt := 58) hx hb dX10_roomBehind_32 (by decide) (fun hc => ?_) (fun hc => ?_)
          · rw [if_pos hc] at hF
            refine lv_iconst (pc := 58) (v := (-1)) hx hb dX10_roomBehind_58 (by decide) ?_
            have hE := hR3 _ (Option.some.inj hF).symm
            subst hE
            replace hF := sE_li hK3
            cases hF
            exact hret _ _ _ _ P rfl dX10_roomBehind_59
          · rw [if_neg hc] at hF
            refine lv_aload_n (pc := 35) hx hb dX10_roomBehind_35 rfl (lv_at hl 0 rfl) ?_
            refine lv_iload (pc := 36) hx hb dX10_roomBehind_36 (lv_at hl 4 rfl) ?_
            refine r_cVi (pc := 38) (As := [.int v8]) (rest := []) CX P hl.1 hF kv_X10_184 (fun r h1 q => c_X10_totalOf l G B _ _ _ _ _ q) rfl rfl ⟨Nat.le_of_ble_eq_true rfl, Nat.le_of_ble_eq_true rfl⟩ (Nat.le_of_ble_eq_true rfl) ⟨Nat.le_of_ble_eq_true rfl, Nat.le_of_ble_eq_true rfl⟩ dX10_roomBehind_38 (fun v14 h15 H locs P hF => ?_)
            replace hF := un_i hF
            refine lv_aload_n (pc := 41) hx hb dX10_roomBehind_41 rfl (lv_at hl 0 rfl) ?_
            refine lv_iload_n (pc := 42) hx hb dX10_roomBehind_42 rfl (lv_at hl 1 rfl) ?_
            refine r_cVi (pc := 43) (As := [.int vp1]) (rest := [.int v14]) CX P hl.1 hF kv_X10_134 (fun r h1 q => c_X10_pagesOf l G B _ _ _ _ _ q) rfl rfl ⟨Nat.le_of_ble_eq_true rfl, Nat.le_of_ble_eq_true rfl⟩ (Nat.le_of_ble_eq_true rfl) ⟨Nat.le_of_ble_eq_true rfl, Nat.le_of_ble_eq_true rfl⟩ dX10_roomBehind_43 (fun v16 h17 H locs P hF => ?_)
            replace hF := un_i hF
            refine lv_iadd (pc := 46) hx hb dX10_roomBehind_46 ?_
            refine lv_aload_n (pc := 47) hx hb dX10_roomBehind_47 rfl (lv_at hl 0 rfl) ?_
            refine lv_iload (pc := 48) hx hb dX10_roomBehind_48 (lv_at hl 4 rfl) ?_
            refine lv_iconst (pc := 50) (v := 3) hx hb dX10_roomBehind_50 (by decide) ?_
            refine lv_iconst (pc := 51) (v := 0) hx hb dX10_roomBehind_51 (by decide) ?_
            refine r_cVi (pc := 52) (As := [.int v8, .int 3, .int 0]) (rest := [.int (v14 + v16)]) CX P hl.1 hF kv_X10_99 (fun r h1 q => c_X10_of l G B _ _ _ _ _ _ _ q) rfl rfl ⟨Nat.le_of_ble_eq_true rfl, Nat.le_of_ble_eq_true rfl⟩ (Nat.le_of_ble_eq_true rfl) ⟨Nat.le_of_ble_eq_true rfl, Nat.le_of_ble_eq_true rfl⟩ dX10_roomBehind_52 (fun v18 h19 H locs P hF => ?_)
            replace hF := un_i hF
            refine lv_icmp_le (pc := 55) (tgt := 60) hx hb dX10_roomBehind_55 (by decide) (fun hc => ?_) (fun hc => ?_)
            · rw [if_pos hc] at hF
              refine lv_aload_n (pc := 60) hx hb dX10_roomBehind_60 rfl (lv_at hl 0 rfl) ?_
              refine lv_iload (pc := 61) hx hb dX10_roomBehind_61 (lv_at hl 4 rfl) ?_
              refine r_cVi (pc := 63) (As := [.int v8]) (rest := []) CX P hl.1 hF kv_X10_103 (fun r h1 q => c_X10_parentOf l G B _ _ _ _ _ q) rfl rfl ⟨Nat.le_of_ble_eq_true rfl, Nat.le_of_ble_eq_true rfl⟩ (Nat.le_of_ble_eq_true rfl) ⟨Nat.le_of_ble_eq_true rfl, Nat.le_of_ble_eq_true rfl⟩ dX10_roomBehind_63 (fun v20 h21 H locs P hF => ?_)
              replace hF := un_i hF
              refine lv_istore (pc := 66) hx hb dX10_roomBehind_66 hl (by decide) rfl (fun ls hl => ?_)
              replace hl : lv_has ls 5 [(4, .int v20), (0, .ref (B + a0)), (1, .int vp1), (2, .int vp2), (3, .int v1)] := hl
              refine lv_goto (pc := 68) (tgt := 9) hx hb dX10_roomBehind_68 (by decide) ?_
              exact ih _ _ _ _ _ P (lv_sub hl [1, 2, 3, 4, 0] rfl) (hI3 _ (Option.some.inj hF).symm)
            · rw [if_neg hc] at hF
              refine lv_iconst (pc := 58) (v := (-1)) hx hb dX10_roomBehind_58 (by decide) ?_
              have hE := hR3 _ (Option.some.inj hF).symm
              subst hE
              replace hF := sE_li hK3
              cases hF
              exact hret _ _ _ _ P rfl dX10_roomBehind_59
  exact hL3 _ _ _ _ _ _ P (lv_sub hl [2, 3, 4, 1, 0] rfl) hLp3
def F_X10_place_L23 (a4 : Nat) (v5 : Int32) (v6 : Int32) (v7 : Int32) (v8 : Int32) (h9 : Hp) : Option ((Int32 × Int32 × Int32 × Hp) ⊕ (Int32 × Hp)) :=
if 12 ≤ v8 then (
some (.inr (v6, h9))) else (
(cO h9 a4 10 (F_X10_isGroup h9 a4 v8)).bind fun v10 =>
if v10 = 0 then (
bl (v8 + 1) fun v11 =>
some (.inl (v6, v7, v11, h9))) else (
(cO h9 a4 10 (F_X10_groupOf h9 a4 v5)).bind (un fun v12 h13 =>
if v8 = v12 then (
bl (v8 + 1) fun v14 =>
some (.inl (v6, v7, v14, h13))) else (
(cO h13 a4 10 (F_X10_roomBehind h13 a4 v5 v8)).bind (un fun v15 h16 =>
if v7 < v15 then (
(cO h16 a4 10 (F_X10_roomBehind h16 a4 v5 v8)).bind (un fun v17 h18 =>
bl (v8 + 1) fun v19 =>
some (.inl (v8, v17, v19, h18)))) else (
bl (v8 + 1) fun v20 =>
some (.inl (v6, v7, v20, h16))))))))
def F_X10_place (h : Hp) (a0 : Nat) (vp1 : Int32) : Option (Int32 × Hp) :=
(pI h a0 10 0 0).bind fun h1 =>
(cO h1 a0 10 (F_X10_isProcess h1 a0 vp1)).bind fun v2 =>
if v2 = 0 then (
some ((-2), h1)) else (
(loopF (fun x => F_X10_place_L23 a0 vp1 x.1 x.2.1 x.2.2.1 x.2.2.2) 6000 ((-1), (-1), 0, h1)).bind fun q3 =>
bl q3.1 fun v21 =>
bl q3.2 fun h22 =>
some (v21, h22))
set_option maxRecDepth 100000 in
set_option maxHeartbeats 4000000 in
theorem c_X10_place (l : Launch) (G : GG) (B : Nat) (h : Hp) (a0 : Nat) (vp1 : Int32) (r0 : Int32) (hr : Hp) (hF : F_X10_place h a0 vp1 = some (r0, hr)) : CI l yX10_place cX10_place 5 .int 7 158 0 0 G B h [.ref (B + a0), .int vp1] r0 hr := by
  refine ent_i rfl (Nat.le_of_ble_eq_true rfl) ?_
  intro p e s m args below meth c ls Q CX hnm hret P hl
  have CX : Cxt p m c cX10_place 5 s args RX10 G B := CX
  obtain ⟨⟨hx, hb, hml, hown, hts⟩, -, -⟩ := id CX
  replace hl : lv_has ls 5 [(0, .ref (B + a0)), (1, .int vp1)] := hl
  generalize s.heap = H at P ⊢
  generalize ([] : List Loc) = locs at P ⊢
  unfold F_X10_place at hF
  refine lv_aload_n (pc := 0) hx hb dX10_place_0 rfl (lv_at hl 0 rfl) ?_
  refine lv_iconst (pc := 1) (v := 0) hx hb dX10_place_1 (by decide) ?_
  refine r_pI (pc := 2) CX P hF fl_X10_1 dX10_place_2 (fun h1 H locs P hF => ?_)
  refine lv_aload_n (pc := 5) hx hb dX10_place_5 rfl (lv_at hl 0 rfl) ?_
  refine lv_iload_n (pc := 6) hx hb dX10_place_6 rfl (lv_at hl 1 rfl) ?_
  refine r_cVp (pc := 7) (As := [.int vp1]) (rest := []) CX P hl.1 hF kv_X10_117 (fun r q => c_X10_isProcess l G B _ _ _ _ q) rfl rfl ⟨Nat.le_of_ble_eq_true rfl, Nat.le_of_ble_eq_true rfl⟩ (Nat.le_of_ble_eq_true rfl) ⟨Nat.le_of_ble_eq_true rfl, Nat.le_of_ble_eq_true rfl⟩ dX10_place_7 (fun v2 H locs P hF => ?_)
  refine lv_if_ne (pc := 10) (tgt := 16) hx hb dX10_place_10 (by decide) (fun hc => ?_) (fun hc => ?_)
  · rw [if_neg hc] at hF
    refine lv_iconst (pc := 16) (v := (-1)) hx hb dX10_place_16 (by decide) ?_
    refine lv_istore_n (pc := 17) hx hb dX10_place_17 rfl hl (by decide) rfl (fun ls hl => ?_)
    replace hl : lv_has ls 5 [(2, .int (-1)), (0, .ref (B + a0)), (1, .int vp1)] := hl
    refine lv_iconst (pc := 18) (v := (-1)) hx hb dX10_place_18 (by decide) ?_
    refine lv_istore_n (pc := 19) hx hb dX10_place_19 rfl hl (by decide) rfl (fun ls hl => ?_)
    replace hl : lv_has ls 5 [(3, .int (-1)), (2, .int (-1)), (0, .ref (B + a0)), (1, .int vp1)] := hl
    refine lv_iconst (pc := 20) (v := 0) hx hb dX10_place_20 (by decide) ?_
    refine lv_istore (pc := 21) hx hb dX10_place_21 hl (by decide) rfl (fun ls hl => ?_)
    replace hl : lv_has ls 5 [(4, .int 0), (3, .int (-1)), (2, .int (-1)), (0, .ref (B + a0)), (1, .int vp1)] := hl
    obtain ⟨r3, hLp3, hK3⟩ := bd_some hF
    have hX3 : ∀ (v21 : Int32) (h22 : Hp) (H : Heap) (locs : List Loc) (ls : Array Slot), Pic G B h22 s H locs → lv_has ls 5 [(2, .int v21)] → (v21, h22) = r3 → W p l e (rmM 7 158 0 0) s m args below meth c H locs 0 0 Q (F0 m 80 ls []) := by
      intro v21 h22 H locs ls P hl er
      subst er
      have hF := hK3
      replace hF := bl_i hF
      replace hF := bl_i hF
      try dsimp only at hF
      refine lv_iload_n (pc := 80) hx hb dX10_place_80 rfl (lv_at hl 0 rfl) ?_
      cases hF
      exact hret _ _ _ _ P rfl dX10_place_81
    have hL3 : ∀ (n : Nat) (v6 : Int32) (v7 : Int32) (v8 : Int32) (h9 : Hp) (H : Heap) (locs : List Loc) (ls : Array Slot), Pic G B h9 s H locs → lv_has ls 5 [(0, .ref (B + a0)), (1, .int vp1), (2, .int v6), (3, .int v7), (4, .int v8)] → loopF (fun x => F_X10_place_L23 a0 vp1 x.1 x.2.1 x.2.2.1 x.2.2.2) n (v6, v7, v8, h9) = some r3 → W p l e (rmM 7 158 0 0) s m args below meth c H locs 0 0 Q (F0 m 23 ls []) := by
      intro n
      induction n with
      | zero => intro v6 v7 v8 h9 H locs ls P hl hq; cases hq
      | succ n ih =>
        intro v6 v7 v8 h9 H locs ls P hl hq
        obtain ⟨z3, hS3, hI3, hR3⟩ := loop_some hq
        have hF : F_X10_place_L23 a0 vp1 v6 v7 v8 h9 = some z3 := hS3
        unfold F_X10_place_L23 at hF
        refine lv_iload (pc := 23) hx hb dX10_place_23 (lv_at hl 4 rfl) ?_
        refine lv_bipush (pc := 25) (v := 12) hx hb dX10_place_25 (by decide) ?_
        refine lv_icmp_ge (pc := 27) (tgt := 80) hx hb dX10_place_27 (by decide) (fun hc => ?_) (fun hc => ?_)
        · rw [if_pos hc] at hF
          exact hX3 _ _ _ _ _ P (lv_sub hl [2] rfl) (hR3 _ (Option.some.inj hF).symm)
        · rw [if_neg hc] at hF
          refine lv_aload_n (pc := 30) hx hb dX10_place_30 rfl (lv_at hl 0 rfl) ?_
          refine lv_iload (pc := 31) hx hb dX10_place_31 (lv_at hl 4 rfl) ?_
          refine r_cVp (pc := 33) (As := [.int v8]) (rest := []) CX P hl.1 hF kv_X10_107 (fun r q => c_X10_isGroup l G B _ _ _ _ q) rfl rfl ⟨Nat.le_of_ble_eq_true rfl, Nat.le_of_ble_eq_true rfl⟩ (Nat.le_of_ble_eq_true rfl) ⟨Nat.le_of_ble_eq_true rfl, Nat.le_of_ble_eq_true rfl⟩ dX10_place_33 (fun v10 H locs P hF => ?_)
          refine lv_if_eq (pc := 36) (tgt := 74) hx hb dX10_place_36 (by decide) (fun hc => ?_) (fun hc => ?_)
          · rw [if_pos hc] at hF
            obtain ⟨v11, ev11, hF⟩ := bl_o hF
            refine lv_iinc (pc := 74) (k := 4) (v := v11) hx hb dX10_place_74 hl rfl ev11 (by decide) rfl (fun ls hl => ?_)
            replace hl : lv_has ls 5 [(4, .int v11), (0, .ref (B + a0)), (1, .int vp1), (2, .int v6), (3, .int v7)] := hl
            refine lv_goto (pc := 77) (tgt := 23) hx hb dX10_place_77 (by decide) ?_
            exact ih _ _ _ _ _ _ _ P (lv_sub hl [1, 2, 3, 4, 0] rfl) (hI3 _ (Option.some.inj hF).symm)
          · rw [if_neg hc] at hF
            refine lv_iload (pc := 39) hx hb dX10_place_39 (lv_at hl 4 rfl) ?_
            refine lv_aload_n (pc := 41) hx hb dX10_place_41 rfl (lv_at hl 0 rfl) ?_
            refine lv_iload_n (pc := 42) hx hb dX10_place_42 rfl (lv_at hl 1 rfl) ?_
            refine r_cVi (pc := 43) (As := [.int vp1]) (rest := [.int v8]) CX P hl.1 hF kv_X10_120 (fun r h1 q => c_X10_groupOf l G B _ _ _ _ _ q) rfl rfl ⟨Nat.le_of_ble_eq_true rfl, Nat.le_of_ble_eq_true rfl⟩ (Nat.le_of_ble_eq_true rfl) ⟨Nat.le_of_ble_eq_true rfl, Nat.le_of_ble_eq_true rfl⟩ dX10_place_43 (fun v12 h13 H locs P hF => ?_)
            replace hF := un_i hF
            refine lv_icmp_eq (pc := 46) (tgt := 74) hx hb dX10_place_46 (by decide) (fun hc => ?_) (fun hc => ?_)
            · rw [if_pos hc] at hF
              obtain ⟨v14, ev14, hF⟩ := bl_o hF
              refine lv_iinc (pc := 74) (k := 4) (v := v14) hx hb dX10_place_74 hl rfl ev14 (by decide) rfl (fun ls hl => ?_)
              replace hl : lv_has ls 5 [(4, .int v14), (0, .ref (B + a0)), (1, .int vp1), (2, .int v6), (3, .int v7)] := hl
              refine lv_goto (pc := 77) (tgt := 23) hx hb dX10_place_77 (by decide) ?_
              exact ih _ _ _ _ _ _ _ P (lv_sub hl [1, 2, 3, 4, 0] rfl) (hI3 _ (Option.some.inj hF).symm)
            · rw [if_neg hc] at hF
              refine lv_aload_n (pc := 49) hx hb dX10_place_49 rfl (lv_at hl 0 rfl) ?_
              refine lv_iload_n (pc := 50) hx hb dX10_place_50 rfl (lv_at hl 1 rfl) ?_
              refine lv_iload (pc := 51) hx hb dX10_place_51 (lv_at hl 4 rfl) ?_
              refine r_cVi (pc := 53) (As := [.int vp1, .int v8]) (rest := []) CX P hl.1 hF kv_X10_340 (fun r h1 q => c_X10_roomBehind l G B _ _ _ _ _ _ q) rfl rfl ⟨Nat.le_of_ble_eq_true rfl, Nat.le_of_ble_eq_true rfl⟩ (Nat.le_of_ble_eq_true rfl) ⟨Nat.le_of_ble_eq_true rfl, Nat.le_of_ble_eq_true rfl⟩ dX10_place_53 (fun v15 h16 H locs P hF => ?_)
              replace hF := un_i hF
              refine lv_iload_n (pc := 56) hx hb dX10_place_56 rfl (lv_at hl 3 rfl) ?_
              refine lv_icmp_gt (pc := 57) (tgt := 63) hx hb dX10_place_57 (by decide) (fun hc => ?_) (fun hc => ?_)
              · rw [if_pos hc] at hF
                refine lv_iload (pc := 63) hx hb dX10_place_63 (lv_at hl 4 rfl) ?_
                refine lv_istore_n (pc := 65) hx hb dX10_place_65 rfl hl (by decide) rfl (fun ls hl => ?_)
                replace hl : lv_has ls 5 [(2, .int v8), (0, .ref (B + a0)), (1, .int vp1), (3, .int v7), (4, .int v8)] := hl
                refine lv_aload_n (pc := 66) hx hb dX10_place_66 rfl (lv_at hl 1 rfl) ?_
                refine lv_iload_n (pc := 67) hx hb dX10_place_67 rfl (lv_at hl 2 rfl) ?_
                refine lv_iload (pc := 68) hx hb dX10_place_68 (lv_at hl 4 rfl) ?_
                refine r_cVi (pc := 70) (As := [.int vp1, .int v8]) (rest := []) CX P hl.1 hF kv_X10_340 (fun r h1 q => c_X10_roomBehind l G B _ _ _ _ _ _ q) rfl rfl ⟨Nat.le_of_ble_eq_true rfl, Nat.le_of_ble_eq_true rfl⟩ (Nat.le_of_ble_eq_true rfl) ⟨Nat.le_of_ble_eq_true rfl, Nat.le_of_ble_eq_true rfl⟩ dX10_place_70 (fun v17 h18 H locs P hF => ?_)
                replace hF := un_i hF
                refine lv_istore_n (pc := 73) hx hb dX10_place_73 rfl hl (by decide) rfl (fun ls hl => ?_)
                replace hl : lv_has ls 5 [(3, .int v17), (2, .int v8), (0, .ref (B + a0)), (1, .int vp1), (4, .int v8)] := hl
                obtain ⟨v19, ev19, hF⟩ := bl_o hF
                refine lv_iinc (pc := 74) (k := 4) (v := v19) hx hb dX10_place_74 hl rfl ev19 (by decide) rfl (fun ls hl => ?_)
                replace hl : lv_has ls 5 [(4, .int v19), (3, .int v17), (2, .int v8), (0, .ref (B + a0)), (1, .int vp1)] := hl
                refine lv_goto (pc := 77) (tgt := 23) hx hb dX10_place_77 (by decide) ?_
                exact ih _ _ _ _ _ _ _ P (lv_sub hl [3, 4, 2, 1, 0] rfl) (hI3 _ (Option.some.inj hF).symm)
              · rw [if_neg hc] at hF
                refine lv_goto (pc := 60) (tgt := 74) hx hb dX10_place_60 (by decide) ?_
                obtain ⟨v20, ev20, hF⟩ := bl_o hF
                refine lv_iinc (pc := 74) (k := 4) (v := v20) hx hb dX10_place_74 hl rfl ev20 (by decide) rfl (fun ls hl => ?_)
                replace hl : lv_has ls 5 [(4, .int v20), (0, .ref (B + a0)), (1, .int vp1), (2, .int v6), (3, .int v7)] := hl
                refine lv_goto (pc := 77) (tgt := 23) hx hb dX10_place_77 (by decide) ?_
                exact ih _ _ _ _ _ _ _ P (lv_sub hl [1, 2, 3, 4, 0] rfl) (hI3 _ (Option.some.inj hF).symm)
    exact hL3 _ _ _ _ _ _ _ _ P (lv_sub hl [3, 4, 2, 1, 0] rfl) hLp3
  · rw [if_pos hc] at hF
    refine lv_bipush (pc := 13) (v := (-2)) hx hb dX10_place_13 (by decide) ?_
    cases hF
    exact hret _ _ _ _ P rfl dX10_place_15
def F_X10_pressed (h : Hp) (a0 : Nat) (vp1 : Int32) : Option (Int32 × Hp) :=
(pI h a0 10 0 0).bind fun h1 =>
(cO h1 a0 10 (F_X10_isGroup h1 a0 vp1)).bind fun v2 =>
if v2 = 0 then (
some ((-2), h1)) else (
(cO h1 a0 10 (F_X10_opensPaper h1 a0)).bind fun h3 =>
(cO h3 a0 10 (F_X10_takes h3 a0 vp1 999)).bind (un fun v4 h5 =>
(cO h5 a0 10 (F_X10_totalOf h5 a0 vp1)).bind (un fun v6 h7 =>
(cO h7 a0 10 (F_X10_closesPaper h7 a0)).bind fun h8 =>
some (v6, h8))))
set_option maxRecDepth 100000 in
set_option maxHeartbeats 4000000 in
theorem c_X10_pressed (l : Launch) (G : GG) (B : Nat) (h : Hp) (a0 : Nat) (vp1 : Int32) (r0 : Int32) (hr : Hp) (hF : F_X10_pressed h a0 vp1 = some (r0, hr)) : CI l yX10_pressed cX10_pressed 4 .int 8 191 0 0 G B h [.ref (B + a0), .int vp1] r0 hr := by
  refine ent_i rfl (Nat.le_of_ble_eq_true rfl) ?_
  intro p e s m args below meth c ls Q CX hnm hret P hl
  have CX : Cxt p m c cX10_pressed 4 s args RX10 G B := CX
  obtain ⟨⟨hx, hb, hml, hown, hts⟩, -, -⟩ := id CX
  replace hl : lv_has ls 4 [(0, .ref (B + a0)), (1, .int vp1)] := hl
  generalize s.heap = H at P ⊢
  generalize ([] : List Loc) = locs at P ⊢
  unfold F_X10_pressed at hF
  refine lv_aload_n (pc := 0) hx hb dX10_pressed_0 rfl (lv_at hl 0 rfl) ?_
  refine lv_iconst (pc := 1) (v := 0) hx hb dX10_pressed_1 (by decide) ?_
  refine r_pI (pc := 2) CX P hF fl_X10_1 dX10_pressed_2 (fun h1 H locs P hF => ?_)
  refine lv_aload_n (pc := 5) hx hb dX10_pressed_5 rfl (lv_at hl 0 rfl) ?_
  refine lv_iload_n (pc := 6) hx hb dX10_pressed_6 rfl (lv_at hl 1 rfl) ?_
  refine r_cVp (pc := 7) (As := [.int vp1]) (rest := []) CX P hl.1 hF kv_X10_107 (fun r q => c_X10_isGroup l G B _ _ _ _ q) rfl rfl ⟨Nat.le_of_ble_eq_true rfl, Nat.le_of_ble_eq_true rfl⟩ (Nat.le_of_ble_eq_true rfl) ⟨Nat.le_of_ble_eq_true rfl, Nat.le_of_ble_eq_true rfl⟩ dX10_pressed_7 (fun v2 H locs P hF => ?_)
  refine lv_if_ne (pc := 10) (tgt := 16) hx hb dX10_pressed_10 (by decide) (fun hc => ?_) (fun hc => ?_)
  · rw [if_neg hc] at hF
    refine lv_aload_n (pc := 16) hx hb dX10_pressed_16 rfl (lv_at hl 0 rfl) ?_
    refine r_cVv (pc := 17) (As := []) (rest := []) CX P hl.1 hF kv_X10_321 (fun h1 q => c_X10_opensPaper l G B _ _ _ q) rfl rfl ⟨Nat.le_of_ble_eq_true rfl, Nat.le_of_ble_eq_true rfl⟩ (Nat.le_of_ble_eq_true rfl) ⟨Nat.le_of_ble_eq_true rfl, Nat.le_of_ble_eq_true rfl⟩ dX10_pressed_17 (fun h3 H locs P hF => ?_)
    refine lv_aload_n (pc := 20) hx hb dX10_pressed_20 rfl (lv_at hl 0 rfl) ?_
    refine lv_iload_n (pc := 21) hx hb dX10_pressed_21 rfl (lv_at hl 1 rfl) ?_
    refine lv_sipush (pc := 22) (v := 999) hx hb dX10_pressed_22 (by decide) ?_
    refine r_cVi (pc := 25) (As := [.int vp1, .int 999]) (rest := []) CX P hl.1 hF kv_X10_190 (fun r h1 q => c_X10_takes l G B _ _ _ _ _ _ q) rfl rfl ⟨Nat.le_of_ble_eq_true rfl, Nat.le_of_ble_eq_true rfl⟩ (Nat.le_of_ble_eq_true rfl) ⟨Nat.le_of_ble_eq_true rfl, Nat.le_of_ble_eq_true rfl⟩ dX10_pressed_25 (fun v4 h5 H locs P hF => ?_)
    replace hF := un_i hF
    refine lv_istore_n (pc := 28) hx hb dX10_pressed_28 rfl hl (by decide) rfl (fun ls hl => ?_)
    replace hl : lv_has ls 4 [(2, .int v4), (0, .ref (B + a0)), (1, .int vp1)] := hl
    refine lv_aload_n (pc := 29) hx hb dX10_pressed_29 rfl (lv_at hl 1 rfl) ?_
    refine lv_iload_n (pc := 30) hx hb dX10_pressed_30 rfl (lv_at hl 2 rfl) ?_
    refine r_cVi (pc := 31) (As := [.int vp1]) (rest := []) CX P hl.1 hF kv_X10_184 (fun r h1 q => c_X10_totalOf l G B _ _ _ _ _ q) rfl rfl ⟨Nat.le_of_ble_eq_true rfl, Nat.le_of_ble_eq_true rfl⟩ (Nat.le_of_ble_eq_true rfl) ⟨Nat.le_of_ble_eq_true rfl, Nat.le_of_ble_eq_true rfl⟩ dX10_pressed_31 (fun v6 h7 H locs P hF => ?_)
    replace hF := un_i hF
    refine lv_istore_n (pc := 34) hx hb dX10_pressed_34 rfl hl (by decide) rfl (fun ls hl => ?_)
    replace hl : lv_has ls 4 [(3, .int v6), (2, .int v4), (0, .ref (B + a0)), (1, .int vp1)] := hl
    refine lv_aload_n (pc := 35) hx hb dX10_pressed_35 rfl (lv_at hl 2 rfl) ?_
    refine r_cVv (pc := 36) (As := []) (rest := []) CX P hl.1 hF kv_X10_324 (fun h1 q => c_X10_closesPaper l G B _ _ _ q) rfl rfl ⟨Nat.le_of_ble_eq_true rfl, Nat.le_of_ble_eq_true rfl⟩ (Nat.le_of_ble_eq_true rfl) ⟨Nat.le_of_ble_eq_true rfl, Nat.le_of_ble_eq_true rfl⟩ dX10_pressed_36 (fun h8 H locs P hF => ?_)
    refine lv_iload_n (pc := 39) hx hb dX10_pressed_39 rfl (lv_at hl 0 rfl) ?_
    cases hF
    exact hret _ _ _ _ P rfl dX10_pressed_40
  · rw [if_pos hc] at hF
    refine lv_bipush (pc := 13) (v := (-2)) hx hb dX10_pressed_13 (by decide) ?_
    cases hF
    exact hret _ _ _ _ P rfl dX10_pressed_15
def F_X10_wouldTell (h : Hp) (a0 : Nat) (vp1 : Int32) (vp2 : Int32) (vp3 : Int32) : Option (Int32 × Hp) :=
(cO h a0 10 (F_X10_opensPaper h a0)).bind fun h1 =>
(cO h1 a0 10 (F_X10_charges h1 a0 vp1 vp2 vp3)).bind (un fun v2 h3 =>
(F_X10_within h3 (Int32.toInt64 v2) 0 2).bind fun v4 =>
(if v4 = 0 then (
some (((-1) : Int32), h3)) else (
(cO h3 a0 10 (F_X10_ofProcess h3 a0 vp1 4 0)).bind (un fun v6 h7 =>
some ((v6 : Int32), h7)))).bind fun q5 =>
bl q5.1 fun v8 =>
bl q5.2 fun h9 =>
(pI h9 a0 10 20 v8).bind fun h10 =>
(cO h10 a0 10 (F_X10_closesPaper h10 a0)).bind fun h11 =>
some (v2, h11))
set_option maxRecDepth 100000 in
set_option maxHeartbeats 4000000 in
theorem c_X10_wouldTell (l : Launch) (G : GG) (B : Nat) (h : Hp) (a0 : Nat) (vp1 : Int32) (vp2 : Int32) (vp3 : Int32) (r0 : Int32) (hr : Hp) (hF : F_X10_wouldTell h a0 vp1 vp2 vp3 = some (r0, hr)) : CI l yX10_wouldTell cX10_wouldTell 5 .int 10 243 0 0 G B h [.ref (B + a0), .int vp1, .int vp2, .int vp3] r0 hr := by
  refine ent_i rfl (Nat.le_of_ble_eq_true rfl) ?_
  intro p e s m args below meth c ls Q CX hnm hret P hl
  have CX : Cxt p m c cX10_wouldTell 5 s args RX10 G B := CX
  obtain ⟨⟨hx, hb, hml, hown, hts⟩, -, -⟩ := id CX
  replace hl : lv_has ls 5 [(0, .ref (B + a0)), (1, .int vp1), (2, .int vp2), (3, .int vp3)] := hl
  generalize s.heap = H at P ⊢
  generalize ([] : List Loc) = locs at P ⊢
  unfold F_X10_wouldTell at hF
  refine lv_aload_n (pc := 0) hx hb dX10_wouldTell_0 rfl (lv_at hl 0 rfl) ?_
  refine r_cVv (pc := 1) (As := []) (rest := []) CX P hl.1 hF kv_X10_321 (fun h1 q => c_X10_opensPaper l G B _ _ _ q) rfl rfl ⟨Nat.le_of_ble_eq_true rfl, Nat.le_of_ble_eq_true rfl⟩ (Nat.le_of_ble_eq_true rfl) ⟨Nat.le_of_ble_eq_true rfl, Nat.le_of_ble_eq_true rfl⟩ dX10_wouldTell_1 (fun h1 H locs P hF => ?_)
  refine lv_aload_n (pc := 4) hx hb dX10_wouldTell_4 rfl (lv_at hl 0 rfl) ?_
  refine lv_iload_n (pc := 5) hx hb dX10_wouldTell_5 rfl (lv_at hl 1 rfl) ?_
  refine lv_iload_n (pc := 6) hx hb dX10_wouldTell_6 rfl (lv_at hl 2 rfl) ?_
  refine lv_iload_n (pc := 7) hx hb dX10_wouldTell_7 rfl (lv_at hl 3 rfl) ?_
  refine r_cVi (pc := 8) (As := [.int vp1, .int vp2, .int vp3]) (rest := []) CX P hl.1 hF kv_X10_245 (fun r h1 q => c_X10_charges l G B _ _ _ _ _ _ _ q) rfl rfl ⟨Nat.le_of_ble_eq_true rfl, Nat.le_of_ble_eq_true rfl⟩ (Nat.le_of_ble_eq_true rfl) ⟨Nat.le_of_ble_eq_true rfl, Nat.le_of_ble_eq_true rfl⟩ dX10_wouldTell_8 (fun v2 h3 H locs P hF => ?_)
  replace hF := un_i hF
  refine lv_istore (pc := 11) hx hb dX10_wouldTell_11 hl (by decide) rfl (fun ls hl => ?_)
  replace hl : lv_has ls 5 [(4, .int v2), (0, .ref (B + a0)), (1, .int vp1), (2, .int vp2), (3, .int vp3)] := hl
  refine lv_aload_n (pc := 13) hx hb dX10_wouldTell_13 rfl (lv_at hl 1 rfl) ?_
  refine lv_iload (pc := 14) hx hb dX10_wouldTell_14 (lv_at hl 0 rfl) ?_
  refine lv_i2l (pc := 16) hx hb dX10_wouldTell_16 rfl ?_
  refine lv_lconst (pc := 17) (v := 0) hx hb dX10_wouldTell_17 (by decide) ?_
  refine lv_ldc2 (pc := 18) (v := 2) hx hb hown (hts _ tw_1250) dX10_wouldTell_18 ?_
  refine r_cSp (pc := 21) (As := [.long (Int32.toInt64 v2), .long 0, .long 2]) (rest := [.ref (B + a0)]) CX P hl.1 hF ks_X10_85 (fun r q => c_X10_within l G B _ _ _ _ _ q) rfl rfl ⟨Nat.le_of_ble_eq_true rfl, Nat.le_of_ble_eq_true rfl⟩ (Nat.le_of_ble_eq_true rfl) ⟨Nat.le_of_ble_eq_true rfl, Nat.le_of_ble_eq_true rfl⟩ dX10_wouldTell_21 (fun v4 H locs P hF => ?_)
  obtain ⟨j5, hA5, hK5⟩ := bd_some hF
  have hJ5 : ∀ (v8 : Int32) (h9 : Hp) (H : Heap) (locs : List Loc) (ls : Array Slot), Pic G B h9 s H locs → lv_has ls 5 [(0, .ref (B + a0)), (4, .int v2)] → (v8, h9) = j5 → W p l e (rmM 10 243 0 0) s m args below meth c H locs 0 0 Q (F0 m 38 ls [.int v8, .ref (B + a0)]) := by
    intro v8 h9 H locs ls P hl ej
    subst ej
    have hF := hK5
    replace hF := bl_i hF
    replace hF := bl_i hF
    try dsimp only at hF
    refine r_pI (pc := 38) CX P hF fl_X10_343 dX10_wouldTell_38 (fun h10 H locs P hF => ?_)
    refine lv_aload_n (pc := 41) hx hb dX10_wouldTell_41 rfl (lv_at hl 0 rfl) ?_
    refine r_cVv (pc := 42) (As := []) (rest := []) CX P hl.1 hF kv_X10_324 (fun h1 q => c_X10_closesPaper l G B _ _ _ q) rfl rfl ⟨Nat.le_of_ble_eq_true rfl, Nat.le_of_ble_eq_true rfl⟩ (Nat.le_of_ble_eq_true rfl) ⟨Nat.le_of_ble_eq_true rfl, Nat.le_of_ble_eq_true rfl⟩ dX10_wouldTell_42 (fun h11 H locs P hF => ?_)
    refine lv_iload (pc := 45) hx hb dX10_wouldTell_45 (lv_at hl 1 rfl) ?_
    cases hF
    exact hret _ _ _ _ P rfl dX10_wouldTell_47
  replace hF := hA5
  refine lv_if_eq (pc := 24) (tgt := 37) hx hb dX10_wouldTell_24 (by decide) (fun hc => ?_) (fun hc => ?_)
  · rw [if_pos hc] at hF
    refine lv_iconst (pc := 37) (v := (-1)) hx hb dX10_wouldTell_37 (by decide) ?_
    exact hJ5 _ _ _ _ _ P (lv_sub hl [1, 0] rfl) (Option.some.inj hF)
  · rw [if_neg hc] at hF
    refine lv_aload_n (pc := 27) hx hb dX10_wouldTell_27 rfl (lv_at hl 1 rfl) ?_
    refine lv_iload_n (pc := 28) hx hb dX10_wouldTell_28 rfl (lv_at hl 2 rfl) ?_
    refine lv_iconst (pc := 29) (v := 4) hx hb dX10_wouldTell_29 (by decide) ?_
    refine lv_iconst (pc := 30) (v := 0) hx hb dX10_wouldTell_30 (by decide) ?_
    refine r_cVi (pc := 31) (As := [.int vp1, .int 4, .int 0]) (rest := [.ref (B + a0)]) CX P hl.1 hF kv_X10_114 (fun r h1 q => c_X10_ofProcess l G B _ _ _ _ _ _ _ q) rfl rfl ⟨Nat.le_of_ble_eq_true rfl, Nat.le_of_ble_eq_true rfl⟩ (Nat.le_of_ble_eq_true rfl) ⟨Nat.le_of_ble_eq_true rfl, Nat.le_of_ble_eq_true rfl⟩ dX10_wouldTell_31 (fun v6 h7 H locs P hF => ?_)
    replace hF := un_i hF
    refine lv_goto (pc := 34) (tgt := 38) hx hb dX10_wouldTell_34 (by decide) ?_
    exact hJ5 _ _ _ _ _ P (lv_sub hl [1, 0] rfl) (Option.some.inj hF)
def F_X10_would (h : Hp) (a0 : Nat) (vp1 : Int32) (vp2 : Int32) (vp3 : Int32) : Option (Int32 × Hp) :=
(pI h a0 10 0 0).bind fun h1 =>
(cO h1 a0 10 (F_X10_refusedBy h1 a0 vp1 vp2 vp3)).bind fun v2 =>
if v2 = 0 then (
(cO h1 a0 10 (F_X10_wouldTell h1 a0 vp1 vp2 vp3)).bind (un fun v3 h4 =>
some (v3, h4))) else (
some (v2, h1))
set_option maxRecDepth 100000 in
set_option maxHeartbeats 4000000 in
theorem c_X10_would (l : Launch) (G : GG) (B : Nat) (h : Hp) (a0 : Nat) (vp1 : Int32) (vp2 : Int32) (vp3 : Int32) (r0 : Int32) (hr : Hp) (hF : F_X10_would h a0 vp1 vp2 vp3 = some (r0, hr)) : CI l yX10_would cX10_would 5 .int 11 267 0 0 G B h [.ref (B + a0), .int vp1, .int vp2, .int vp3] r0 hr := by
  refine ent_i rfl (Nat.le_of_ble_eq_true rfl) ?_
  intro p e s m args below meth c ls Q CX hnm hret P hl
  have CX : Cxt p m c cX10_would 5 s args RX10 G B := CX
  obtain ⟨⟨hx, hb, hml, hown, hts⟩, -, -⟩ := id CX
  replace hl : lv_has ls 5 [(0, .ref (B + a0)), (1, .int vp1), (2, .int vp2), (3, .int vp3)] := hl
  generalize s.heap = H at P ⊢
  generalize ([] : List Loc) = locs at P ⊢
  unfold F_X10_would at hF
  refine lv_aload_n (pc := 0) hx hb dX10_would_0 rfl (lv_at hl 0 rfl) ?_
  refine lv_iconst (pc := 1) (v := 0) hx hb dX10_would_1 (by decide) ?_
  refine r_pI (pc := 2) CX P hF fl_X10_1 dX10_would_2 (fun h1 H locs P hF => ?_)
  refine lv_aload_n (pc := 5) hx hb dX10_would_5 rfl (lv_at hl 0 rfl) ?_
  refine lv_iload_n (pc := 6) hx hb dX10_would_6 rfl (lv_at hl 1 rfl) ?_
  refine lv_iload_n (pc := 7) hx hb dX10_would_7 rfl (lv_at hl 2 rfl) ?_
  refine lv_iload_n (pc := 8) hx hb dX10_would_8 rfl (lv_at hl 3 rfl) ?_
  refine r_cVp (pc := 9) (As := [.int vp1, .int vp2, .int vp3]) (rest := []) CX P hl.1 hF kv_X10_242 (fun r q => c_X10_refusedBy l G B _ _ _ _ _ _ q) rfl rfl ⟨Nat.le_of_ble_eq_true rfl, Nat.le_of_ble_eq_true rfl⟩ (Nat.le_of_ble_eq_true rfl) ⟨Nat.le_of_ble_eq_true rfl, Nat.le_of_ble_eq_true rfl⟩ dX10_would_9 (fun v2 H locs P hF => ?_)
  refine lv_istore (pc := 12) hx hb dX10_would_12 hl (by decide) rfl (fun ls hl => ?_)
  replace hl : lv_has ls 5 [(4, .int v2), (0, .ref (B + a0)), (1, .int vp1), (2, .int vp2), (3, .int vp3)] := hl
  refine lv_iload (pc := 14) hx hb dX10_would_14 (lv_at hl 0 rfl) ?_
  refine lv_if_eq (pc := 16) (tgt := 24) hx hb dX10_would_16 (by decide) (fun hc => ?_) (fun hc => ?_)
  · rw [if_pos hc] at hF
    refine lv_aload_n (pc := 24) hx hb dX10_would_24 rfl (lv_at hl 1 rfl) ?_
    refine lv_iload_n (pc := 25) hx hb dX10_would_25 rfl (lv_at hl 2 rfl) ?_
    refine lv_iload_n (pc := 26) hx hb dX10_would_26 rfl (lv_at hl 3 rfl) ?_
    refine lv_iload_n (pc := 27) hx hb dX10_would_27 rfl (lv_at hl 4 rfl) ?_
    refine r_cVi (pc := 28) (As := [.int vp1, .int vp2, .int vp3]) (rest := []) CX P hl.1 hF kv_X10_346 (fun r h1 q => c_X10_wouldTell l G B _ _ _ _ _ _ _ q) rfl rfl ⟨Nat.le_of_ble_eq_true rfl, Nat.le_of_ble_eq_true rfl⟩ (Nat.le_of_ble_eq_true rfl) ⟨Nat.le_of_ble_eq_true rfl, Nat.le_of_ble_eq_true rfl⟩ dX10_would_28 (fun v3 h4 H locs P hF => ?_)
    replace hF := un_i hF
    cases hF
    exact hret _ _ _ _ P rfl dX10_would_31
  · rw [if_neg hc] at hF
    refine lv_iload (pc := 19) hx hb dX10_would_19 (lv_at hl 0 rfl) ?_
    refine lv_goto (pc := 21) (tgt := 31) hx hb dX10_would_21 (by decide) ?_
    cases hF
    exact hret _ _ _ _ P rfl dX10_would_31
def F_X10_burst_L23 (a4 : Nat) (v5 : Int32) (v6 : Int32) (v7 : Int32) (h8 : Hp) : Option ((Int32 × Hp) ⊕ ((Int32 × Hp) ⊕ (Hp))) :=
if v7 ≤ 0 then (
some (.inr (.inr h8))) else (
(cO h8 a4 10 (F_X10_wouldTell h8 a4 v5 v6 v7)).bind (un fun v9 h10 =>
(F_X10_within h10 (Int32.toInt64 v9) 0 1).bind fun v11 =>
if v11 = 0 then (
bl (v7 + (-1)) fun v12 =>
some (.inl (v12, h10))) else (
some (.inr (.inl (v7, h10))))))
def F_X10_burst (h : Hp) (a0 : Nat) (vp1 : Int32) (vp2 : Int32) : Option (Int32 × Hp) :=
(pI h a0 10 0 0).bind fun h1 =>
(cO h1 a0 10 (F_X10_refusedBy h1 a0 vp1 vp2 1)).bind fun v2 =>
if v2 = 0 then (
(loopF (fun x => F_X10_burst_L23 a0 vp1 vp2 x.1 x.2) 6000 (99, h1)).bind (sE (fun x => some x) (fun h13 =>
some (0, h13)))) else (
some (v2, h1))
set_option maxRecDepth 100000 in
set_option maxHeartbeats 4000000 in
theorem c_X10_burst (l : Launch) (G : GG) (B : Nat) (h : Hp) (a0 : Nat) (vp1 : Int32) (vp2 : Int32) (r0 : Int32) (hr : Hp) (hF : F_X10_burst h a0 vp1 vp2 = some (r0, hr)) : CI l yX10_burst cX10_burst 5 .int 11 267 0 0 G B h [.ref (B + a0), .int vp1, .int vp2] r0 hr := by
  refine ent_i rfl (Nat.le_of_ble_eq_true rfl) ?_
  intro p e s m args below meth c ls Q CX hnm hret P hl
  have CX : Cxt p m c cX10_burst 5 s args RX10 G B := CX
  obtain ⟨⟨hx, hb, hml, hown, hts⟩, -, -⟩ := id CX
  replace hl : lv_has ls 5 [(0, .ref (B + a0)), (1, .int vp1), (2, .int vp2)] := hl
  generalize s.heap = H at P ⊢
  generalize ([] : List Loc) = locs at P ⊢
  unfold F_X10_burst at hF
  refine lv_aload_n (pc := 0) hx hb dX10_burst_0 rfl (lv_at hl 0 rfl) ?_
  refine lv_iconst (pc := 1) (v := 0) hx hb dX10_burst_1 (by decide) ?_
  refine r_pI (pc := 2) CX P hF fl_X10_1 dX10_burst_2 (fun h1 H locs P hF => ?_)
  refine lv_aload_n (pc := 5) hx hb dX10_burst_5 rfl (lv_at hl 0 rfl) ?_
  refine lv_iload_n (pc := 6) hx hb dX10_burst_6 rfl (lv_at hl 1 rfl) ?_
  refine lv_iload_n (pc := 7) hx hb dX10_burst_7 rfl (lv_at hl 2 rfl) ?_
  refine lv_iconst (pc := 8) (v := 1) hx hb dX10_burst_8 (by decide) ?_
  refine r_cVp (pc := 9) (As := [.int vp1, .int vp2, .int 1]) (rest := []) CX P hl.1 hF kv_X10_242 (fun r q => c_X10_refusedBy l G B _ _ _ _ _ _ q) rfl rfl ⟨Nat.le_of_ble_eq_true rfl, Nat.le_of_ble_eq_true rfl⟩ (Nat.le_of_ble_eq_true rfl) ⟨Nat.le_of_ble_eq_true rfl, Nat.le_of_ble_eq_true rfl⟩ dX10_burst_9 (fun v2 H locs P hF => ?_)
  refine lv_istore_n (pc := 12) hx hb dX10_burst_12 rfl hl (by decide) rfl (fun ls hl => ?_)
  replace hl : lv_has ls 5 [(3, .int v2), (0, .ref (B + a0)), (1, .int vp1), (2, .int vp2)] := hl
  refine lv_iload_n (pc := 13) hx hb dX10_burst_13 rfl (lv_at hl 0 rfl) ?_
  refine lv_if_eq (pc := 14) (tgt := 19) hx hb dX10_burst_14 (by decide) (fun hc => ?_) (fun hc => ?_)
  · rw [if_pos hc] at hF
    refine lv_bipush (pc := 19) (v := 99) hx hb dX10_burst_19 (by decide) ?_
    refine lv_istore (pc := 21) hx hb dX10_burst_21 hl (by decide) rfl (fun ls hl => ?_)
    replace hl : lv_has ls 5 [(4, .int 99), (3, .int v2), (0, .ref (B + a0)), (1, .int vp1), (2, .int vp2)] := hl
    obtain ⟨r3, hLp3, hK3⟩ := bd_some hF
    have hX3 : ∀ (h13 : Hp) (H : Heap) (locs : List Loc) (ls : Array Slot), Pic G B h13 s H locs → lv_has ls 5 [] → .inr h13 = r3 → W p l e (rmM 11 267 0 0) s m args below meth c H locs 0 0 Q (F0 m 54 ls []) := by
      intro h13 H locs ls P hl er
      subst er
      have hF := sE_ri hK3
      refine lv_iconst (pc := 54) (v := 0) hx hb dX10_burst_54 (by decide) ?_
      cases hF
      exact hret _ _ _ _ P rfl dX10_burst_55
    have hL3 : ∀ (n : Nat) (v7 : Int32) (h8 : Hp) (H : Heap) (locs : List Loc) (ls : Array Slot), Pic G B h8 s H locs → lv_has ls 5 [(0, .ref (B + a0)), (1, .int vp1), (2, .int vp2), (4, .int v7)] → loopF (fun x => F_X10_burst_L23 a0 vp1 vp2 x.1 x.2) n (v7, h8) = some r3 → W p l e (rmM 11 267 0 0) s m args below meth c H locs 0 0 Q (F0 m 23 ls []) := by
      intro n
      induction n with
      | zero => intro v7 h8 H locs ls P hl hq; cases hq
      | succ n ih =>
        intro v7 h8 H locs ls P hl hq
        obtain ⟨z3, hS3, hI3, hR3⟩ := loop_some hq
        have hF : F_X10_burst_L23 a0 vp1 vp2 v7 h8 = some z3 := hS3
        unfold F_X10_burst_L23 at hF
        refine lv_iload (pc := 23) hx hb dX10_burst_23 (lv_at hl 3 rfl) ?_
        refine lv_if_le (pc := 25) (tgt := 54) hx hb dX10_burst_25 (by decide) (fun hc => ?_) (fun hc => ?_)
        · rw [if_pos hc] at hF
          exact hX3 _ _ _ _ P (lv_sub hl [] rfl) (hR3 _ (Option.some.inj hF).symm)
        · rw [if_neg hc] at hF
          refine lv_aload_n (pc := 28) hx hb dX10_burst_28 rfl (lv_at hl 0 rfl) ?_
          refine lv_iload_n (pc := 29) hx hb dX10_burst_29 rfl (lv_at hl 1 rfl) ?_
          refine lv_iload_n (pc := 30) hx hb dX10_burst_30 rfl (lv_at hl 2 rfl) ?_
          refine lv_iload (pc := 31) hx hb dX10_burst_31 (lv_at hl 3 rfl) ?_
          refine r_cVi (pc := 33) (As := [.int vp1, .int vp2, .int v7]) (rest := []) CX P hl.1 hF kv_X10_346 (fun r h1 q => c_X10_wouldTell l G B _ _ _ _ _ _ _ q) rfl rfl ⟨Nat.le_of_ble_eq_true rfl, Nat.le_of_ble_eq_true rfl⟩ (Nat.le_of_ble_eq_true rfl) ⟨Nat.le_of_ble_eq_true rfl, Nat.le_of_ble_eq_true rfl⟩ dX10_burst_33 (fun v9 h10 H locs P hF => ?_)
          replace hF := un_i hF
          refine lv_i2l (pc := 36) hx hb dX10_burst_36 rfl ?_
          refine lv_lconst (pc := 37) (v := 0) hx hb dX10_burst_37 (by decide) ?_
          refine lv_lconst (pc := 38) (v := 1) hx hb dX10_burst_38 (by decide) ?_
          refine r_cSp (pc := 39) (As := [.long (Int32.toInt64 v9), .long 0, .long 1]) (rest := []) CX P hl.1 hF ks_X10_85 (fun r q => c_X10_within l G B _ _ _ _ _ q) rfl rfl ⟨Nat.le_of_ble_eq_true rfl, Nat.le_of_ble_eq_true rfl⟩ (Nat.le_of_ble_eq_true rfl) ⟨Nat.le_of_ble_eq_true rfl, Nat.le_of_ble_eq_true rfl⟩ dX10_burst_39 (fun v11 H locs P hF => ?_)
          refine lv_if_eq (pc := 42) (tgt := 48) hx hb dX10_burst_42 (by decide) (fun hc => ?_) (fun hc => ?_)
          · rw [if_pos hc] at hF
            obtain ⟨v12, ev12, hF⟩ := bl_o hF
            refine lv_iinc (pc := 48) (k := 3) (v := v12) hx hb dX10_burst_48 hl rfl ev12 (by decide) rfl (fun ls hl => ?_)
            replace hl : lv_has ls 5 [(4, .int v12), (0, .ref (B + a0)), (1, .int vp1), (2, .int vp2)] := hl
            refine lv_goto (pc := 51) (tgt := 23) hx hb dX10_burst_51 (by decide) ?_
            exact ih _ _ _ _ _ P (lv_sub hl [1, 2, 3, 0] rfl) (hI3 _ (Option.some.inj hF).symm)
          · rw [if_neg hc] at hF
            refine lv_iload (pc := 45) hx hb dX10_burst_45 (lv_at hl 3 rfl) ?_
            have hE := hR3 _ (Option.some.inj hF).symm
            subst hE
            replace hF := sE_li hK3
            cases hF
            exact hret _ _ _ _ P rfl dX10_burst_47
    exact hL3 _ _ _ _ _ _ P (lv_sub hl [2, 3, 4, 0] rfl) hLp3
  · rw [if_neg hc] at hF
    refine lv_iload_n (pc := 17) hx hb dX10_burst_17 rfl (lv_at hl 0 rfl) ?_
    cases hF
    exact hret _ _ _ _ P rfl dX10_burst_18
def F_X10_stalled (h : Hp) (a0 : Nat) (vp1 : Int32) (vp2 : Int32) (vp3 : Int32) : Option (Int32 × Hp) :=
(pI h a0 10 0 0).bind fun h1 =>
(cO h1 a0 10 (F_X10_refusedBy h1 a0 vp1 vp2 vp3)).bind fun v2 =>
if v2 = 0 then (
(cO h1 a0 10 (F_X10_wouldTell h1 a0 vp1 vp2 vp3)).bind (un fun v3 h4 =>
if 0 ≤ v3 then (
(gI h4 a0 10 20).bind fun v5 =>
some (v5, h4)) else (
some ((-1), h4)))) else (
some (v2, h1))
set_option maxRecDepth 100000 in
set_option maxHeartbeats 4000000 in
theorem c_X10_stalled (l : Launch) (G : GG) (B : Nat) (h : Hp) (a0 : Nat) (vp1 : Int32) (vp2 : Int32) (vp3 : Int32) (r0 : Int32) (hr : Hp) (hF : F_X10_stalled h a0 vp1 vp2 vp3 = some (r0, hr)) : CI l yX10_stalled cX10_stalled 6 .int 11 267 0 0 G B h [.ref (B + a0), .int vp1, .int vp2, .int vp3] r0 hr := by
  refine ent_i rfl (Nat.le_of_ble_eq_true rfl) ?_
  intro p e s m args below meth c ls Q CX hnm hret P hl
  have CX : Cxt p m c cX10_stalled 6 s args RX10 G B := CX
  obtain ⟨⟨hx, hb, hml, hown, hts⟩, -, -⟩ := id CX
  replace hl : lv_has ls 6 [(0, .ref (B + a0)), (1, .int vp1), (2, .int vp2), (3, .int vp3)] := hl
  generalize s.heap = H at P ⊢
  generalize ([] : List Loc) = locs at P ⊢
  unfold F_X10_stalled at hF
  refine lv_aload_n (pc := 0) hx hb dX10_stalled_0 rfl (lv_at hl 0 rfl) ?_
  refine lv_iconst (pc := 1) (v := 0) hx hb dX10_stalled_1 (by decide) ?_
  refine r_pI (pc := 2) CX P hF fl_X10_1 dX10_stalled_2 (fun h1 H locs P hF => ?_)
  refine lv_aload_n (pc := 5) hx hb dX10_stalled_5 rfl (lv_at hl 0 rfl) ?_
  refine lv_iload_n (pc := 6) hx hb dX10_stalled_6 rfl (lv_at hl 1 rfl) ?_
  refine lv_iload_n (pc := 7) hx hb dX10_stalled_7 rfl (lv_at hl 2 rfl) ?_
  refine lv_iload_n (pc := 8) hx hb dX10_stalled_8 rfl (lv_at hl 3 rfl) ?_
  refine r_cVp (pc := 9) (As := [.int vp1, .int vp2, .int vp3]) (rest := []) CX P hl.1 hF kv_X10_242 (fun r q => c_X10_refusedBy l G B _ _ _ _ _ _ q) rfl rfl ⟨Nat.le_of_ble_eq_true rfl, Nat.le_of_ble_eq_true rfl⟩ (Nat.le_of_ble_eq_true rfl) ⟨Nat.le_of_ble_eq_true rfl, Nat.le_of_ble_eq_true rfl⟩ dX10_stalled_9 (fun v2 H locs P hF => ?_)
  refine lv_istore (pc := 12) hx hb dX10_stalled_12 hl (by decide) rfl (fun ls hl => ?_)
  replace hl : lv_has ls 6 [(4, .int v2), (0, .ref (B + a0)), (1, .int vp1), (2, .int vp2), (3, .int vp3)] := hl
  refine lv_iload (pc := 14) hx hb dX10_stalled_14 (lv_at hl 0 rfl) ?_
  refine lv_if_eq (pc := 16) (tgt := 22) hx hb dX10_stalled_16 (by decide) (fun hc => ?_) (fun hc => ?_)
  · rw [if_pos hc] at hF
    refine lv_aload_n (pc := 22) hx hb dX10_stalled_22 rfl (lv_at hl 1 rfl) ?_
    refine lv_iload_n (pc := 23) hx hb dX10_stalled_23 rfl (lv_at hl 2 rfl) ?_
    refine lv_iload_n (pc := 24) hx hb dX10_stalled_24 rfl (lv_at hl 3 rfl) ?_
    refine lv_iload_n (pc := 25) hx hb dX10_stalled_25 rfl (lv_at hl 4 rfl) ?_
    refine r_cVi (pc := 26) (As := [.int vp1, .int vp2, .int vp3]) (rest := []) CX P hl.1 hF kv_X10_346 (fun r h1 q => c_X10_wouldTell l G B _ _ _ _ _ _ _ q) rfl rfl ⟨Nat.le_of_ble_eq_true rfl, Nat.le_of_ble_eq_true rfl⟩ (Nat.le_of_ble_eq_true rfl) ⟨Nat.le_of_ble_eq_true rfl, Nat.le_of_ble_eq_true rfl⟩ dX10_stalled_26 (fun v3 h4 H locs P hF => ?_)
    replace hF := un_i hF
    refine lv_istore (pc := 29) hx hb dX10_stalled_29 hl (by decide) rfl (fun ls hl => ?_)
    replace hl : lv_has ls 6 [(5, .int v3), (4, .int v2), (0, .ref (B + a0)), (1, .int vp1), (2, .int vp2), (3, .int vp3)] := hl
    refine lv_iload (pc := 31) hx hb dX10_stalled_31 (lv_at hl 0 rfl) ?_
    refine lv_if_ge (pc := 33) (tgt := 40) hx hb dX10_stalled_33 (by decide) (fun hc => ?_) (fun hc => ?_)
    · rw [if_pos hc] at hF
      refine lv_aload_n (pc := 40) hx hb dX10_stalled_40 rfl (lv_at hl 2 rfl) ?_
      refine r_gI (pc := 41) CX P hF fl_X10_343 dX10_stalled_41 (fun v5 hF => ?_)
      cases hF
      exact hret _ _ _ _ P rfl dX10_stalled_44
    · rw [if_neg hc] at hF
      refine lv_iconst (pc := 36) (v := (-1)) hx hb dX10_stalled_36 (by decide) ?_
      refine lv_goto (pc := 37) (tgt := 44) hx hb dX10_stalled_37 (by decide) ?_
      cases hF
      exact hret _ _ _ _ P rfl dX10_stalled_44
  · rw [if_neg hc] at hF
    refine lv_iload (pc := 19) hx hb dX10_stalled_19 (lv_at hl 0 rfl) ?_
    cases hF
    exact hret _ _ _ _ P rfl dX10_stalled_21
