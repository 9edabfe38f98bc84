def F_X10_spareOf_L41 (a13 : Nat) (v14 : Int32) (v15 : Int32) (v16 : Int32) (v17 : Int32) (v18 : Int32) (h19 : Hp) : Option ((Int32 × Int32 × Hp) ⊕ (Int32 × Hp)) :=
if v18 = v15 then (
some (.inr (v17, h19))) else (
(gR h19 a13 10 10).bind fun a20 =>
(aI h19 a20 v18).bind fun v21 =>
(gR h19 a13 10 16).bind fun a22 =>
(aI h19 a22 v18).bind fun v23 =>
(F_X10_lesser h19 v17 (v21 - v23)).bind fun v24 =>
(cO h19 a13 10 (F_X10_parentOf h19 a13 v18)).bind (un fun v25 h26 =>
some (.inl (v24, v25, h26))))
def F_X10_spareOf_L83 (a30 : Nat) (v31 : Int32) (v32 : Int32) (v33 : Int32) (h34 : Hp) : Option ((Int32 × Int32 × Hp) ⊕ (Int32 × Hp)) :=
if v33 = (-1) then (
some (.inr (v32, h34))) else (
if v31 = 0 then (
(cO h34 a30 10 (F_X10_of h34 a30 v33 5 0)).bind (un fun v35 h36 =>
(gR h36 a30 10 13).bind fun a37 =>
(aI h36 a37 v33).bind fun v38 =>
(F_X10_greater h36 0 (v35 - v38)).bind fun v39 =>
(F_X10_lesser h36 v32 v39).bind fun v40 =>
(cO h36 a30 10 (F_X10_parentOf h36 a30 v33)).bind (un fun v41 h42 =>
some (.inl (v40, v41, h42))))) else (
some (.inr (v32, h34))))
def F_X10_spareOf (h : Hp) (a0 : Nat) (vp1 : Int32) (vp2 : Int32) (vp3 : Int32) : Option (Int32 × Hp) :=
(if vp3 = 1 then (
(gR h a0 10 12).bind fun a9 =>
(aI h a9 vp1).bind fun v10 =>
some (v10 : Int32)) else (
(gR h a0 10 11).bind fun a2 =>
(aI h a2 vp1).bind fun v3 =>
(gR h a0 10 1).bind fun a4 =>
(aI h a4 5).bind fun v5 =>
(gR h a0 10 13).bind fun a6 =>
(aI h a6 0).bind fun v7 =>
(F_X10_lesser h v3 (v5 - v7)).bind fun v8 =>
some (v8 : Int32))).bind fun v11 =>
(loopF (fun x => F_X10_spareOf_L41 a0 vp1 vp2 vp3 x.1 x.2.1 x.2.2) 6000 (v11, vp1, h)).bind fun q12 =>
bl q12.1 fun v27 =>
bl q12.2 fun h28 =>
(loopF (fun x => F_X10_spareOf_L83 a0 vp3 x.1 x.2.1 x.2.2) 6000 (v27, vp1, h28)).bind fun q29 =>
bl q29.1 fun v43 =>
bl q29.2 fun h44 =>
some (v43, h44)
set_option maxRecDepth 100000 in
set_option maxHeartbeats 4000000 in
theorem c_X10_spareOf (l : Launch) (G : GG) (B : Nat) (h : Hp) (a0 : Nat) (vp1 : Int32) (vp2 : Int32) (vp3 : Int32) (r0 : Int32) (hr : Hp) (hF : F_X10_spareOf h a0 vp1 vp2 vp3 = some (r0, hr)) : CI l yX10_spareOf cX10_spareOf 6 .int 2 44 0 0 G B h [.ref (B + a0), .int vp1, .int vp2, .int vp3] r0 hr := by
  refine ent_i rfl (Nat.le_of_ble_eq_true rfl) ?_
  intro p e s m args below meth c ls Q CX hnm hret P hl
  have CX : Cxt p m c cX10_spareOf 6 s args RX10 G B := CX
  obtain ⟨⟨hx, hb, hml, hown, hts⟩, -, -⟩ := id CX
  replace hl : lv_has ls 6 [(0, .ref (B + a0)), (1, .int vp1), (2, .int vp2), (3, .int vp3)] := hl
  generalize s.heap = H at P ⊢
  generalize ([] : List Loc) = locs at P ⊢
  unfold F_X10_spareOf at hF
  refine lv_iload_n (pc := 0) hx hb dX10_spareOf_0 rfl (lv_at hl 3 rfl) ?_
  refine lv_iconst (pc := 1) (v := 1) hx hb dX10_spareOf_1 (by decide) ?_
  obtain ⟨j1, hA1, hK1⟩ := bd_some hF
  have hJ1 : ∀ (v11 : Int32) (H : Heap) (locs : List Loc) (ls : Array Slot), Pic G B h s H locs → lv_has ls 6 [(0, .ref (B + a0)), (1, .int vp1), (2, .int vp2), (3, .int vp3)] → v11 = j1 → W p l e (rmM 2 44 0 0) s m args below meth c H locs 0 0 Q (F0 m 36 ls [.int v11]) := by
    intro v11 H locs ls P hl ej
    subst ej
    have hF := hK1
    refine lv_istore (pc := 36) hx hb dX10_spareOf_36 hl (by decide) rfl (fun ls hl => ?_)
    replace hl : lv_has ls 6 [(4, .int v11), (0, .ref (B + a0)), (1, .int vp1), (2, .int vp2), (3, .int vp3)] := hl
    refine lv_iload_n (pc := 38) hx hb dX10_spareOf_38 rfl (lv_at hl 2 rfl) ?_
    refine lv_istore (pc := 39) hx hb dX10_spareOf_39 hl (by decide) rfl (fun ls hl => ?_)
    replace hl : lv_has ls 6 [(5, .int vp1), (4, .int v11), (0, .ref (B + a0)), (1, .int vp1), (2, .int vp2), (3, .int vp3)] := hl
    obtain ⟨r12, hLp12, hK12⟩ := bd_some hF
    have hX12 : ∀ (v27 : Int32) (h28 : Hp) (H : Heap) (locs : List Loc) (ls : Array Slot), Pic G B h28 s H locs → lv_has ls 6 [(0, .ref (B + a0)), (1, .int vp1), (3, .int vp3), (4, .int v27)] → (v27, h28) = r12 → W p l e (rmM 2 44 0 0) s m args below meth c H locs 0 0 Q (F0 m 80 ls []) := by
      intro v27 h28 H locs ls P hl er
      subst er
      have hF := hK12
      replace hF := bl_i hF
      replace hF := bl_i hF
      try dsimp only at hF
      refine lv_iload_n (pc := 80) hx hb dX10_spareOf_80 rfl (lv_at hl 1 rfl) ?_
      refine lv_istore (pc := 81) hx hb dX10_spareOf_81 hl (by decide) rfl (fun ls hl => ?_)
      replace hl : lv_has ls 6 [(5, .int vp1), (0, .ref (B + a0)), (1, .int vp1), (3, .int vp3), (4, .int v27)] := hl
      obtain ⟨r29, hLp29, hK29⟩ := bd_some hF
      have hX29 : ∀ (v43 : Int32) (h44 : Hp) (H : Heap) (locs : List Loc) (ls : Array Slot), Pic G B h44 s H locs → lv_has ls 6 [(4, .int v43)] → (v43, h44) = r29 → W p l e (rmM 2 44 0 0) s m args below meth c H locs 0 0 Q (F0 m 131 ls []) := by
        intro v43 h44 H locs ls P hl er
        subst er
        have hF := hK29
        replace hF := bl_i hF
        replace hF := bl_i hF
        try dsimp only at hF
        refine lv_iload (pc := 131) hx hb dX10_spareOf_131 (lv_at hl 0 rfl) ?_
        cases hF
        exact hret _ _ _ _ P rfl dX10_spareOf_133
      have hL29 : ∀ (n : Nat) (v32 : Int32) (v33 : Int32) (h34 : Hp) (H : Heap) (locs : List Loc) (ls : Array Slot), Pic G B h34 s H locs → lv_has ls 6 [(0, .ref (B + a0)), (3, .int vp3), (4, .int v32), (5, .int v33)] → loopF (fun x => F_X10_spareOf_L83 a0 vp3 x.1 x.2.1 x.2.2) n (v32, v33, h34) = some r29 → W p l e (rmM 2 44 0 0) s m args below meth c H locs 0 0 Q (F0 m 83 ls []) := by
        intro n
        induction n with
        | zero => intro v32 v33 h34 H locs ls P hl hq; cases hq
        | succ n ih =>
          intro v32 v33 h34 H locs ls P hl hq
          obtain ⟨z29, hS29, hI29, hR29⟩ := loop_some hq
          have hF : F_X10_spareOf_L83 a0 vp3 v32 v33 h34 = some z29 := hS29
          unfold F_X10_spareOf_L83 at hF
          refine lv_iload (pc := 83) hx hb dX10_spareOf_83 (lv_at hl 3 rfl) ?_
          refine lv_iconst (pc := 85) (v := (-1)) hx hb dX10_spareOf_85 (by decide) ?_
          refine lv_icmp_eq (pc := 86) (tgt := 131) hx hb dX10_spareOf_86 (by decide) (fun hc => ?_) (fun hc => ?_)
          · rw [if_pos hc] at hF
            exact hX29 _ _ _ _ _ P (lv_sub hl [2] rfl) (hR29 _ (Option.some.inj hF).symm)
          · rw [if_neg hc] at hF
            refine lv_iload_n (pc := 89) hx hb dX10_spareOf_89 rfl (lv_at hl 1 rfl) ?_
            refine lv_if_ne (pc := 90) (tgt := 131) hx hb dX10_spareOf_90 (by decide) (fun hc => ?_) (fun hc => ?_)
            · rw [if_neg hc] at hF
              exact hX29 _ _ _ _ _ P (lv_sub hl [2] rfl) (hR29 _ (Option.some.inj hF).symm)
            · rw [if_pos hc] at hF
              refine lv_iload (pc := 93) hx hb dX10_spareOf_93 (lv_at hl 2 rfl) ?_
              refine lv_iconst (pc := 95) (v := 0) hx hb dX10_spareOf_95 (by decide) ?_
              refine lv_aload_n (pc := 96) hx hb dX10_spareOf_96 rfl (lv_at hl 0 rfl) ?_
              refine lv_iload (pc := 97) hx hb dX10_spareOf_97 (lv_at hl 3 rfl) ?_
              refine lv_iconst (pc := 99) (v := 5) hx hb dX10_spareOf_99 (by decide) ?_
              refine lv_iconst (pc := 100) (v := 0) hx hb dX10_spareOf_100 (by decide) ?_
              refine r_cVi (pc := 101) (As := [.int v33, .int 5, .int 0]) (rest := [.int 0, .int v32]) CX P hl.1 hF kv_X10_99 (fun r h1 q => c_X10_of l G B _ _ _ _ _ _ _ q) rfl rfl ⟨Nat.le_of_ble_eq_true rfl, Nat.le_of_ble_eq_true rfl⟩ (Nat.le_of_ble_eq_true rfl) ⟨Nat.le_of_ble_eq_true rfl, Nat.le_of_ble_eq_true rfl⟩ dX10_spareOf_101 (fun v35 h36 H locs P hF => ?_)
              replace hF := un_i hF
              refine lv_aload_n (pc := 104) hx hb dX10_spareOf_104 rfl (lv_at hl 0 rfl) ?_
              refine r_gR (pc := 105) CX P hF fl_X10_48 dX10_spareOf_105 (fun a37 hF => ?_)
              refine lv_iload (pc := 108) hx hb dX10_spareOf_108 (lv_at hl 3 rfl) ?_
              refine r_aI (pc := 110) CX P hF dX10_spareOf_110 (fun v38 hF => ?_)
              refine lv_isub (pc := 111) hx hb dX10_spareOf_111 ?_
              refine r_cSp (pc := 112) (As := [.int 0, .int (v35 - v38)]) (rest := [.int v32]) CX P hl.1 hF ks_X10_143 (fun r q => c_X10_greater l G B _ _ _ _ q) rfl rfl ⟨Nat.le_of_ble_eq_true rfl, Nat.le_of_ble_eq_true rfl⟩ (Nat.le_of_ble_eq_true rfl) ⟨Nat.le_of_ble_eq_true rfl, Nat.le_of_ble_eq_true rfl⟩ dX10_spareOf_112 (fun v39 H locs P hF => ?_)
              refine r_cSp (pc := 115) (As := [.int v32, .int v39]) (rest := []) CX P hl.1 hF ks_X10_137 (fun r q => c_X10_lesser l G B _ _ _ _ q) rfl rfl ⟨Nat.le_of_ble_eq_true rfl, Nat.le_of_ble_eq_true rfl⟩ (Nat.le_of_ble_eq_true rfl) ⟨Nat.le_of_ble_eq_true rfl, Nat.le_of_ble_eq_true rfl⟩ dX10_spareOf_115 (fun v40 H locs P hF => ?_)
              refine lv_istore (pc := 118) hx hb dX10_spareOf_118 hl (by decide) rfl (fun ls hl => ?_)
              replace hl : lv_has ls 6 [(4, .int v40), (0, .ref (B + a0)), (3, .int vp3), (5, .int v33)] := hl
              refine lv_aload_n (pc := 120) hx hb dX10_spareOf_120 rfl (lv_at hl 1 rfl) ?_
              refine lv_iload (pc := 121) hx hb dX10_spareOf_121 (lv_at hl 3 rfl) ?_
              refine r_cVi (pc := 123) (As := [.int v33]) (rest := []) CX P hl.1 hF kv_X10_103 (fun r h1 q => c_X10_parentOf l G B _ _ _ _ _ q) rfl rfl ⟨Nat.le_of_ble_eq_true rfl, Nat.le_of_ble_eq_true rfl⟩ (Nat.le_of_ble_eq_true rfl) ⟨Nat.le_of_ble_eq_true rfl, Nat.le_of_ble_eq_true rfl⟩ dX10_spareOf_123 (fun v41 h42 H locs P hF => ?_)
              replace hF := un_i hF
              refine lv_istore (pc := 126) hx hb dX10_spareOf_126 hl (by decide) rfl (fun ls hl => ?_)
              replace hl : lv_has ls 6 [(5, .int v41), (4, .int v40), (0, .ref (B + a0)), (3, .int vp3)] := hl
              refine lv_goto (pc := 128) (tgt := 83) hx hb dX10_spareOf_128 (by decide) ?_
              exact ih _ _ _ _ _ _ P (lv_sub hl [2, 3, 1, 0] rfl) (hI29 _ (Option.some.inj hF).symm)
      exact hL29 _ _ _ _ _ _ _ P (lv_sub hl [1, 3, 4, 0] rfl) hLp29
    have hL12 : ∀ (n : Nat) (v17 : Int32) (v18 : Int32) (h19 : Hp) (H : Heap) (locs : List Loc) (ls : Array Slot), Pic G B h19 s H locs → lv_has ls 6 [(0, .ref (B + a0)), (1, .int vp1), (2, .int vp2), (3, .int vp3), (4, .int v17), (5, .int v18)] → loopF (fun x => F_X10_spareOf_L41 a0 vp1 vp2 vp3 x.1 x.2.1 x.2.2) n (v17, v18, h19) = some r12 → W p l e (rmM 2 44 0 0) s m args below meth c H locs 0 0 Q (F0 m 41 ls []) := by
      intro n
      induction n with
      | zero => intro v17 v18 h19 H locs ls P hl hq; cases hq
      | succ n ih =>
        intro v17 v18 h19 H locs ls P hl hq
        obtain ⟨z12, hS12, hI12, hR12⟩ := loop_some hq
        have hF : F_X10_spareOf_L41 a0 vp1 vp2 vp3 v17 v18 h19 = some z12 := hS12
        unfold F_X10_spareOf_L41 at hF
        refine lv_iload (pc := 41) hx hb dX10_spareOf_41 (lv_at hl 5 rfl) ?_
        refine lv_iload_n (pc := 43) hx hb dX10_spareOf_43 rfl (lv_at hl 2 rfl) ?_
        refine lv_icmp_eq (pc := 44) (tgt := 80) hx hb dX10_spareOf_44 (by decide) (fun hc => ?_) (fun hc => ?_)
        · rw [if_pos hc] at hF
          exact hX12 _ _ _ _ _ P (lv_sub hl [0, 1, 3, 4] rfl) (hR12 _ (Option.some.inj hF).symm)
        · rw [if_neg hc] at hF
          refine lv_iload (pc := 47) hx hb dX10_spareOf_47 (lv_at hl 4 rfl) ?_
          refine lv_aload_n (pc := 49) hx hb dX10_spareOf_49 rfl (lv_at hl 0 rfl) ?_
          refine r_gR (pc := 50) CX P hF fl_X10_39 dX10_spareOf_50 (fun a20 hF => ?_)
          refine lv_iload (pc := 53) hx hb dX10_spareOf_53 (lv_at hl 5 rfl) ?_
          refine r_aI (pc := 55) CX P hF dX10_spareOf_55 (fun v21 hF => ?_)
          refine lv_aload_n (pc := 56) hx hb dX10_spareOf_56 rfl (lv_at hl 0 rfl) ?_
          refine r_gR (pc := 57) CX P hF fl_X10_57 dX10_spareOf_57 (fun a22 hF => ?_)
          refine lv_iload (pc := 60) hx hb dX10_spareOf_60 (lv_at hl 5 rfl) ?_
          refine r_aI (pc := 62) CX P hF dX10_spareOf_62 (fun v23 hF => ?_)
          refine lv_isub (pc := 63) hx hb dX10_spareOf_63 ?_
          refine r_cSp (pc := 64) (As := [.int v17, .int (v21 - v23)]) (rest := []) CX P hl.1 hF ks_X10_137 (fun r q => c_X10_lesser l G B _ _ _ _ q) rfl rfl ⟨Nat.le_of_ble_eq_true rfl, Nat.le_of_ble_eq_true rfl⟩ (Nat.le_of_ble_eq_true rfl) ⟨Nat.le_of_ble_eq_true rfl, Nat.le_of_ble_eq_true rfl⟩ dX10_spareOf_64 (fun v24 H locs P hF => ?_)
          refine lv_istore (pc := 67) hx hb dX10_spareOf_67 hl (by decide) rfl (fun ls hl => ?_)
          replace hl : lv_has ls 6 [(4, .int v24), (0, .ref (B + a0)), (1, .int vp1), (2, .int vp2), (3, .int vp3), (5, .int v18)] := hl
          refine lv_aload_n (pc := 69) hx hb dX10_spareOf_69 rfl (lv_at hl 1 rfl) ?_
          refine lv_iload (pc := 70) hx hb dX10_spareOf_70 (lv_at hl 5 rfl) ?_
          refine r_cVi (pc := 72) (As := [.int v18]) (rest := []) CX P hl.1 hF kv_X10_103 (fun r h1 q => c_X10_parentOf l G B _ _ _ _ _ q) rfl rfl ⟨Nat.le_of_ble_eq_true rfl, Nat.le_of_ble_eq_true rfl⟩ (Nat.le_of_ble_eq_true rfl) ⟨Nat.le_of_ble_eq_true rfl, Nat.le_of_ble_eq_true rfl⟩ dX10_spareOf_72 (fun v25 h26 H locs P hF => ?_)
          replace hF := un_i hF
          refine lv_istore (pc := 75) hx hb dX10_spareOf_75 hl (by decide) rfl (fun ls hl => ?_)
          replace hl : lv_has ls 6 [(5, .int v25), (4, .int v24), (0, .ref (B + a0)), (1, .int vp1), (2, .int vp2), (3, .int vp3)] := hl
          refine lv_goto (pc := 77) (tgt := 41) hx hb dX10_spareOf_77 (by decide) ?_
          exact ih _ _ _ _ _ _ P (lv_sub hl [2, 3, 4, 5, 1, 0] rfl) (hI12 _ (Option.some.inj hF).symm)
    exact hL12 _ _ _ _ _ _ _ P (lv_sub hl [2, 3, 4, 5, 1, 0] rfl) hLp12
  replace hF := hA1
  refine lv_icmp_ne (pc := 2) (tgt := 14) hx hb dX10_spareOf_2 (by decide) (fun hc => ?_) (fun hc => ?_)
  · rw [if_neg hc] at hF
    refine lv_aload_n (pc := 14) hx hb dX10_spareOf_14 rfl (lv_at hl 0 rfl) ?_
    refine r_gR (pc := 15) CX P hF fl_X10_42 dX10_spareOf_15 (fun a2 hF => ?_)
    refine lv_iload_n (pc := 18) hx hb dX10_spareOf_18 rfl (lv_at hl 1 rfl) ?_
    refine r_aI (pc := 19) CX P hF dX10_spareOf_19 (fun v3 hF => ?_)
    refine lv_aload_n (pc := 20) hx hb dX10_spareOf_20 rfl (lv_at hl 0 rfl) ?_
    refine r_gR (pc := 21) CX P hF fl_X10_13 dX10_spareOf_21 (fun a4 hF => ?_)
    refine lv_iconst (pc := 24) (v := 5) hx hb dX10_spareOf_24 (by decide) ?_
    refine r_aI (pc := 25) CX P hF dX10_spareOf_25 (fun v5 hF => ?_)
    refine lv_aload_n (pc := 26) hx hb dX10_spareOf_26 rfl (lv_at hl 0 rfl) ?_
    refine r_gR (pc := 27) CX P hF fl_X10_48 dX10_spareOf_27 (fun a6 hF => ?_)
    refine lv_iconst (pc := 30) (v := 0) hx hb dX10_spareOf_30 (by decide) ?_
    refine r_aI (pc := 31) CX P hF dX10_spareOf_31 (fun v7 hF => ?_)
    refine lv_isub (pc := 32) hx hb dX10_spareOf_32 ?_
    refine r_cSp (pc := 33) (As := [.int v3, .int (v5 - v7)]) (rest := []) CX P hl.1 hF ks_X10_137 (fun r q => c_X10_lesser l G B _ _ _ _ q) rfl rfl ⟨Nat.le_of_ble_eq_true rfl, Nat.le_of_ble_eq_true rfl⟩ (Nat.le_of_ble_eq_true rfl) ⟨Nat.le_of_ble_eq_true rfl, Nat.le_of_ble_eq_true rfl⟩ dX10_spareOf_33 (fun v8 H locs P hF => ?_)
    exact hJ1 _ _ _ _ P (lv_sub hl [0, 1, 2, 3] rfl) (Option.some.inj hF)
  · rw [if_pos hc] at hF
    refine lv_aload_n (pc := 5) hx hb dX10_spareOf_5 rfl (lv_at hl 0 rfl) ?_
    refine r_gR (pc := 6) CX P hF fl_X10_45 dX10_spareOf_6 (fun a9 hF => ?_)
    refine lv_iload_n (pc := 9) hx hb dX10_spareOf_9 rfl (lv_at hl 1 rfl) ?_
    refine r_aI (pc := 10) CX P hF dX10_spareOf_10 (fun v10 hF => ?_)
    refine lv_goto (pc := 11) (tgt := 36) hx hb dX10_spareOf_11 (by decide) ?_
    exact hJ1 _ _ _ _ P (lv_sub hl [0, 1, 2, 3] rfl) (Option.some.inj hF)
def F_X10_nextOf_L15 (a3 : Nat) (v4 : Int32) (v5 : Int32) (v6 : Int32) (v7 : Int32) (v8 : Int32) (h9 : Hp) : Option ((Int32 × Int32 × Int32 × Hp) ⊕ (Int32 × Hp)) :=
if 12 ≤ v8 then (
some (.inr (v6, h9))) else (
(cO h9 a3 10 (F_X10_isGroup h9 a3 v8)).bind fun v10 =>
if v10 = 0 then (
bl (v8 + 1) fun v11 =>
some (.inl (v6, v7, v11, h9))) else (
(cO h9 a3 10 (F_X10_isBelow h9 a3 v8 v4)).bind (un fun v12 h13 =>
if v12 = 0 then (
bl (v8 + 1) fun v14 =>
some (.inl (v6, v7, v14, h13))) else (
(cO h13 a3 10 (F_X10_spareOf h13 a3 v8 v4 v5)).bind (un fun v15 h16 =>
if v7 < v15 then (
(cO h16 a3 10 (F_X10_spareOf h16 a3 v8 v4 v5)).bind (un fun v17 h18 =>
bl (v8 + 1) fun v19 =>
some (.inl (v8, v17, v19, h18)))) else (
bl (v8 + 1) fun v20 =>
some (.inl (v6, v7, v20, h16))))))))
def F_X10_nextOf (h : Hp) (a0 : Nat) (vp1 : Int32) (vp2 : Int32) (vp3 : Int32) : Option (Int32 × Hp) :=
(cO h a0 10 (F_X10_laysShares h a0 vp1 vp2)).bind fun h1 =>
(loopF (fun x => F_X10_nextOf_L15 a0 vp1 vp3 x.1 x.2.1 x.2.2.1 x.2.2.2) 6000 ((-1), 0, 0, h1)).bind fun q2 =>
bl q2.1 fun v21 =>
bl q2.2 fun h22 =>
some (v21, h22)
set_option maxRecDepth 100000 in
set_option maxHeartbeats 4000000 in
theorem c_X10_nextOf (l : Launch) (G : GG) (B : Nat) (h : Hp) (a0 : Nat) (vp1 : Int32) (vp2 : Int32) (vp3 : Int32) (r0 : Int32) (hr : Hp) (hF : F_X10_nextOf h a0 vp1 vp2 vp3 = some (r0, hr)) : CI l yX10_nextOf cX10_nextOf 7 .int 5 113 0 0 G B h [.ref (B + a0), .int vp1, .int vp2, .int vp3] r0 hr := by
  refine ent_i rfl (Nat.le_of_ble_eq_true rfl) ?_
  intro p e s m args below meth c ls Q CX hnm hret P hl
  have CX : Cxt p m c cX10_nextOf 7 s args RX10 G B := CX
  obtain ⟨⟨hx, hb, hml, hown, hts⟩, -, -⟩ := id CX
  replace hl : lv_has ls 7 [(0, .ref (B + a0)), (1, .int vp1), (2, .int vp2), (3, .int vp3)] := hl
  generalize s.heap = H at P ⊢
  generalize ([] : List Loc) = locs at P ⊢
  unfold F_X10_nextOf at hF
  refine lv_aload_n (pc := 0) hx hb dX10_nextOf_0 rfl (lv_at hl 0 rfl) ?_
  refine lv_iload_n (pc := 1) hx hb dX10_nextOf_1 rfl (lv_at hl 1 rfl) ?_
  refine lv_iload_n (pc := 2) hx hb dX10_nextOf_2 rfl (lv_at hl 2 rfl) ?_
  refine r_cVv (pc := 3) (As := [.int vp1, .int vp2]) (rest := []) CX P hl.1 hF kv_X10_146 (fun h1 q => c_X10_laysShares l G B _ _ _ _ _ q) rfl rfl ⟨Nat.le_of_ble_eq_true rfl, Nat.le_of_ble_eq_true rfl⟩ (Nat.le_of_ble_eq_true rfl) ⟨Nat.le_of_ble_eq_true rfl, Nat.le_of_ble_eq_true rfl⟩ dX10_nextOf_3 (fun h1 H locs P hF => ?_)
  refine lv_iconst (pc := 6) (v := (-1)) hx hb dX10_nextOf_6 (by decide) ?_
  refine lv_istore (pc := 7) hx hb dX10_nextOf_7 hl (by decide) rfl (fun ls hl => ?_)
  replace hl : lv_has ls 7 [(4, .int (-1)), (0, .ref (B + a0)), (1, .int vp1), (2, .int vp2), (3, .int vp3)] := hl
  refine lv_iconst (pc := 9) (v := 0) hx hb dX10_nextOf_9 (by decide) ?_
  refine lv_istore (pc := 10) hx hb dX10_nextOf_10 hl (by decide) rfl (fun ls hl => ?_)
  replace hl : lv_has ls 7 [(5, .int 0), (4, .int (-1)), (0, .ref (B + a0)), (1, .int vp1), (2, .int vp2), (3, .int vp3)] := hl
  refine lv_iconst (pc := 12) (v := 0) hx hb dX10_nextOf_12 (by decide) ?_
  refine lv_istore (pc := 13) hx hb dX10_nextOf_13 hl (by decide) rfl (fun ls hl => ?_)
  replace hl : lv_has ls 7 [(6, .int 0), (5, .int 0), (4, .int (-1)), (0, .ref (B + a0)), (1, .int vp1), (2, .int vp2), (3, .int vp3)] := hl
  obtain ⟨r2, hLp2, hK2⟩ := bd_some hF
  have hX2 : ∀ (v21 : Int32) (h22 : Hp) (H : Heap) (locs : List Loc) (ls : Array Slot), Pic G B h22 s H locs → lv_has ls 7 [(4, .int v21)] → (v21, h22) = r2 → W p l e (rmM 5 113 0 0) s m args below meth c H locs 0 0 Q (F0 m 77 ls []) := by
    intro v21 h22 H locs ls P hl er
    subst er
    have hF := hK2
    replace hF := bl_i hF
    replace hF := bl_i hF
    try dsimp only at hF
    refine lv_iload (pc := 77) hx hb dX10_nextOf_77 (lv_at hl 0 rfl) ?_
    cases hF
    exact hret _ _ _ _ P rfl dX10_nextOf_79
  have hL2 : ∀ (n : Nat) (v6 : Int32) (v7 : Int32) (v8 : Int32) (h9 : Hp) (H : Heap) (locs : List Loc) (ls : Array Slot), Pic G B h9 s H locs → lv_has ls 7 [(0, .ref (B + a0)), (1, .int vp1), (3, .int vp3), (4, .int v6), (5, .int v7), (6, .int v8)] → loopF (fun x => F_X10_nextOf_L15 a0 vp1 vp3 x.1 x.2.1 x.2.2.1 x.2.2.2) n (v6, v7, v8, h9) = some r2 → W p l e (rmM 5 113 0 0) s m args below meth c H locs 0 0 Q (F0 m 15 ls []) := by
    intro n
    induction n with
    | zero => intro v6 v7 v8 h9 H locs ls P hl hq; cases hq
    | succ n ih =>
      intro v6 v7 v8 h9 H locs ls P hl hq
      obtain ⟨z2, hS2, hI2, hR2⟩ := loop_some hq
      have hF : F_X10_nextOf_L15 a0 vp1 vp3 v6 v7 v8 h9 = some z2 := hS2
      unfold F_X10_nextOf_L15 at hF
      refine lv_iload (pc := 15) hx hb dX10_nextOf_15 (lv_at hl 5 rfl) ?_
      refine lv_bipush (pc := 17) (v := 12) hx hb dX10_nextOf_17 (by decide) ?_
      refine lv_icmp_ge (pc := 19) (tgt := 77) hx hb dX10_nextOf_19 (by decide) (fun hc => ?_) (fun hc => ?_)
      · rw [if_pos hc] at hF
        exact hX2 _ _ _ _ _ P (lv_sub hl [3] rfl) (hR2 _ (Option.some.inj hF).symm)
      · rw [if_neg hc] at hF
        refine lv_aload_n (pc := 22) hx hb dX10_nextOf_22 rfl (lv_at hl 0 rfl) ?_
        refine lv_iload (pc := 23) hx hb dX10_nextOf_23 (lv_at hl 5 rfl) ?_
        refine r_cVp (pc := 25) (As := [.int v8]) (rest := []) CX P hl.1 hF kv_X10_107 (fun r q => c_X10_isGroup l G B _ _ _ _ q) rfl rfl ⟨Nat.le_of_ble_eq_true rfl, Nat.le_of_ble_eq_true rfl⟩ (Nat.le_of_ble_eq_true rfl) ⟨Nat.le_of_ble_eq_true rfl, Nat.le_of_ble_eq_true rfl⟩ dX10_nextOf_25 (fun v10 H locs P hF => ?_)
        refine lv_if_eq (pc := 28) (tgt := 71) hx hb dX10_nextOf_28 (by decide) (fun hc => ?_) (fun hc => ?_)
        · rw [if_pos hc] at hF
          obtain ⟨v11, ev11, hF⟩ := bl_o hF
          refine lv_iinc (pc := 71) (k := 5) (v := v11) hx hb dX10_nextOf_71 hl rfl ev11 (by decide) rfl (fun ls hl => ?_)
          replace hl : lv_has ls 7 [(6, .int v11), (0, .ref (B + a0)), (1, .int vp1), (3, .int vp3), (4, .int v6), (5, .int v7)] := hl
          refine lv_goto (pc := 74) (tgt := 15) hx hb dX10_nextOf_74 (by decide) ?_
          exact ih _ _ _ _ _ _ _ P (lv_sub hl [1, 2, 3, 4, 5, 0] rfl) (hI2 _ (Option.some.inj hF).symm)
        · rw [if_neg hc] at hF
          refine lv_aload_n (pc := 31) hx hb dX10_nextOf_31 rfl (lv_at hl 0 rfl) ?_
          refine lv_iload (pc := 32) hx hb dX10_nextOf_32 (lv_at hl 5 rfl) ?_
          refine lv_iload_n (pc := 34) hx hb dX10_nextOf_34 rfl (lv_at hl 1 rfl) ?_
          refine r_cVi (pc := 35) (As := [.int v8, .int vp1]) (rest := []) CX P hl.1 hF kv_X10_111 (fun r h1 q => c_X10_isBelow l G B _ _ _ _ _ _ q) rfl rfl ⟨Nat.le_of_ble_eq_true rfl, Nat.le_of_ble_eq_true rfl⟩ (Nat.le_of_ble_eq_true rfl) ⟨Nat.le_of_ble_eq_true rfl, Nat.le_of_ble_eq_true rfl⟩ dX10_nextOf_35 (fun v12 h13 H locs P hF => ?_)
          replace hF := un_i hF
          refine lv_if_eq (pc := 38) (tgt := 71) hx hb dX10_nextOf_38 (by decide) (fun hc => ?_) (fun hc => ?_)
          · rw [if_pos hc] at hF
            obtain ⟨v14, ev14, hF⟩ := bl_o hF
            refine lv_iinc (pc := 71) (k := 5) (v := v14) hx hb dX10_nextOf_71 hl rfl ev14 (by decide) rfl (fun ls hl => ?_)
            replace hl : lv_has ls 7 [(6, .int v14), (0, .ref (B + a0)), (1, .int vp1), (3, .int vp3), (4, .int v6), (5, .int v7)] := hl
            refine lv_goto (pc := 74) (tgt := 15) hx hb dX10_nextOf_74 (by decide) ?_
            exact ih _ _ _ _ _ _ _ P (lv_sub hl [1, 2, 3, 4, 5, 0] rfl) (hI2 _ (Option.some.inj hF).symm)
          · rw [if_neg hc] at hF
            refine lv_aload_n (pc := 41) hx hb dX10_nextOf_41 rfl (lv_at hl 0 rfl) ?_
            refine lv_iload (pc := 42) hx hb dX10_nextOf_42 (lv_at hl 5 rfl) ?_
            refine lv_iload_n (pc := 44) hx hb dX10_nextOf_44 rfl (lv_at hl 1 rfl) ?_
            refine lv_iload_n (pc := 45) hx hb dX10_nextOf_45 rfl (lv_at hl 2 rfl) ?_
            refine r_cVi (pc := 46) (As := [.int v8, .int vp1, .int vp3]) (rest := []) CX P hl.1 hF kv_X10_149 (fun r h1 q => c_X10_spareOf l G B _ _ _ _ _ _ _ q) rfl rfl ⟨Nat.le_of_ble_eq_true rfl, Nat.le_of_ble_eq_true rfl⟩ (Nat.le_of_ble_eq_true rfl) ⟨Nat.le_of_ble_eq_true rfl, Nat.le_of_ble_eq_true rfl⟩ dX10_nextOf_46 (fun v15 h16 H locs P hF => ?_)
            replace hF := un_i hF
            refine lv_iload (pc := 49) hx hb dX10_nextOf_49 (lv_at hl 4 rfl) ?_
            refine lv_icmp_gt (pc := 51) (tgt := 57) hx hb dX10_nextOf_51 (by decide) (fun hc => ?_) (fun hc => ?_)
            · rw [if_pos hc] at hF
              refine lv_iload (pc := 57) hx hb dX10_nextOf_57 (lv_at hl 5 rfl) ?_
              refine lv_istore (pc := 59) hx hb dX10_nextOf_59 hl (by decide) rfl (fun ls hl => ?_)
              replace hl : lv_has ls 7 [(4, .int v8), (0, .ref (B + a0)), (1, .int vp1), (3, .int vp3), (5, .int v7), (6, .int v8)] := hl
              refine lv_aload_n (pc := 61) hx hb dX10_nextOf_61 rfl (lv_at hl 1 rfl) ?_
              refine lv_iload (pc := 62) hx hb dX10_nextOf_62 (lv_at hl 5 rfl) ?_
              refine lv_iload_n (pc := 64) hx hb dX10_nextOf_64 rfl (lv_at hl 2 rfl) ?_
              refine lv_iload_n (pc := 65) hx hb dX10_nextOf_65 rfl (lv_at hl 3 rfl) ?_
              refine r_cVi (pc := 66) (As := [.int v8, .int vp1, .int vp3]) (rest := []) CX P hl.1 hF kv_X10_149 (fun r h1 q => c_X10_spareOf l G B _ _ _ _ _ _ _ q) rfl rfl ⟨Nat.le_of_ble_eq_true rfl, Nat.le_of_ble_eq_true rfl⟩ (Nat.le_of_ble_eq_true rfl) ⟨Nat.le_of_ble_eq_true rfl, Nat.le_of_ble_eq_true rfl⟩ dX10_nextOf_66 (fun v17 h18 H locs P hF => ?_)
              replace hF := un_i hF
              refine lv_istore (pc := 69) hx hb dX10_nextOf_69 hl (by decide) rfl (fun ls hl => ?_)
              replace hl : lv_has ls 7 [(5, .int v17), (4, .int v8), (0, .ref (B + a0)), (1, .int vp1), (3, .int vp3), (6, .int v8)] := hl
              obtain ⟨v19, ev19, hF⟩ := bl_o hF
              refine lv_iinc (pc := 71) (k := 5) (v := v19) hx hb dX10_nextOf_71 hl rfl ev19 (by decide) rfl (fun ls hl => ?_)
              replace hl : lv_has ls 7 [(6, .int v19), (5, .int v17), (4, .int v8), (0, .ref (B + a0)), (1, .int vp1), (3, .int vp3)] := hl
              refine lv_goto (pc := 74) (tgt := 15) hx hb dX10_nextOf_74 (by decide) ?_
              exact ih _ _ _ _ _ _ _ P (lv_sub hl [3, 4, 5, 2, 1, 0] rfl) (hI2 _ (Option.some.inj hF).symm)
            · rw [if_neg hc] at hF
              refine lv_goto (pc := 54) (tgt := 71) hx hb dX10_nextOf_54 (by decide) ?_
              obtain ⟨v20, ev20, hF⟩ := bl_o hF
              refine lv_iinc (pc := 71) (k := 5) (v := v20) hx hb dX10_nextOf_71 hl rfl ev20 (by decide) rfl (fun ls hl => ?_)
              replace hl : lv_has ls 7 [(6, .int v20), (0, .ref (B + a0)), (1, .int vp1), (3, .int vp3), (4, .int v6), (5, .int v7)] := hl
              refine lv_goto (pc := 74) (tgt := 15) hx hb dX10_nextOf_74 (by decide) ?_
              exact ih _ _ _ _ _ _ _ P (lv_sub hl [1, 2, 3, 4, 5, 0] rfl) (hI2 _ (Option.some.inj hF).symm)
  exact hL2 _ _ _ _ _ _ _ _ P (lv_sub hl [3, 4, 6, 2, 1, 0] rfl) hLp2
def F_X10_drains_L4 (a2 : Nat) (v3 : Int32) (v4 : Int32) (v5 : Int32) (h6 : Hp) : Option ((Int32 × Int32 × Hp) ⊕ (Int32 × Hp)) :=
if 12 ≤ v5 then (
some (.inr (v4, h6))) else (
(cO h6 a2 10 (F_X10_isGroup h6 a2 v5)).bind fun v7 =>
if v7 = 0 then (
bl (v5 + 1) fun v8 =>
some (.inl (v4, v8, h6))) else (
(cO h6 a2 10 (F_X10_isBelow h6 a2 v5 v3)).bind (un fun v9 h10 =>
if v9 = 0 then (
bl (v5 + 1) fun v16 =>
some (.inl (v4, v16, h10))) else (
(cO h10 a2 10 (F_X10_of h10 a2 v5 10 0)).bind (un fun v11 h12 =>
bl (v4 + v11) fun v13 =>
(cO h12 a2 10 (F_X10_lays h12 a2 v5 10 0)).bind fun h14 =>
bl (v5 + 1) fun v15 =>
some (.inl (v13, v15, h14)))))))
def F_X10_drains (h : Hp) (a0 : Nat) (vp1 : Int32) : Option (Int32 × Hp) :=
(loopF (fun x => F_X10_drains_L4 a0 vp1 x.1 x.2.1 x.2.2) 6000 (0, 0, h)).bind fun q1 =>
bl q1.1 fun v17 =>
bl q1.2 fun h18 =>
some (v17, h18)
set_option maxRecDepth 100000 in
set_option maxHeartbeats 4000000 in
theorem c_X10_drains (l : Launch) (G : GG) (B : Nat) (h : Hp) (a0 : Nat) (vp1 : Int32) (r0 : Int32) (hr : Hp) (hF : F_X10_drains h a0 vp1 = some (r0, hr)) : CI l yX10_drains cX10_drains 4 .int 3 67 0 0 G B h [.ref (B + a0), .int vp1] r0 hr := by
  refine ent_i rfl (Nat.le_of_ble_eq_true rfl) ?_
  intro p e s m args below meth c ls Q CX hnm hret P hl
  have CX : Cxt p m c cX10_drains 4 s args RX10 G B := CX
  obtain ⟨⟨hx, hb, hml, hown, hts⟩, -, -⟩ := id CX
  replace hl : lv_has ls 4 [(0, .ref (B + a0)), (1, .int vp1)] := hl
  generalize s.heap = H at P ⊢
  generalize ([] : List Loc) = locs at P ⊢
  unfold F_X10_drains at hF
  refine lv_iconst (pc := 0) (v := 0) hx hb dX10_drains_0 (by decide) ?_
  refine lv_istore_n (pc := 1) hx hb dX10_drains_1 rfl hl (by decide) rfl (fun ls hl => ?_)
  replace hl : lv_has ls 4 [(2, .int 0), (0, .ref (B + a0)), (1, .int vp1)] := hl
  refine lv_iconst (pc := 2) (v := 0) hx hb dX10_drains_2 (by decide) ?_
  refine lv_istore_n (pc := 3) hx hb dX10_drains_3 rfl hl (by decide) rfl (fun ls hl => ?_)
  replace hl : lv_has ls 4 [(3, .int 0), (2, .int 0), (0, .ref (B + a0)), (1, .int vp1)] := hl
  obtain ⟨r1, hLp1, hK1⟩ := bd_some hF
  have hX1 : ∀ (v17 : Int32) (h18 : Hp) (H : Heap) (locs : List Loc) (ls : Array Slot), Pic G B h18 s H locs → lv_has ls 4 [(2, .int v17)] → (v17, h18) = r1 → W p l e (rmM 3 67 0 0) s m args below meth c H locs 0 0 Q (F0 m 55 ls []) := by
    intro v17 h18 H locs ls P hl er
    subst er
    have hF := hK1
    replace hF := bl_i hF
    replace hF := bl_i hF
    try dsimp only at hF
    refine lv_iload_n (pc := 55) hx hb dX10_drains_55 rfl (lv_at hl 0 rfl) ?_
    cases hF
    exact hret _ _ _ _ P rfl dX10_drains_56
  have hL1 : ∀ (n : Nat) (v4 : Int32) (v5 : Int32) (h6 : Hp) (H : Heap) (locs : List Loc) (ls : Array Slot), Pic G B h6 s H locs → lv_has ls 4 [(0, .ref (B + a0)), (1, .int vp1), (2, .int v4), (3, .int v5)] → loopF (fun x => F_X10_drains_L4 a0 vp1 x.1 x.2.1 x.2.2) n (v4, v5, h6) = some r1 → W p l e (rmM 3 67 0 0) s m args below meth c H locs 0 0 Q (F0 m 4 ls []) := by
    intro n
    induction n with
    | zero => intro v4 v5 h6 H locs ls P hl hq; cases hq
    | succ n ih =>
      intro v4 v5 h6 H locs ls P hl hq
      obtain ⟨z1, hS1, hI1, hR1⟩ := loop_some hq
      have hF : F_X10_drains_L4 a0 vp1 v4 v5 h6 = some z1 := hS1
      unfold F_X10_drains_L4 at hF
      refine lv_iload_n (pc := 4) hx hb dX10_drains_4 rfl (lv_at hl 3 rfl) ?_
      refine lv_bipush (pc := 5) (v := 12) hx hb dX10_drains_5 (by decide) ?_
      refine lv_icmp_ge (pc := 7) (tgt := 55) hx hb dX10_drains_7 (by decide) (fun hc => ?_) (fun hc => ?_)
      · rw [if_pos hc] at hF
        exact hX1 _ _ _ _ _ P (lv_sub hl [2] rfl) (hR1 _ (Option.some.inj hF).symm)
      · rw [if_neg hc] at hF
        refine lv_aload_n (pc := 10) hx hb dX10_drains_10 rfl (lv_at hl 0 rfl) ?_
        refine lv_iload_n (pc := 11) hx hb dX10_drains_11 rfl (lv_at hl 3 rfl) ?_
        refine r_cVp (pc := 12) (As := [.int v5]) (rest := []) CX P hl.1 hF kv_X10_107 (fun r q => c_X10_isGroup l G B _ _ _ _ q) rfl rfl ⟨Nat.le_of_ble_eq_true rfl, Nat.le_of_ble_eq_true rfl⟩ (Nat.le_of_ble_eq_true rfl) ⟨Nat.le_of_ble_eq_true rfl, Nat.le_of_ble_eq_true rfl⟩ dX10_drains_12 (fun v7 H locs P hF => ?_)
        refine lv_if_eq (pc := 15) (tgt := 49) hx hb dX10_drains_15 (by decide) (fun hc => ?_) (fun hc => ?_)
        · rw [if_pos hc] at hF
          obtain ⟨v8, ev8, hF⟩ := bl_o hF
          refine lv_iinc (pc := 49) (k := 3) (v := v8) hx hb dX10_drains_49 hl rfl ev8 (by decide) rfl (fun ls hl => ?_)
          replace hl : lv_has ls 4 [(3, .int v8), (0, .ref (B + a0)), (1, .int vp1), (2, .int v4)] := hl
          refine lv_goto (pc := 52) (tgt := 4) hx hb dX10_drains_52 (by decide) ?_
          exact ih _ _ _ _ _ _ P (lv_sub hl [1, 2, 3, 0] rfl) (hI1 _ (Option.some.inj hF).symm)
        · rw [if_neg hc] at hF
          refine lv_aload_n (pc := 18) hx hb dX10_drains_18 rfl (lv_at hl 0 rfl) ?_
          refine lv_iload_n (pc := 19) hx hb dX10_drains_19 rfl (lv_at hl 3 rfl) ?_
          refine lv_iload_n (pc := 20) hx hb dX10_drains_20 rfl (lv_at hl 1 rfl) ?_
          refine r_cVi (pc := 21) (As := [.int v5, .int vp1]) (rest := []) CX P hl.1 hF kv_X10_111 (fun r h1 q => c_X10_isBelow l G B _ _ _ _ _ _ q) rfl rfl ⟨Nat.le_of_ble_eq_true rfl, Nat.le_of_ble_eq_true rfl⟩ (Nat.le_of_ble_eq_true rfl) ⟨Nat.le_of_ble_eq_true rfl, Nat.le_of_ble_eq_true rfl⟩ dX10_drains_21 (fun v9 h10 H locs P hF => ?_)
          replace hF := un_i hF
          refine lv_if_ne (pc := 24) (tgt := 30) hx hb dX10_drains_24 (by decide) (fun hc => ?_) (fun hc => ?_)
          · rw [if_neg hc] at hF
            refine lv_iload_n (pc := 30) hx hb dX10_drains_30 rfl (lv_at hl 2 rfl) ?_
            refine lv_aload_n (pc := 31) hx hb dX10_drains_31 rfl (lv_at hl 0 rfl) ?_
            refine lv_iload_n (pc := 32) hx hb dX10_drains_32 rfl (lv_at hl 3 rfl) ?_
            refine lv_bipush (pc := 33) (v := 10) hx hb dX10_drains_33 (by decide) ?_
            refine lv_iconst (pc := 35) (v := 0) hx hb dX10_drains_35 (by decide) ?_
            refine r_cVi (pc := 36) (As := [.int v5, .int 10, .int 0]) (rest := [.int v4]) CX P hl.1 hF kv_X10_99 (fun r h1 q => c_X10_of l G B _ _ _ _ _ _ _ q) rfl rfl ⟨Nat.le_of_ble_eq_true rfl, Nat.le_of_ble_eq_true rfl⟩ (Nat.le_of_ble_eq_true rfl) ⟨Nat.le_of_ble_eq_true rfl, Nat.le_of_ble_eq_true rfl⟩ dX10_drains_36 (fun v11 h12 H locs P hF => ?_)
            replace hF := un_i hF
            refine lv_iadd (pc := 39) hx hb dX10_drains_39 ?_
            refine lv_topi (fun v13 ev13 => ?_)
            replace hF := bl_e hF ev13
            refine lv_istore_n (pc := 40) hx hb dX10_drains_40 rfl hl (by decide) rfl (fun ls hl => ?_)
            replace hl : lv_has ls 4 [(2, .int v13), (0, .ref (B + a0)), (1, .int vp1), (3, .int v5)] := hl
            refine lv_aload_n (pc := 41) hx hb dX10_drains_41 rfl (lv_at hl 1 rfl) ?_
            refine lv_iload_n (pc := 42) hx hb dX10_drains_42 rfl (lv_at hl 3 rfl) ?_
            refine lv_bipush (pc := 43) (v := 10) hx hb dX10_drains_43 (by decide) ?_
            refine lv_iconst (pc := 45) (v := 0) hx hb dX10_drains_45 (by decide) ?_
            refine r_cVv (pc := 46) (As := [.int v5, .int 10, .int 0]) (rest := []) CX P hl.1 hF kv_X10_95 (fun h1 q => c_X10_lays l G B _ _ _ _ _ _ q) rfl rfl ⟨Nat.le_of_ble_eq_true rfl, Nat.le_of_ble_eq_true rfl⟩ (Nat.le_of_ble_eq_true rfl) ⟨Nat.le_of_ble_eq_true rfl, Nat.le_of_ble_eq_true rfl⟩ dX10_drains_46 (fun h14 H locs P hF => ?_)
            obtain ⟨v15, ev15, hF⟩ := bl_o hF
            refine lv_iinc (pc := 49) (k := 3) (v := v15) hx hb dX10_drains_49 hl rfl ev15 (by decide) rfl (fun ls hl => ?_)
            replace hl : lv_has ls 4 [(3, .int v15), (2, .int v13), (0, .ref (B + a0)), (1, .int vp1)] := hl
            refine lv_goto (pc := 52) (tgt := 4) hx hb dX10_drains_52 (by decide) ?_
            exact ih _ _ _ _ _ _ P (lv_sub hl [2, 3, 1, 0] rfl) (hI1 _ (Option.some.inj hF).symm)
          · rw [if_pos hc] at hF
            refine lv_goto (pc := 27) (tgt := 49) hx hb dX10_drains_27 (by decide) ?_
            obtain ⟨v16, ev16, hF⟩ := bl_o hF
            refine lv_iinc (pc := 49) (k := 3) (v := v16) hx hb dX10_drains_49 hl rfl ev16 (by decide) rfl (fun ls hl => ?_)
            replace hl : lv_has ls 4 [(3, .int v16), (0, .ref (B + a0)), (1, .int vp1), (2, .int v4)] := hl
            refine lv_goto (pc := 52) (tgt := 4) hx hb dX10_drains_52 (by decide) ?_
            exact ih _ _ _ _ _ _ P (lv_sub hl [1, 2, 3, 0] rfl) (hI1 _ (Option.some.inj hF).symm)
  exact hL1 _ _ _ _ _ _ _ P (lv_sub hl [2, 3, 1, 0] rfl) hLp1
def F_X10_mostIn_L5 (a2 : Nat) (v3 : Int32) (v4 : Int32) (v5 : Int32) (v6 : Int32) (h7 : Hp) : Option ((Int32 × Int32 × Hp) ⊕ (Int32 × Hp)) :=
if 16 ≤ v6 then (
some (.inr (v5, h7))) else (
(cO h7 a2 10 (F_X10_isProcess h7 a2 v6)).bind fun v8 =>
if v8 = 0 then (
bl (v6 + 1) fun v9 =>
some (.inl (v5, v9, h7))) else (
(cO h7 a2 10 (F_X10_groupOf h7 a2 v6)).bind (un fun v10 h11 =>
if v10 = v3 then (
bl (fun (v18 : Int32) (h19 : Hp) =>
bl (v18 + 1) fun v20 =>
some (.inl (v18, v20, h19))) fun k12 =>
if v5 = (-1) then (
k12 (v6 : Int32) h11) else (
(cO h11 a2 10 (F_X10_ofProcess h11 a2 v6 (2 + v4) 0)).bind (un fun v13 h14 =>
(cO h14 a2 10 (F_X10_ofProcess h14 a2 v5 (2 + v4) 0)).bind (un fun v15 h16 =>
if v13 ≤ v15 then (
bl (v6 + 1) fun v17 =>
some (.inl (v5, v17, h16))) else (
k12 (v6 : Int32) h16))))) else (
bl (v6 + 1) fun v21 =>
some (.inl (v5, v21, h11))))))
def F_X10_mostIn (h : Hp) (a0 : Nat) (vp1 : Int32) (vp2 : Int32) : Option (Int32 × Hp) :=
(loopF (fun x => F_X10_mostIn_L5 a0 vp1 vp2 x.1 x.2.1 x.2.2) 6000 ((-1), 0, h)).bind fun q1 =>
bl q1.1 fun v22 =>
bl q1.2 fun h23 =>
some (v22, h23)
set_option maxRecDepth 100000 in
set_option maxHeartbeats 4000000 in
theorem c_X10_mostIn (l : Launch) (G : GG) (B : Nat) (h : Hp) (a0 : Nat) (vp1 : Int32) (vp2 : Int32) (r0 : Int32) (hr : Hp) (hF : F_X10_mostIn h a0 vp1 vp2 = some (r0, hr)) : CI l yX10_mostIn cX10_mostIn 5 .int 2 46 0 0 G B h [.ref (B + a0), .int vp1, .int vp2] r0 hr := by
  refine ent_i rfl (Nat.le_of_ble_eq_true rfl) ?_
  intro p e s m args below meth c ls Q CX hnm hret P hl
  have CX : Cxt p m c cX10_mostIn 5 s args RX10 G B := CX
  obtain ⟨⟨hx, hb, hml, hown, hts⟩, -, -⟩ := id CX
  replace hl : lv_has ls 5 [(0, .ref (B + a0)), (1, .int vp1), (2, .int vp2)] := hl
  generalize s.heap = H at P ⊢
  generalize ([] : List Loc) = locs at P ⊢
  unfold F_X10_mostIn at hF
  refine lv_iconst (pc := 0) (v := (-1)) hx hb dX10_mostIn_0 (by decide) ?_
  refine lv_istore_n (pc := 1) hx hb dX10_mostIn_1 rfl hl (by decide) rfl (fun ls hl => ?_)
  replace hl : lv_has ls 5 [(3, .int (-1)), (0, .ref (B + a0)), (1, .int vp1), (2, .int vp2)] := hl
  refine lv_iconst (pc := 2) (v := 0) hx hb dX10_mostIn_2 (by decide) ?_
  refine lv_istore (pc := 3) hx hb dX10_mostIn_3 hl (by decide) rfl (fun ls hl => ?_)
  replace hl : lv_has ls 5 [(4, .int 0), (3, .int (-1)), (0, .ref (B + a0)), (1, .int vp1), (2, .int vp2)] := hl
  obtain ⟨r1, hLp1, hK1⟩ := bd_some hF
  have hX1 : ∀ (v22 : Int32) (h23 : Hp) (H : Heap) (locs : List Loc) (ls : Array Slot), Pic G B h23 s H locs → lv_has ls 5 [(3, .int v22)] → (v22, h23) = r1 → W p l e (rmM 2 46 0 0) s m args below meth c H locs 0 0 Q (F0 m 70 ls []) := by
    intro v22 h23 H locs ls P hl er
    subst er
    have hF := hK1
    replace hF := bl_i hF
    replace hF := bl_i hF
    try dsimp only at hF
    refine lv_iload_n (pc := 70) hx hb dX10_mostIn_70 rfl (lv_at hl 0 rfl) ?_
    cases hF
    exact hret _ _ _ _ P rfl dX10_mostIn_71
  have hL1 : ∀ (n : Nat) (v5 : Int32) (v6 : Int32) (h7 : Hp) (H : Heap) (locs : List Loc) (ls : Array Slot), Pic G B h7 s H locs → lv_has ls 5 [(0, .ref (B + a0)), (1, .int vp1), (2, .int vp2), (3, .int v5), (4, .int v6)] → loopF (fun x => F_X10_mostIn_L5 a0 vp1 vp2 x.1 x.2.1 x.2.2) n (v5, v6, h7) = some r1 → W p l e (rmM 2 46 0 0) s m args below meth c H locs 0 0 Q (F0 m 5 ls []) := by
    intro n
    induction n with
    | zero => intro v5 v6 h7 H locs ls P hl hq; cases hq
    | succ n ih =>
      intro v5 v6 h7 H locs ls P hl hq
      obtain ⟨z1, hS1, hI1, hR1⟩ := loop_some hq
      have hF : F_X10_mostIn_L5 a0 vp1 vp2 v5 v6 h7 = some z1 := hS1
      unfold F_X10_mostIn_L5 at hF
      refine lv_iload (pc := 5) hx hb dX10_mostIn_5 (lv_at hl 4 rfl) ?_
      refine lv_bipush (pc := 7) (v := 16) hx hb dX10_mostIn_7 (by decide) ?_
      refine lv_icmp_ge (pc := 9) (tgt := 70) hx hb dX10_mostIn_9 (by decide) (fun hc => ?_) (fun hc => ?_)
      · rw [if_pos hc] at hF
        exact hX1 _ _ _ _ _ P (lv_sub hl [3] rfl) (hR1 _ (Option.some.inj hF).symm)
      · rw [if_neg hc] at hF
        refine lv_aload_n (pc := 12) hx hb dX10_mostIn_12 rfl (lv_at hl 0 rfl) ?_
        refine lv_iload (pc := 13) hx hb dX10_mostIn_13 (lv_at hl 4 rfl) ?_
        refine r_cVp (pc := 15) (As := [.int v6]) (rest := []) CX P hl.1 hF kv_X10_117 (fun r q => c_X10_isProcess l G B _ _ _ _ q) rfl rfl ⟨Nat.le_of_ble_eq_true rfl, Nat.le_of_ble_eq_true rfl⟩ (Nat.le_of_ble_eq_true rfl) ⟨Nat.le_of_ble_eq_true rfl, Nat.le_of_ble_eq_true rfl⟩ dX10_mostIn_15 (fun v8 H locs P hF => ?_)
        refine lv_if_eq (pc := 18) (tgt := 64) hx hb dX10_mostIn_18 (by decide) (fun hc => ?_) (fun hc => ?_)
        · rw [if_pos hc] at hF
          obtain ⟨v9, ev9, hF⟩ := bl_o hF
          refine lv_iinc (pc := 64) (k := 4) (v := v9) hx hb dX10_mostIn_64 hl rfl ev9 (by decide) rfl (fun ls hl => ?_)
          replace hl : lv_has ls 5 [(4, .int v9), (0, .ref (B + a0)), (1, .int vp1), (2, .int vp2), (3, .int v5)] := hl
          refine lv_goto (pc := 67) (tgt := 5) hx hb dX10_mostIn_67 (by decide) ?_
          exact ih _ _ _ _ _ _ P (lv_sub hl [1, 2, 3, 4, 0] rfl) (hI1 _ (Option.some.inj hF).symm)
        · rw [if_neg hc] at hF
          refine lv_aload_n (pc := 21) hx hb dX10_mostIn_21 rfl (lv_at hl 0 rfl) ?_
          refine lv_iload (pc := 22) hx hb dX10_mostIn_22 (lv_at hl 4 rfl) ?_
          refine r_cVi (pc := 24) (As := [.int v6]) (rest := []) CX P hl.1 hF kv_X10_120 (fun r h1 q => c_X10_groupOf l G B _ _ _ _ _ q) rfl rfl ⟨Nat.le_of_ble_eq_true rfl, Nat.le_of_ble_eq_true rfl⟩ (Nat.le_of_ble_eq_true rfl) ⟨Nat.le_of_ble_eq_true rfl, Nat.le_of_ble_eq_true rfl⟩ dX10_mostIn_24 (fun v10 h11 H locs P hF => ?_)
          replace hF := un_i hF
          refine lv_iload_n (pc := 27) hx hb dX10_mostIn_27 rfl (lv_at hl 1 rfl) ?_
          refine lv_icmp_eq (pc := 28) (tgt := 34) hx hb dX10_mostIn_28 (by decide) (fun hc => ?_) (fun hc => ?_)
          · rw [if_pos hc] at hF
            refine lv_iload_n (pc := 34) hx hb dX10_mostIn_34 rfl (lv_at hl 3 rfl) ?_
            refine lv_iconst (pc := 35) (v := (-1)) hx hb dX10_mostIn_35 (by decide) ?_
            obtain ⟨k12, ek12, hF⟩ := bl_o hF
            have hJ12 : ∀ (v18 : Int32) (h19 : Hp) (H : Heap) (locs : List Loc) (ls : Array Slot), Pic G B h19 s H locs → lv_has ls 5 [(0, .ref (B + a0)), (1, .int vp1), (2, .int vp2), (4, .int v18)] → k12 v18 h19 = some z1 → W p l e (rmM 2 46 0 0) s m args below meth c H locs 0 0 Q (F0 m 61 ls []) := by
              intro v18 h19 H locs ls P hl hF
              rw [← ek12] at hF
              try dsimp only at hF
              refine lv_iload (pc := 61) hx hb dX10_mostIn_61 (lv_at hl 3 rfl) ?_
              refine lv_istore_n (pc := 63) hx hb dX10_mostIn_63 rfl hl (by decide) rfl (fun ls hl => ?_)
              replace hl : lv_has ls 5 [(3, .int v18), (0, .ref (B + a0)), (1, .int vp1), (2, .int vp2), (4, .int v18)] := hl
              obtain ⟨v20, ev20, hF⟩ := bl_o hF
              refine lv_iinc (pc := 64) (k := 4) (v := v20) hx hb dX10_mostIn_64 hl rfl ev20 (by decide) rfl (fun ls hl => ?_)
              replace hl : lv_has ls 5 [(4, .int v20), (3, .int v18), (0, .ref (B + a0)), (1, .int vp1), (2, .int vp2)] := hl
              refine lv_goto (pc := 67) (tgt := 5) hx hb dX10_mostIn_67 (by decide) ?_
              exact ih _ _ _ _ _ _ P (lv_sub hl [2, 3, 4, 1, 0] rfl) (hI1 _ (Option.some.inj hF).symm)
            refine lv_icmp_eq (pc := 36) (tgt := 61) hx hb dX10_mostIn_36 (by decide) (fun hc => ?_) (fun hc => ?_)
            · rw [if_pos hc] at hF
              exact hJ12 _ _ _ _ _ P (lv_sub hl [0, 1, 2, 4] rfl) hF
            · rw [if_neg hc] at hF
              refine lv_aload_n (pc := 39) hx hb dX10_mostIn_39 rfl (lv_at hl 0 rfl) ?_
              refine lv_iload (pc := 40) hx hb dX10_mostIn_40 (lv_at hl 4 rfl) ?_
              refine lv_iconst (pc := 42) (v := 2) hx hb dX10_mostIn_42 (by decide) ?_
              refine lv_iload_n (pc := 43) hx hb dX10_mostIn_43 rfl (lv_at hl 2 rfl) ?_
              refine lv_iadd (pc := 44) hx hb dX10_mostIn_44 ?_
              refine lv_iconst (pc := 45) (v := 0) hx hb dX10_mostIn_45 (by decide) ?_
              refine r_cVi (pc := 46) (As := [.int v6, .int (2 + vp2), .int 0]) (rest := []) CX P hl.1 hF kv_X10_114 (fun r h1 q => c_X10_ofProcess l G B _ _ _ _ _ _ _ q) rfl rfl ⟨Nat.le_of_ble_eq_true rfl, Nat.le_of_ble_eq_true rfl⟩ (Nat.le_of_ble_eq_true rfl) ⟨Nat.le_of_ble_eq_true rfl, Nat.le_of_ble_eq_true rfl⟩ dX10_mostIn_46 (fun v13 h14 H locs P hF => ?_)
              replace hF := un_i hF
              refine lv_aload_n (pc := 49) hx hb dX10_mostIn_49 rfl (lv_at hl 0 rfl) ?_
              refine lv_iload_n (pc := 50) hx hb dX10_mostIn_50 rfl (lv_at hl 3 rfl) ?_
              refine lv_iconst (pc := 51) (v := 2) hx hb dX10_mostIn_51 (by decide) ?_
              refine lv_iload_n (pc := 52) hx hb dX10_mostIn_52 rfl (lv_at hl 2 rfl) ?_
              refine lv_iadd (pc := 53) hx hb dX10_mostIn_53 ?_
              refine lv_iconst (pc := 54) (v := 0) hx hb dX10_mostIn_54 (by decide) ?_
              refine r_cVi (pc := 55) (As := [.int v5, .int (2 + vp2), .int 0]) (rest := [.int v13]) CX P hl.1 hF kv_X10_114 (fun r h1 q => c_X10_ofProcess l G B _ _ _ _ _ _ _ q) rfl rfl ⟨Nat.le_of_ble_eq_true rfl, Nat.le_of_ble_eq_true rfl⟩ (Nat.le_of_ble_eq_true rfl) ⟨Nat.le_of_ble_eq_true rfl, Nat.le_of_ble_eq_true rfl⟩ dX10_mostIn_55 (fun v15 h16 H locs P hF => ?_)
              replace hF := un_i hF
              refine lv_icmp_le (pc := 58) (tgt := 64) hx hb dX10_mostIn_58 (by decide) (fun hc => ?_) (fun hc => ?_)
              · rw [if_pos hc] at hF
                obtain ⟨v17, ev17, hF⟩ := bl_o hF
                refine lv_iinc (pc := 64) (k := 4) (v := v17) hx hb dX10_mostIn_64 hl rfl ev17 (by decide) rfl (fun ls hl => ?_)
                replace hl : lv_has ls 5 [(4, .int v17), (0, .ref (B + a0)), (1, .int vp1), (2, .int vp2), (3, .int v5)] := hl
                refine lv_goto (pc := 67) (tgt := 5) hx hb dX10_mostIn_67 (by decide) ?_
                exact ih _ _ _ _ _ _ P (lv_sub hl [1, 2, 3, 4, 0] rfl) (hI1 _ (Option.some.inj hF).symm)
              · rw [if_neg hc] at hF
                exact hJ12 _ _ _ _ _ P (lv_sub hl [0, 1, 2, 4] rfl) hF
          · rw [if_neg hc] at hF
            refine lv_goto (pc := 31) (tgt := 64) hx hb dX10_mostIn_31 (by decide) ?_
            obtain ⟨v21, ev21, hF⟩ := bl_o hF
            refine lv_iinc (pc := 64) (k := 4) (v := v21) hx hb dX10_mostIn_64 hl rfl ev21 (by decide) rfl (fun ls hl => ?_)
            replace hl : lv_has ls 5 [(4, .int v21), (0, .ref (B + a0)), (1, .int vp1), (2, .int vp2), (3, .int v5)] := hl
            refine lv_goto (pc := 67) (tgt := 5) hx hb dX10_mostIn_67 (by decide) ?_
            exact ih _ _ _ _ _ _ P (lv_sub hl [1, 2, 3, 4, 0] rfl) (hI1 _ (Option.some.inj hF).symm)
  exact hL1 _ _ _ _ _ _ _ P (lv_sub hl [2, 3, 4, 1, 0] rfl) hLp1
def F_X10_takesOf_L3 (a2 : Nat) (v3 : Int32) (v4 : Int32) (v5 : Int32) (v6 : Int32) (v7 : Int32) (h8 : Hp) : Option ((Int32 × Hp) ⊕ ((Int32 × Hp) ⊕ (Int32 × Hp))) :=
if v6 ≤ v7 then (
some (.inr (.inr (v7, h8)))) else (
(cO h8 a2 10 (F_X10_nextOf h8 a2 v3 v4 v5)).bind (un fun v9 h10 =>
if v9 = (-1) then (
some (.inr (.inl (v7, h10)))) else (
(cO h10 a2 10 (F_X10_mostIn h10 a2 v9 v5)).bind (un fun v11 h12 =>
(F_X10_lesser h12 4 (v6 - v7)).bind fun v13 =>
(cO h12 a2 10 (F_X10_spareOf h12 a2 v9 v3 v5)).bind (un fun v14 h15 =>
(cO h15 a2 10 (F_X10_ofProcess h15 a2 v11 (2 + v5) 0)).bind (un fun v16 h17 =>
(F_X10_lesser h17 v14 v16).bind fun v18 =>
(F_X10_lesser h17 v13 v18).bind fun v19 =>
(cO h17 a2 10 (F_X10_ofProcess h17 a2 v11 (2 + v5) (-v19))).bind (un fun v20 h21 =>
(if v5 = 0 then (
some (v19 : Int32)) else (
some (0 : Int32))).bind fun v23 =>
(cO h21 a2 10 (F_X10_ofProcess h21 a2 v11 5 v23)).bind (un fun v24 h25 =>
bl (v7 + v19) fun v26 =>
some (.inl (v26, h25))))))))))
def F_X10_takesOf (h : Hp) (a0 : Nat) (vp1 : Int32) (vp2 : Int32) (vp3 : Int32) (vp4 : Int32) : Option (Int32 × Hp) :=
(loopF (fun x => F_X10_takesOf_L3 a0 vp1 vp2 vp3 vp4 x.1 x.2) 6000 (0, h)).bind (sE (fun x => some x) (fun q1 =>
bl q1.1 fun v27 =>
bl q1.2 fun h28 =>
some (v27, h28)))
set_option maxRecDepth 100000 in
set_option maxHeartbeats 4000000 in
theorem c_X10_takesOf (l : Launch) (G : GG) (B : Nat) (h : Hp) (a0 : Nat) (vp1 : Int32) (vp2 : Int32) (vp3 : Int32) (vp4 : Int32) (r0 : Int32) (hr : Hp) (hF : F_X10_takesOf h a0 vp1 vp2 vp3 vp4 = some (r0, hr)) : CI l yX10_takesOf cX10_takesOf 9 .int 6 139 0 0 G B h [.ref (B + a0), .int vp1, .int vp2, .int vp3, .int vp4] r0 hr := by
  refine ent_i rfl (Nat.le_of_ble_eq_true rfl) ?_
  intro p e s m args below meth c ls Q CX hnm hret P hl
  have CX : Cxt p m c cX10_takesOf 9 s args RX10 G B := CX
  obtain ⟨⟨hx, hb, hml, hown, hts⟩, -, -⟩ := id CX
  replace hl : lv_has ls 9 [(0, .ref (B + a0)), (1, .int vp1), (2, .int vp2), (3, .int vp3), (4, .int vp4)] := hl
  generalize s.heap = H at P ⊢
  generalize ([] : List Loc) = locs at P ⊢
  unfold F_X10_takesOf at hF
  refine lv_iconst (pc := 0) (v := 0) hx hb dX10_takesOf_0 (by decide) ?_
  refine lv_istore (pc := 1) hx hb dX10_takesOf_1 hl (by decide) rfl (fun ls hl => ?_)
  replace hl : lv_has ls 9 [(5, .int 0), (0, .ref (B + a0)), (1, .int vp1), (2, .int vp2), (3, .int vp3), (4, .int vp4)] := hl
  obtain ⟨r1, hLp1, hK1⟩ := bd_some hF
  have hX1 : ∀ (v27 : Int32) (h28 : Hp) (H : Heap) (locs : List Loc) (ls : Array Slot), Pic G B h28 s H locs → lv_has ls 9 [(5, .int v27)] → .inr (v27, h28) = r1 → W p l e (rmM 6 139 0 0) s m args below meth c H locs 0 0 Q (F0 m 113 ls []) := by
    intro v27 h28 H locs ls P hl er
    subst er
    have hF := sE_ri hK1
    replace hF := bl_i hF
    replace hF := bl_i hF
    try dsimp only at hF
    refine lv_iload (pc := 113) hx hb dX10_takesOf_113 (lv_at hl 0 rfl) ?_
    cases hF
    exact hret _ _ _ _ P rfl dX10_takesOf_115
  have hL1 : ∀ (n : Nat) (v7 : Int32) (h8 : Hp) (H : Heap) (locs : List Loc) (ls : Array Slot), Pic G B h8 s H locs → lv_has ls 9 [(0, .ref (B + a0)), (1, .int vp1), (2, .int vp2), (3, .int vp3), (4, .int vp4), (5, .int v7)] → loopF (fun x => F_X10_takesOf_L3 a0 vp1 vp2 vp3 vp4 x.1 x.2) n (v7, h8) = some r1 → W p l e (rmM 6 139 0 0) s m args below meth c H locs 0 0 Q (F0 m 3 ls []) := by
    intro n
    induction n with
    | zero => intro v7 h8 H locs ls P hl hq; cases hq
    | succ n ih =>
      intro v7 h8 H locs ls P hl hq
      obtain ⟨z1, hS1, hI1, hR1⟩ := loop_some hq
      have hF : F_X10_takesOf_L3 a0 vp1 vp2 vp3 vp4 v7 h8 = some z1 := hS1
      unfold F_X10_takesOf_L3 at hF
      refine lv_iload (pc := 3) hx hb dX10_takesOf_3 (lv_at hl 5 rfl) ?_
      refine lv_iload (pc := 5) hx hb dX10_takesOf_5 (lv_at hl 4 rfl) ?_
      refine lv_icmp_ge (pc := 7) (tgt := 113) hx hb dX10_takesOf_7 (by decide) (fun hc => ?_) (fun hc => ?_)
      · rw [if_pos hc] at hF
        exact hX1 _ _ _ _ _ P (lv_sub hl [5] rfl) (hR1 _ (Option.some.inj hF).symm)
      · rw [if_neg hc] at hF
        refine lv_aload_n (pc := 10) hx hb dX10_takesOf_10 rfl (lv_at hl 0 rfl) ?_
        refine lv_iload_n (pc := 11) hx hb dX10_takesOf_11 rfl (lv_at hl 1 rfl) ?_
        refine lv_iload_n (pc := 12) hx hb dX10_takesOf_12 rfl (lv_at hl 2 rfl) ?_
        refine lv_iload_n (pc := 13) hx hb dX10_takesOf_13 rfl (lv_at hl 3 rfl) ?_
        refine r_cVi (pc := 14) (As := [.int vp1, .int vp2, .int vp3]) (rest := []) CX P hl.1 hF kv_X10_159 (fun r h1 q => c_X10_nextOf l G B _ _ _ _ _ _ _ q) rfl rfl ⟨Nat.le_of_ble_eq_true rfl, Nat.le_of_ble_eq_true rfl⟩ (Nat.le_of_ble_eq_true rfl) ⟨Nat.le_of_ble_eq_true rfl, Nat.le_of_ble_eq_true rfl⟩ dX10_takesOf_14 (fun v9 h10 H locs P hF => ?_)
        replace hF := un_i hF
        refine lv_istore (pc := 17) hx hb dX10_takesOf_17 hl (by decide) rfl (fun ls hl => ?_)
        replace hl : lv_has ls 9 [(6, .int v9), (0, .ref (B + a0)), (1, .int vp1), (2, .int vp2), (3, .int vp3), (4, .int vp4), (5, .int v7)] := hl
        refine lv_iload (pc := 19) hx hb dX10_takesOf_19 (lv_at hl 0 rfl) ?_
        refine lv_iconst (pc := 21) (v := (-1)) hx hb dX10_takesOf_21 (by decide) ?_
        refine lv_icmp_ne (pc := 22) (tgt := 28) hx hb dX10_takesOf_22 (by decide) (fun hc => ?_) (fun hc => ?_)
        · rw [if_neg hc] at hF
          refine lv_aload_n (pc := 28) hx hb dX10_takesOf_28 rfl (lv_at hl 1 rfl) ?_
          refine lv_iload (pc := 29) hx hb dX10_takesOf_29 (lv_at hl 0 rfl) ?_
          refine lv_iload_n (pc := 31) hx hb dX10_takesOf_31 rfl (lv_at hl 4 rfl) ?_
          refine r_cVi (pc := 32) (As := [.int v9, .int vp3]) (rest := []) CX P hl.1 hF kv_X10_162 (fun r h1 q => c_X10_mostIn l G B _ _ _ _ _ _ q) rfl rfl ⟨Nat.le_of_ble_eq_true rfl, Nat.le_of_ble_eq_true rfl⟩ (Nat.le_of_ble_eq_true rfl) ⟨Nat.le_of_ble_eq_true rfl, Nat.le_of_ble_eq_true rfl⟩ dX10_takesOf_32 (fun v11 h12 H locs P hF => ?_)
          replace hF := un_i hF
          refine lv_istore (pc := 35) hx hb dX10_takesOf_35 hl (by decide) rfl (fun ls hl => ?_)
          replace hl : lv_has ls 9 [(7, .int v11), (6, .int v9), (0, .ref (B + a0)), (1, .int vp1), (2, .int vp2), (3, .int vp3), (4, .int vp4), (5, .int v7)] := hl
          refine lv_iconst (pc := 37) (v := 4) hx hb dX10_takesOf_37 (by decide) ?_
          refine lv_iload (pc := 38) hx hb dX10_takesOf_38 (lv_at hl 6 rfl) ?_
          refine lv_iload (pc := 40) hx hb dX10_takesOf_40 (lv_at hl 7 rfl) ?_
          refine lv_isub (pc := 42) hx hb dX10_takesOf_42 ?_
          refine r_cSp (pc := 43) (As := [.int 4, .int (vp4 - v7)]) (rest := []) CX P hl.1 hF ks_X10_137 (fun r q => c_X10_lesser l G B _ _ _ _ q) rfl rfl ⟨Nat.le_of_ble_eq_true rfl, Nat.le_of_ble_eq_true rfl⟩ (Nat.le_of_ble_eq_true rfl) ⟨Nat.le_of_ble_eq_true rfl, Nat.le_of_ble_eq_true rfl⟩ dX10_takesOf_43 (fun v13 H locs P hF => ?_)
          refine lv_aload_n (pc := 46) hx hb dX10_takesOf_46 rfl (lv_at hl 2 rfl) ?_
          refine lv_iload (pc := 47) hx hb dX10_takesOf_47 (lv_at hl 1 rfl) ?_
          refine lv_iload_n (pc := 49) hx hb dX10_takesOf_49 rfl (lv_at hl 3 rfl) ?_
          refine lv_iload_n (pc := 50) hx hb dX10_takesOf_50 rfl (lv_at hl 5 rfl) ?_
          refine r_cVi (pc := 51) (As := [.int v9, .int vp1, .int vp3]) (rest := [.int v13]) CX P hl.1 hF kv_X10_149 (fun r h1 q => c_X10_spareOf l G B _ _ _ _ _ _ _ q) rfl rfl ⟨Nat.le_of_ble_eq_true rfl, Nat.le_of_ble_eq_true rfl⟩ (Nat.le_of_ble_eq_true rfl) ⟨Nat.le_of_ble_eq_true rfl, Nat.le_of_ble_eq_true rfl⟩ dX10_takesOf_51 (fun v14 h15 H locs P hF => ?_)
          replace hF := un_i hF
          refine lv_aload_n (pc := 54) hx hb dX10_takesOf_54 rfl (lv_at hl 2 rfl) ?_
          refine lv_iload (pc := 55) hx hb dX10_takesOf_55 (lv_at hl 0 rfl) ?_
          refine lv_iconst (pc := 57) (v := 2) hx hb dX10_takesOf_57 (by decide) ?_
          refine lv_iload_n (pc := 58) hx hb dX10_takesOf_58 rfl (lv_at hl 5 rfl) ?_
          refine lv_iadd (pc := 59) hx hb dX10_takesOf_59 ?_
          refine lv_iconst (pc := 60) (v := 0) hx hb dX10_takesOf_60 (by decide) ?_
          refine r_cVi (pc := 61) (As := [.int v11, .int (2 + vp3), .int 0]) (rest := [.int v14, .int v13]) CX P hl.1 hF kv_X10_114 (fun r h1 q => c_X10_ofProcess l G B _ _ _ _ _ _ _ q) rfl rfl ⟨Nat.le_of_ble_eq_true rfl, Nat.le_of_ble_eq_true rfl⟩ (Nat.le_of_ble_eq_true rfl) ⟨Nat.le_of_ble_eq_true rfl, Nat.le_of_ble_eq_true rfl⟩ dX10_takesOf_61 (fun v16 h17 H locs P hF => ?_)
          replace hF := un_i hF
          refine r_cSp (pc := 64) (As := [.int v14, .int v16]) (rest := [.int v13]) CX P hl.1 hF ks_X10_137 (fun r q => c_X10_lesser l G B _ _ _ _ q) rfl rfl ⟨Nat.le_of_ble_eq_true rfl, Nat.le_of_ble_eq_true rfl⟩ (Nat.le_of_ble_eq_true rfl) ⟨Nat.le_of_ble_eq_true rfl, Nat.le_of_ble_eq_true rfl⟩ dX10_takesOf_64 (fun v18 H locs P hF => ?_)
          refine r_cSp (pc := 67) (As := [.int v13, .int v18]) (rest := []) CX P hl.1 hF ks_X10_137 (fun r q => c_X10_lesser l G B _ _ _ _ q) rfl rfl ⟨Nat.le_of_ble_eq_true rfl, Nat.le_of_ble_eq_true rfl⟩ (Nat.le_of_ble_eq_true rfl) ⟨Nat.le_of_ble_eq_true rfl, Nat.le_of_ble_eq_true rfl⟩ dX10_takesOf_67 (fun v19 H locs P hF => ?_)
          refine lv_istore (pc := 70) hx hb dX10_takesOf_70 hl (by decide) rfl (fun ls hl => ?_)
          replace hl : lv_has ls 9 [(8, .int v19), (7, .int v11), (6, .int v9), (0, .ref (B + a0)), (1, .int vp1), (2, .int vp2), (3, .int vp3), (4, .int vp4), (5, .int v7)] := hl
          refine lv_aload_n (pc := 72) hx hb dX10_takesOf_72 rfl (lv_at hl 3 rfl) ?_
          refine lv_iload (pc := 73) hx hb dX10_takesOf_73 (lv_at hl 1 rfl) ?_
          refine lv_iconst (pc := 75) (v := 2) hx hb dX10_takesOf_75 (by decide) ?_
          refine lv_iload_n (pc := 76) hx hb dX10_takesOf_76 rfl (lv_at hl 6 rfl) ?_
          refine lv_iadd (pc := 77) hx hb dX10_takesOf_77 ?_
          refine lv_iload (pc := 78) hx hb dX10_takesOf_78 (lv_at hl 0 rfl) ?_
          refine lv_ineg (pc := 80) hx hb dX10_takesOf_80 ?_
          refine r_cVi (pc := 81) (As := [.int v11, .int (2 + vp3), .int (-v19)]) (rest := []) CX P hl.1 hF kv_X10_114 (fun r h1 q => c_X10_ofProcess l G B _ _ _ _ _ _ _ q) rfl rfl ⟨Nat.le_of_ble_eq_true rfl, Nat.le_of_ble_eq_true rfl⟩ (Nat.le_of_ble_eq_true rfl) ⟨Nat.le_of_ble_eq_true rfl, Nat.le_of_ble_eq_true rfl⟩ dX10_takesOf_81 (fun v20 h21 H locs P hF => ?_)
          replace hF := un_i hF
          refine lv_pop (pc := 84) hx hb dX10_takesOf_84 rfl ?_
          refine lv_aload_n (pc := 85) hx hb dX10_takesOf_85 rfl (lv_at hl 3 rfl) ?_
          refine lv_iload (pc := 86) hx hb dX10_takesOf_86 (lv_at hl 1 rfl) ?_
          refine lv_iconst (pc := 88) (v := 5) hx hb dX10_takesOf_88 (by decide) ?_
          refine lv_iload_n (pc := 89) hx hb dX10_takesOf_89 rfl (lv_at hl 6 rfl) ?_
          obtain ⟨j22, hA22, hK22⟩ := bd_some hF
          have hJ22 : ∀ (v23 : Int32) (H : Heap) (locs : List Loc) (ls : Array Slot), Pic G B h21 s H locs → lv_has ls 9 [(0, .ref (B + a0)), (1, .int vp1), (2, .int vp2), (3, .int vp3), (4, .int vp4), (5, .int v7), (8, .int v19)] → v23 = j22 → W p l e (rmM 6 139 0 0) s m args below meth c H locs 0 0 Q (F0 m 99 ls [.int v23, .int 5, .int v11, .ref (B + a0)]) := by
            intro v23 H locs ls P hl ej
            subst ej
            have hF := hK22
            refine r_cVi (pc := 99) (As := [.int v11, .int 5, .int v23]) (rest := []) CX P hl.1 hF kv_X10_114 (fun r h1 q => c_X10_ofProcess l G B _ _ _ _ _ _ _ q) rfl rfl ⟨Nat.le_of_ble_eq_true rfl, Nat.le_of_ble_eq_true rfl⟩ (Nat.le_of_ble_eq_true rfl) ⟨Nat.le_of_ble_eq_true rfl, Nat.le_of_ble_eq_true rfl⟩ dX10_takesOf_99 (fun v24 h25 H locs P hF => ?_)
            replace hF := un_i hF
            refine lv_pop (pc := 102) hx hb dX10_takesOf_102 rfl ?_
            refine lv_iload (pc := 103) hx hb dX10_takesOf_103 (lv_at hl 5 rfl) ?_
            refine lv_iload (pc := 105) hx hb dX10_takesOf_105 (lv_at hl 6 rfl) ?_
            refine lv_iadd (pc := 107) hx hb dX10_takesOf_107 ?_
            refine lv_topi (fun v26 ev26 => ?_)
            replace hF := bl_e hF ev26
            refine lv_istore (pc := 108) hx hb dX10_takesOf_108 hl (by decide) rfl (fun ls hl => ?_)
            replace hl : lv_has ls 9 [(5, .int v26), (0, .ref (B + a0)), (1, .int vp1), (2, .int vp2), (3, .int vp3), (4, .int vp4), (8, .int v19)] := hl
            refine lv_goto (pc := 110) (tgt := 3) hx hb dX10_takesOf_110 (by decide) ?_
            exact ih _ _ _ _ _ P (lv_sub hl [1, 2, 3, 4, 5, 0] rfl) (hI1 _ (Option.some.inj hF).symm)
          replace hF := hA22
          refine lv_if_ne (pc := 90) (tgt := 98) hx hb dX10_takesOf_90 (by decide) (fun hc => ?_) (fun hc => ?_)
          · rw [if_neg hc] at hF
            refine lv_iconst (pc := 98) (v := 0) hx hb dX10_takesOf_98 (by decide) ?_
            exact hJ22 _ _ _ _ P (lv_sub hl [3, 4, 5, 6, 7, 8, 0] rfl) (Option.some.inj hF)
          · rw [if_pos hc] at hF
            refine lv_iload (pc := 93) hx hb dX10_takesOf_93 (lv_at hl 0 rfl) ?_
            refine lv_goto (pc := 95) (tgt := 99) hx hb dX10_takesOf_95 (by decide) ?_
            exact hJ22 _ _ _ _ P (lv_sub hl [3, 4, 5, 6, 7, 8, 0] rfl) (Option.some.inj hF)
        · rw [if_pos hc] at hF
          refine lv_iload (pc := 25) hx hb dX10_takesOf_25 (lv_at hl 6 rfl) ?_
          have hE := hR1 _ (Option.some.inj hF).symm
          subst hE
          replace hF := sE_li hK1
          cases hF
          exact hret _ _ _ _ P rfl dX10_takesOf_27
  exact hL1 _ _ _ _ _ _ P (lv_sub hl [1, 2, 3, 4, 5, 0] rfl) hLp1
def F_X10_takes_L9 (a4 : Nat) (v5 : Int32) (v6 : Int32) (v7 : Int32) (v8 : Int32) (h9 : Hp) : Option ((Int32 × Int32 × Hp) ⊕ (Int32 × Hp)) :=
if 2 ≤ v8 then (
some (.inr (v7, h9))) else (
if v6 ≤ v7 then (
some (.inr (v7, h9))) else (
(if v8 = 1 then (
(cO h9 a4 10 (F_X10_of h9 a4 v5 11 1)).bind (un fun v11 h12 =>
some h12)) else (
some h9)).bind fun h13 =>
(cO h13 a4 10 (F_X10_takesOf h13 a4 v5 v8 1 (v6 - v7))).bind (un fun v14 h15 =>
bl (v7 + v14) fun v16 =>
(cO h15 a4 10 (F_X10_takesOf h15 a4 v5 v8 0 (v6 - v16))).bind (un fun v17 h18 =>
bl (v16 + v17) fun v19 =>
bl (v8 + 1) fun v20 =>
some (.inl (v19, v20, h18))))))
def F_X10_takes (h : Hp) (a0 : Nat) (vp1 : Int32) (vp2 : Int32) : Option (Int32 × Hp) :=
(cO h a0 10 (F_X10_drains h a0 vp1)).bind (un fun v1 h2 =>
(loopF (fun x => F_X10_takes_L9 a0 vp1 vp2 x.1 x.2.1 x.2.2) 6000 (v1, 0, h2)).bind fun q3 =>
bl q3.1 fun v21 =>
bl q3.2 fun h22 =>
some (v21, h22))
set_option maxRecDepth 100000 in
set_option maxHeartbeats 4000000 in
theorem c_X10_takes (l : Launch) (G : GG) (B : Nat) (h : Hp) (a0 : Nat) (vp1 : Int32) (vp2 : Int32) (r0 : Int32) (hr : Hp) (hF : F_X10_takes h a0 vp1 vp2 = some (r0, hr)) : CI l yX10_takes cX10_takes 5 .int 7 167 0 0 G B h [.ref (B + a0), .int vp1, .int vp2] r0 hr := by
  refine ent_i rfl (Nat.le_of_ble_eq_true rfl) ?_
  intro p e s m args below meth c ls Q CX hnm hret P hl
  have CX : Cxt p m c cX10_takes 5 s args RX10 G B := CX
  obtain ⟨⟨hx, hb, hml, hown, hts⟩, -, -⟩ := id CX
  replace hl : lv_has ls 5 [(0, .ref (B + a0)), (1, .int vp1), (2, .int vp2)] := hl
  generalize s.heap = H at P ⊢
  generalize ([] : List Loc) = locs at P ⊢
  unfold F_X10_takes at hF
  refine lv_aload_n (pc := 0) hx hb dX10_takes_0 rfl (lv_at hl 0 rfl) ?_
  refine lv_iload_n (pc := 1) hx hb dX10_takes_1 rfl (lv_at hl 1 rfl) ?_
  refine r_cVi (pc := 2) (As := [.int vp1]) (rest := []) CX P hl.1 hF kv_X10_152 (fun r h1 q => c_X10_drains l G B _ _ _ _ _ q) rfl rfl ⟨Nat.le_of_ble_eq_true rfl, Nat.le_of_ble_eq_true rfl⟩ (Nat.le_of_ble_eq_true rfl) ⟨Nat.le_of_ble_eq_true rfl, Nat.le_of_ble_eq_true rfl⟩ dX10_takes_2 (fun v1 h2 H locs P hF => ?_)
  replace hF := un_i hF
  refine lv_istore_n (pc := 5) hx hb dX10_takes_5 rfl hl (by decide) rfl (fun ls hl => ?_)
  replace hl : lv_has ls 5 [(3, .int v1), (0, .ref (B + a0)), (1, .int vp1), (2, .int vp2)] := hl
  refine lv_iconst (pc := 6) (v := 0) hx hb dX10_takes_6 (by decide) ?_
  refine lv_istore (pc := 7) hx hb dX10_takes_7 hl (by decide) rfl (fun ls hl => ?_)
  replace hl : lv_has ls 5 [(4, .int 0), (3, .int v1), (0, .ref (B + a0)), (1, .int vp1), (2, .int vp2)] := hl
  obtain ⟨r3, hLp3, hK3⟩ := bd_some hF
  have hX3 : ∀ (v21 : Int32) (h22 : Hp) (H : Heap) (locs : List Loc) (ls : Array Slot), Pic G B h22 s H locs → lv_has ls 5 [(3, .int v21)] → (v21, h22) = r3 → W p l e (rmM 7 167 0 0) s m args below meth c H locs 0 0 Q (F0 m 69 ls []) := by
    intro v21 h22 H locs ls P hl er
    subst er
    have hF := hK3
    replace hF := bl_i hF
    replace hF := bl_i hF
    try dsimp only at hF
    refine lv_iload_n (pc := 69) hx hb dX10_takes_69 rfl (lv_at hl 0 rfl) ?_
    cases hF
    exact hret _ _ _ _ P rfl dX10_takes_70
  have hL3 : ∀ (n : Nat) (v7 : Int32) (v8 : Int32) (h9 : Hp) (H : Heap) (locs : List Loc) (ls : Array Slot), Pic G B h9 s H locs → lv_has ls 5 [(0, .ref (B + a0)), (1, .int vp1), (2, .int vp2), (3, .int v7), (4, .int v8)] → loopF (fun x => F_X10_takes_L9 a0 vp1 vp2 x.1 x.2.1 x.2.2) n (v7, v8, h9) = some r3 → W p l e (rmM 7 167 0 0) s m args below meth c H locs 0 0 Q (F0 m 9 ls []) := by
    intro n
    induction n with
    | zero => intro v7 v8 h9 H locs ls P hl hq; cases hq
    | succ n ih =>
      intro v7 v8 h9 H locs ls P hl hq
      obtain ⟨z3, hS3, hI3, hR3⟩ := loop_some hq
      have hF : F_X10_takes_L9 a0 vp1 vp2 v7 v8 h9 = some z3 := hS3
      unfold F_X10_takes_L9 at hF
      refine lv_iload (pc := 9) hx hb dX10_takes_9 (lv_at hl 4 rfl) ?_
      refine lv_iconst (pc := 11) (v := 2) hx hb dX10_takes_11 (by decide) ?_
      refine lv_icmp_ge (pc := 12) (tgt := 69) hx hb dX10_takes_12 (by decide) (fun hc => ?_) (fun hc => ?_)
      · rw [if_pos hc] at hF
        exact hX3 _ _ _ _ _ P (lv_sub hl [3] rfl) (hR3 _ (Option.some.inj hF).symm)
      · rw [if_neg hc] at hF
        refine lv_iload_n (pc := 15) hx hb dX10_takes_15 rfl (lv_at hl 3 rfl) ?_
        refine lv_iload_n (pc := 16) hx hb dX10_takes_16 rfl (lv_at hl 2 rfl) ?_
        refine lv_icmp_ge (pc := 17) (tgt := 69) hx hb dX10_takes_17 (by decide) (fun hc => ?_) (fun hc => ?_)
        · rw [if_pos hc] at hF
          exact hX3 _ _ _ _ _ P (lv_sub hl [3] rfl) (hR3 _ (Option.some.inj hF).symm)
        · rw [if_neg hc] at hF
          refine lv_iload (pc := 20) hx hb dX10_takes_20 (lv_at hl 4 rfl) ?_
          refine lv_iconst (pc := 22) (v := 1) hx hb dX10_takes_22 (by decide) ?_
          obtain ⟨j10, hA10, hK10⟩ := bd_some hF
          have hJ10 : ∀ (h13 : Hp) (H : Heap) (locs : List Loc) (ls : Array Slot), Pic G B h13 s H locs → lv_has ls 5 [(0, .ref (B + a0)), (1, .int vp1), (2, .int vp2), (3, .int v7), (4, .int v8)] → h13 = j10 → W p l e (rmM 7 167 0 0) s m args below meth c H locs 0 0 Q (F0 m 35 ls []) := by
            intro h13 H locs ls P hl ej
            subst ej
            have hF := hK10
            refine lv_iload_n (pc := 35) hx hb dX10_takes_35 rfl (lv_at hl 3 rfl) ?_
            refine lv_aload_n (pc := 36) hx hb dX10_takes_36 rfl (lv_at hl 0 rfl) ?_
            refine lv_iload_n (pc := 37) hx hb dX10_takes_37 rfl (lv_at hl 1 rfl) ?_
            refine lv_iload (pc := 38) hx hb dX10_takes_38 (lv_at hl 4 rfl) ?_
            refine lv_iconst (pc := 40) (v := 1) hx hb dX10_takes_40 (by decide) ?_
            refine lv_iload_n (pc := 41) hx hb dX10_takes_41 rfl (lv_at hl 2 rfl) ?_
            refine lv_iload_n (pc := 42) hx hb dX10_takes_42 rfl (lv_at hl 3 rfl) ?_
            refine lv_isub (pc := 43) hx hb dX10_takes_43 ?_
            refine r_cVi (pc := 44) (As := [.int vp1, .int v8, .int 1, .int (vp2 - v7)]) (rest := [.int v7]) CX P hl.1 hF kv_X10_155 (fun r h1 q => c_X10_takesOf l G B _ _ _ _ _ _ _ _ q) rfl rfl ⟨Nat.le_of_ble_eq_true rfl, Nat.le_of_ble_eq_true rfl⟩ (Nat.le_of_ble_eq_true rfl) ⟨Nat.le_of_ble_eq_true rfl, Nat.le_of_ble_eq_true rfl⟩ dX10_takes_44 (fun v14 h15 H locs P hF => ?_)
            replace hF := un_i hF
            refine lv_iadd (pc := 47) hx hb dX10_takes_47 ?_
            refine lv_topi (fun v16 ev16 => ?_)
            replace hF := bl_e hF ev16
            refine lv_istore_n (pc := 48) hx hb dX10_takes_48 rfl hl (by decide) rfl (fun ls hl => ?_)
            replace hl : lv_has ls 5 [(3, .int v16), (0, .ref (B + a0)), (1, .int vp1), (2, .int vp2), (4, .int v8)] := hl
            refine lv_iload_n (pc := 49) hx hb dX10_takes_49 rfl (lv_at hl 0 rfl) ?_
            refine lv_aload_n (pc := 50) hx hb dX10_takes_50 rfl (lv_at hl 1 rfl) ?_
            refine lv_iload_n (pc := 51) hx hb dX10_takes_51 rfl (lv_at hl 2 rfl) ?_
            refine lv_iload (pc := 52) hx hb dX10_takes_52 (lv_at hl 4 rfl) ?_
            refine lv_iconst (pc := 54) (v := 0) hx hb dX10_takes_54 (by decide) ?_
            refine lv_iload_n (pc := 55) hx hb dX10_takes_55 rfl (lv_at hl 3 rfl) ?_
            refine lv_iload_n (pc := 56) hx hb dX10_takes_56 rfl (lv_at hl 0 rfl) ?_
            refine lv_isub (pc := 57) hx hb dX10_takes_57 ?_
            refine r_cVi (pc := 58) (As := [.int vp1, .int v8, .int 0, .int (vp2 - v16)]) (rest := [.int v16]) CX P hl.1 hF kv_X10_155 (fun r h1 q => c_X10_takesOf l G B _ _ _ _ _ _ _ _ q) rfl rfl ⟨Nat.le_of_ble_eq_true rfl, Nat.le_of_ble_eq_true rfl⟩ (Nat.le_of_ble_eq_true rfl) ⟨Nat.le_of_ble_eq_true rfl, Nat.le_of_ble_eq_true rfl⟩ dX10_takes_58 (fun v17 h18 H locs P hF => ?_)
            replace hF := un_i hF
            refine lv_iadd (pc := 61) hx hb dX10_takes_61 ?_
            refine lv_topi (fun v19 ev19 => ?_)
            replace hF := bl_e hF ev19
            refine lv_istore_n (pc := 62) hx hb dX10_takes_62 rfl hl (by decide) rfl (fun ls hl => ?_)
            replace hl : lv_has ls 5 [(3, .int v19), (0, .ref (B + a0)), (1, .int vp1), (2, .int vp2), (4, .int v8)] := hl
            obtain ⟨v20, ev20, hF⟩ := bl_o hF
            refine lv_iinc (pc := 63) (k := 4) (v := v20) hx hb dX10_takes_63 hl rfl ev20 (by decide) rfl (fun ls hl => ?_)
            replace hl : lv_has ls 5 [(4, .int v20), (3, .int v19), (0, .ref (B + a0)), (1, .int vp1), (2, .int vp2)] := hl
            refine lv_goto (pc := 66) (tgt := 9) hx hb dX10_takes_66 (by decide) ?_
            exact ih _ _ _ _ _ _ P (lv_sub hl [2, 3, 4, 1, 0] rfl) (hI3 _ (Option.some.inj hF).symm)
          replace hF := hA10
          refine lv_icmp_ne (pc := 23) (tgt := 35) hx hb dX10_takes_23 (by decide) (fun hc => ?_) (fun hc => ?_)
          · rw [if_neg hc] at hF
            exact hJ10 _ _ _ _ P (lv_sub hl [0, 1, 2, 3, 4] rfl) (Option.some.inj hF)
          · rw [if_pos hc] at hF
            refine lv_aload_n (pc := 26) hx hb dX10_takes_26 rfl (lv_at hl 0 rfl) ?_
            refine lv_iload_n (pc := 27) hx hb dX10_takes_27 rfl (lv_at hl 1 rfl) ?_
            refine lv_bipush (pc := 28) (v := 11) hx hb dX10_takes_28 (by decide) ?_
            refine lv_iconst (pc := 30) (v := 1) hx hb dX10_takes_30 (by decide) ?_
            refine r_cVi (pc := 31) (As := [.int vp1, .int 11, .int 1]) (rest := []) CX P hl.1 hF kv_X10_99 (fun r h1 q => c_X10_of l G B _ _ _ _ _ _ _ q) rfl rfl ⟨Nat.le_of_ble_eq_true rfl, Nat.le_of_ble_eq_true rfl⟩ (Nat.le_of_ble_eq_true rfl) ⟨Nat.le_of_ble_eq_true rfl, Nat.le_of_ble_eq_true rfl⟩ dX10_takes_31 (fun v11 h12 H locs P hF => ?_)
            replace hF := un_i hF
            refine lv_pop (pc := 34) hx hb dX10_takes_34 rfl ?_
            exact hJ10 _ _ _ _ P (lv_sub hl [0, 1, 2, 3, 4] rfl) (Option.some.inj hF)
  exact hL3 _ _ _ _ _ _ _ P (lv_sub hl [2, 3, 4, 1, 0] rfl) hLp3
