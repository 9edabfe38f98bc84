def F_X3_makeRoom_L17 (a5 : Nat) (a6 : Nat) (v7 : Int32) (v8 : Int32) (v9 : Int32) (v10 : Int32) (v11 : Int32) (h12 : Hp) : Option ((Int32 × Int32 × Hp) ⊕ ((Int32 × Hp) ⊕ (Int32 × Hp))) :=
if 100 ≤ v11 then (
some (.inr (.inr (v10, h12)))) else (
(gR h12 a6 8 0).bind fun a13 =>
(cO h12 a13 6 (F_X6_firstAboveMax h12 a13 v9 v8)).bind fun v14 =>
if v14 = (-1) then (
some (.inr (.inl (v10, h12)))) else (
(cO h12 a5 3 (F_X3_fitsUnderMax h12 a5 a6 v14 v8)).bind (un fun v15 h16 =>
if v15 = 0 then (
(cO h16 a6 8 (F_X8_strike h16 a6 v14)).bind (un fun v17 h18 =>
if v17 = 0 then (
some (.inr (.inl ((-4), h18)))) else (
if ((v17 >>> (v7 &&& 31)) &&& 1) = 1 then (
some (.inr (.inl (3, h18)))) else (
bl (v11 + 1) fun v19 =>
some (.inl (2, v19, h18)))))) else (
bl (mxI v10 1) fun v20 =>
bl (v11 + 1) fun v21 =>
some (.inl (v20, v21, h16))))))
def F_X3_makeRoom (h : Hp) (a0 : Nat) (ap1 : Nat) (vp2 : Int32) (vp3 : Int32) : Option (Int32 × Hp) :=
(gR h ap1 8 1).bind fun a1 =>
(gR h a1 0 0).bind fun a2 =>
(aI h a2 vp2).bind fun v3 =>
(loopF (fun x => F_X3_makeRoom_L17 a0 ap1 vp2 vp3 v3 x.1 x.2.1 x.2.2) 6000 (0, 0, h)).bind (sE (fun x => some x) (fun q4 =>
bl q4.1 fun v22 =>
bl q4.2 fun h23 =>
some (v22, h23)))
set_option maxRecDepth 100000 in
set_option maxHeartbeats 4000000 in
theorem c_X3_makeRoom (l : Launch) (G : GG) (B : Nat) (h : Hp) (a0 : Nat) (ap1 : Nat) (vp2 : Int32) (vp3 : Int32) (r0 : Int32) (hr : Hp) (hF : F_X3_makeRoom h a0 ap1 vp2 vp3 = some (r0, hr)) : CI l yX3_makeRoom cX3_makeRoom 9 .int 5 151 0 0 G B h [.ref (B + a0), .ref (B + ap1), .int vp2, .int vp3] r0 hr := by
  refine ent_i rfl (Nat.le_of_ble_eq_true rfl) ?_
  intro p e s m args below meth c ls Q CX hnm hret P hl
  have CX : Cxt p m c cX3_makeRoom 9 s args RX3 G B := CX
  obtain ⟨⟨hx, hb, hml, hown, hts⟩, -, -⟩ := id CX
  replace hl : lv_has ls 9 [(0, .ref (B + a0)), (1, .ref (B + ap1)), (2, .int vp2), (3, .int vp3)] := hl
  generalize s.heap = H at P ⊢
  generalize ([] : List Loc) = locs at P ⊢
  unfold F_X3_makeRoom at hF
  refine lv_aload_n (pc := 0) hx hb dX3_makeRoom_0 rfl (lv_at hl 1 rfl) ?_
  refine r_gR (pc := 1) CX P hF fl_X3_15 dX3_makeRoom_1 (fun a1 hF => ?_)
  refine r_gR (pc := 4) CX P hF fl_X3_21 dX3_makeRoom_4 (fun a2 hF => ?_)
  refine lv_iload_n (pc := 7) hx hb dX3_makeRoom_7 rfl (lv_at hl 2 rfl) ?_
  refine r_aI (pc := 8) CX P hF dX3_makeRoom_8 (fun v3 hF => ?_)
  refine lv_istore (pc := 9) hx hb dX3_makeRoom_9 hl (by decide) rfl (fun ls hl => ?_)
  replace hl : lv_has ls 9 [(4, .int v3), (0, .ref (B + a0)), (1, .ref (B + ap1)), (2, .int vp2), (3, .int vp3)] := hl
  refine lv_iconst (pc := 11) (v := 0) hx hb dX3_makeRoom_11 (by decide) ?_
  refine lv_istore (pc := 12) hx hb dX3_makeRoom_12 hl (by decide) rfl (fun ls hl => ?_)
  replace hl : lv_has ls 9 [(5, .int 0), (4, .int v3), (0, .ref (B + a0)), (1, .ref (B + ap1)), (2, .int vp2), (3, .int vp3)] := hl
  refine lv_iconst (pc := 14) (v := 0) hx hb dX3_makeRoom_14 (by decide) ?_
  refine lv_istore (pc := 15) hx hb dX3_makeRoom_15 hl (by decide) rfl (fun ls hl => ?_)
  replace hl : lv_has ls 9 [(6, .int 0), (5, .int 0), (4, .int v3), (0, .ref (B + a0)), (1, .ref (B + ap1)), (2, .int vp2), (3, .int vp3)] := hl
  obtain ⟨r4, hLp4, hK4⟩ := bd_some hF
  have hX4 : ∀ (v22 : Int32) (h23 : Hp) (H : Heap) (locs : List Loc) (ls : Array Slot), Pic G B h23 s H locs → lv_has ls 9 [(5, .int v22)] → .inr (v22, h23) = r4 → W p l e (rmM 5 151 0 0) s m args below meth c H locs 0 0 Q (F0 m 104 ls []) := by
    intro v22 h23 H locs ls P hl er
    subst er
    have hF := sE_ri hK4
    replace hF := bl_i hF
    replace hF := bl_i hF
    try dsimp only at hF
    refine lv_iload (pc := 104) hx hb dX3_makeRoom_104 (lv_at hl 0 rfl) ?_
    cases hF
    exact hret _ _ _ _ P rfl dX3_makeRoom_106
  have hL4 : ∀ (n : Nat) (v10 : Int32) (v11 : Int32) (h12 : Hp) (H : Heap) (locs : List Loc) (ls : Array Slot), Pic G B h12 s H locs → lv_has ls 9 [(0, .ref (B + a0)), (1, .ref (B + ap1)), (2, .int vp2), (3, .int vp3), (4, .int v3), (5, .int v10), (6, .int v11)] → loopF (fun x => F_X3_makeRoom_L17 a0 ap1 vp2 vp3 v3 x.1 x.2.1 x.2.2) n (v10, v11, h12) = some r4 → W p l e (rmM 5 151 0 0) s m args below meth c H locs 0 0 Q (F0 m 17 ls []) := by
    intro n
    induction n with
    | zero => intro v10 v11 h12 H locs ls P hl hq; cases hq
    | succ n ih =>
      intro v10 v11 h12 H locs ls P hl hq
      obtain ⟨z4, hS4, hI4, hR4⟩ := loop_some hq
      have hF : F_X3_makeRoom_L17 a0 ap1 vp2 vp3 v3 v10 v11 h12 = some z4 := hS4
      unfold F_X3_makeRoom_L17 at hF
      refine lv_iload (pc := 17) hx hb dX3_makeRoom_17 (lv_at hl 6 rfl) ?_
      refine lv_bipush (pc := 19) (v := 100) hx hb dX3_makeRoom_19 (by decide) ?_
      refine lv_icmp_ge (pc := 21) (tgt := 104) hx hb dX3_makeRoom_21 (by decide) (fun hc => ?_) (fun hc => ?_)
      · rw [if_pos hc] at hF
        exact hX4 _ _ _ _ _ P (lv_sub hl [5] rfl) (hR4 _ (Option.some.inj hF).symm)
      · rw [if_neg hc] at hF
        refine lv_aload_n (pc := 24) hx hb dX3_makeRoom_24 rfl (lv_at hl 1 rfl) ?_
        refine r_gR (pc := 25) CX P hF fl_X3_27 dX3_makeRoom_25 (fun a13 hF => ?_)
        refine lv_iload (pc := 28) hx hb dX3_makeRoom_28 (lv_at hl 4 rfl) ?_
        refine lv_iload_n (pc := 30) hx hb dX3_makeRoom_30 rfl (lv_at hl 3 rfl) ?_
        refine r_cVp (pc := 31) (As := [.int v3, .int vp3]) (rest := []) CX P hl.1 hF kv_X3_54 (fun r q => c_X6_firstAboveMax l G B _ _ _ _ _ q) rfl rfl ⟨Nat.le_of_ble_eq_true rfl, Nat.le_of_ble_eq_true rfl⟩ (Nat.le_of_ble_eq_true rfl) ⟨Nat.le_of_ble_eq_true rfl, Nat.le_of_ble_eq_true rfl⟩ dX3_makeRoom_31 (fun v14 H locs P hF => ?_)
        refine lv_istore (pc := 34) hx hb dX3_makeRoom_34 hl (by decide) rfl (fun ls hl => ?_)
        replace hl : lv_has ls 9 [(7, .int v14), (0, .ref (B + a0)), (1, .ref (B + ap1)), (2, .int vp2), (3, .int vp3), (4, .int v3), (5, .int v10), (6, .int v11)] := hl
        refine lv_iload (pc := 36) hx hb dX3_makeRoom_36 (lv_at hl 0 rfl) ?_
        refine lv_iconst (pc := 38) (v := (-1)) hx hb dX3_makeRoom_38 (by decide) ?_
        refine lv_icmp_ne (pc := 39) (tgt := 45) hx hb dX3_makeRoom_39 (by decide) (fun hc => ?_) (fun hc => ?_)
        · rw [if_neg hc] at hF
          refine lv_aload_n (pc := 45) hx hb dX3_makeRoom_45 rfl (lv_at hl 1 rfl) ?_
          refine lv_aload_n (pc := 46) hx hb dX3_makeRoom_46 rfl (lv_at hl 2 rfl) ?_
          refine lv_iload (pc := 47) hx hb dX3_makeRoom_47 (lv_at hl 0 rfl) ?_
          refine lv_iload_n (pc := 49) hx hb dX3_makeRoom_49 rfl (lv_at hl 4 rfl) ?_
          refine r_cVi (pc := 50) (As := [.ref (B + ap1), .int v14, .int vp3]) (rest := []) CX P hl.1 hF kv_X3_65 (fun r h1 q => c_X3_fitsUnderMax l G B _ _ _ _ _ _ _ q) rfl rfl ⟨Nat.le_of_ble_eq_true rfl, Nat.le_of_ble_eq_true rfl⟩ (Nat.le_of_ble_eq_true rfl) ⟨Nat.le_of_ble_eq_true rfl, Nat.le_of_ble_eq_true rfl⟩ dX3_makeRoom_50 (fun v15 h16 H locs P hF => ?_)
          replace hF := un_i hF
          refine lv_if_eq (pc := 53) (tgt := 67) hx hb dX3_makeRoom_53 (by decide) (fun hc => ?_) (fun hc => ?_)
          · rw [if_pos hc] at hF
            refine lv_aload_n (pc := 67) hx hb dX3_makeRoom_67 rfl (lv_at hl 2 rfl) ?_
            refine lv_iload (pc := 68) hx hb dX3_makeRoom_68 (lv_at hl 0 rfl) ?_
            refine r_cVi (pc := 70) (As := [.int v14]) (rest := []) CX P hl.1 hF kv_X3_69 (fun r h1 q => c_X8_strike l G B _ _ _ _ _ q) rfl rfl ⟨Nat.le_of_ble_eq_true rfl, Nat.le_of_ble_eq_true rfl⟩ (Nat.le_of_ble_eq_true rfl) ⟨Nat.le_of_ble_eq_true rfl, Nat.le_of_ble_eq_true rfl⟩ dX3_makeRoom_70 (fun v17 h18 H locs P hF => ?_)
            replace hF := un_i hF
            refine lv_istore (pc := 73) hx hb dX3_makeRoom_73 hl (by decide) rfl (fun ls hl => ?_)
            replace hl : lv_has ls 9 [(8, .int v17), (7, .int v14), (0, .ref (B + a0)), (1, .ref (B + ap1)), (2, .int vp2), (3, .int vp3), (4, .int v3), (5, .int v10), (6, .int v11)] := hl
            refine lv_iload (pc := 75) hx hb dX3_makeRoom_75 (lv_at hl 0 rfl) ?_
            refine lv_if_ne (pc := 77) (tgt := 83) hx hb dX3_makeRoom_77 (by decide) (fun hc => ?_) (fun hc => ?_)
            · rw [if_neg hc] at hF
              refine lv_iload (pc := 83) hx hb dX3_makeRoom_83 (lv_at hl 0 rfl) ?_
              refine lv_iload_n (pc := 85) hx hb dX3_makeRoom_85 rfl (lv_at hl 4 rfl) ?_
              refine lv_ishr (pc := 86) hx hb dX3_makeRoom_86 ?_
              refine lv_iconst (pc := 87) (v := 1) hx hb dX3_makeRoom_87 (by decide) ?_
              refine lv_iand (pc := 88) hx hb dX3_makeRoom_88 ?_
              refine lv_iconst (pc := 89) (v := 1) hx hb dX3_makeRoom_89 (by decide) ?_
              refine lv_icmp_ne (pc := 90) (tgt := 95) hx hb dX3_makeRoom_90 (by decide) (fun hc => ?_) (fun hc => ?_)
              · rw [if_neg hc] at hF
                refine lv_iconst (pc := 95) (v := 2) hx hb dX3_makeRoom_95 (by decide) ?_
                refine lv_istore (pc := 96) hx hb dX3_makeRoom_96 hl (by decide) rfl (fun ls hl => ?_)
                replace hl : lv_has ls 9 [(5, .int 2), (8, .int v17), (7, .int v14), (0, .ref (B + a0)), (1, .ref (B + ap1)), (2, .int vp2), (3, .int vp3), (4, .int v3), (6, .int v11)] := hl
                obtain ⟨v19, ev19, hF⟩ := bl_o hF
                refine lv_iinc (pc := 98) (k := 8) (v := v19) hx hb dX3_makeRoom_98 hl rfl ev19 (by decide) rfl (fun ls hl => ?_)
                replace hl : lv_has ls 9 [(6, .int v19), (5, .int 2), (8, .int v17), (7, .int v14), (0, .ref (B + a0)), (1, .ref (B + ap1)), (2, .int vp2), (3, .int vp3), (4, .int v3)] := hl
                refine lv_goto (pc := 101) (tgt := 17) hx hb dX3_makeRoom_101 (by decide) ?_
                exact ih _ _ _ _ _ _ P (lv_sub hl [4, 5, 6, 7, 8, 1, 0] rfl) (hI4 _ (Option.some.inj hF).symm)
              · rw [if_pos hc] at hF
                refine lv_iconst (pc := 93) (v := 3) hx hb dX3_makeRoom_93 (by decide) ?_
                have hE := hR4 _ (Option.some.inj hF).symm
                subst hE
                replace hF := sE_li hK4
                cases hF
                exact hret _ _ _ _ P rfl dX3_makeRoom_94
            · rw [if_pos hc] at hF
              refine lv_bipush (pc := 80) (v := (-4)) hx hb dX3_makeRoom_80 (by decide) ?_
              have hE := hR4 _ (Option.some.inj hF).symm
              subst hE
              replace hF := sE_li hK4
              cases hF
              exact hret _ _ _ _ P rfl dX3_makeRoom_82
          · rw [if_neg hc] at hF
            refine lv_iload (pc := 56) hx hb dX3_makeRoom_56 (lv_at hl 6 rfl) ?_
            refine lv_iconst (pc := 58) (v := 1) hx hb dX3_makeRoom_58 (by decide) ?_
            refine r_mx (pc := 59) CX hl.1 tw_585 tw_475 tw_14 tw_476 (Nat.le_of_ble_eq_true rfl) (Nat.le_of_ble_eq_true rfl) (Nat.le_of_ble_eq_true rfl) (Nat.le_of_ble_eq_true rfl) dX3_makeRoom_59 ?_
            refine lv_topi (fun v20 ev20 => ?_)
            replace hF := bl_e hF ev20
            refine lv_istore (pc := 62) hx hb dX3_makeRoom_62 hl (by decide) rfl (fun ls hl => ?_)
            replace hl : lv_has ls 9 [(5, .int v20), (7, .int v14), (0, .ref (B + a0)), (1, .ref (B + ap1)), (2, .int vp2), (3, .int vp3), (4, .int v3), (6, .int v11)] := hl
            refine lv_goto (pc := 64) (tgt := 98) hx hb dX3_makeRoom_64 (by decide) ?_
            obtain ⟨v21, ev21, hF⟩ := bl_o hF
            refine lv_iinc (pc := 98) (k := 7) (v := v21) hx hb dX3_makeRoom_98 hl rfl ev21 (by decide) rfl (fun ls hl => ?_)
            replace hl : lv_has ls 9 [(6, .int v21), (5, .int v20), (7, .int v14), (0, .ref (B + a0)), (1, .ref (B + ap1)), (2, .int vp2), (3, .int vp3), (4, .int v3)] := hl
            refine lv_goto (pc := 101) (tgt := 17) hx hb dX3_makeRoom_101 (by decide) ?_
            exact ih _ _ _ _ _ _ P (lv_sub hl [3, 4, 5, 6, 7, 1, 0] rfl) (hI4 _ (Option.some.inj hF).symm)
        · rw [if_pos hc] at hF
          refine lv_iload (pc := 42) hx hb dX3_makeRoom_42 (lv_at hl 6 rfl) ?_
          have hE := hR4 _ (Option.some.inj hF).symm
          subst hE
          replace hF := sE_li hK4
          cases hF
          exact hret _ _ _ _ P rfl dX3_makeRoom_44
  exact hL4 _ _ _ _ _ _ _ P (lv_sub hl [3, 4, 5, 6, 2, 1, 0] rfl) hLp4
def F_X3_admit (h : Hp) (a0 : Nat) (ap1 : Nat) (vp2 : Int32) (vp3 : Int32) (vp4 : Int32) : Option (Int32 × Hp) :=
(gR h ap1 8 1).bind fun a1 =>
(gR h a1 0 0).bind fun a2 =>
(aI h a2 vp2).bind fun v3 =>
(gR h ap1 8 0).bind fun a4 =>
(gR h a4 6 4).bind fun a5 =>
(aI h a5 v3).bind fun v6 =>
if v6 < vp4 then (
(gI h ap1 8 4).bind fun v7 =>
bl (mxI vp4 v7) fun v8 =>
(gR h ap1 8 0).bind fun a9 =>
(cO h a9 6 (F_X6_firstAboveMax h a9 v3 v8)).bind fun v10 =>
if v10 = (-1) then (
(cO h ap1 8 (F_X8_addPages h ap1 vp2 vp3 vp4)).bind fun h15 =>
(gR h15 ap1 8 0).bind fun a16 =>
(cO h15 a16 6 (F_X6_addStock h15 a16 v3 (v8 - vp4))).bind fun h17 =>
some (0, h17)) else (
(cO h a0 3 (F_X3_makeRoom h a0 ap1 vp2 vp4)).bind (un fun v11 h12 =>
(F_X9_outlives h12 v11).bind fun v13 =>
if v13 = 0 then (
some (v11, h12)) else (
(cO h12 ap1 8 (F_X8_addPages h12 ap1 vp2 vp3 vp4)).bind fun h14 =>
some (v11, h14))))) else (
(gR h ap1 8 0).bind fun a18 =>
(cO h a18 6 (F_X6_addStock h a18 v3 (-vp4))).bind fun h19 =>
(cO h19 ap1 8 (F_X8_addPages h19 ap1 vp2 vp3 vp4)).bind fun h20 =>
some (0, h20))
set_option maxRecDepth 100000 in
set_option maxHeartbeats 4000000 in
theorem c_X3_admit (l : Launch) (G : GG) (B : Nat) (h : Hp) (a0 : Nat) (ap1 : Nat) (vp2 : Int32) (vp3 : Int32) (vp4 : Int32) (r0 : Int32) (hr : Hp) (hF : F_X3_admit h a0 ap1 vp2 vp3 vp4 = some (r0, hr)) : CI l yX3_admit cX3_admit 8 .int 6 179 0 0 G B h [.ref (B + a0), .ref (B + ap1), .int vp2, .int vp3, .int vp4] r0 hr := by
  refine ent_i rfl (Nat.le_of_ble_eq_true rfl) ?_
  intro p e s m args below meth c ls Q CX hnm hret P hl
  have CX : Cxt p m c cX3_admit 8 s args RX3 G B := CX
  obtain ⟨⟨hx, hb, hml, hown, hts⟩, -, -⟩ := id CX
  replace hl : lv_has ls 8 [(0, .ref (B + a0)), (1, .ref (B + ap1)), (2, .int vp2), (3, .int vp3), (4, .int vp4)] := hl
  generalize s.heap = H at P ⊢
  generalize ([] : List Loc) = locs at P ⊢
  unfold F_X3_admit at hF
  refine lv_aload_n (pc := 0) hx hb dX3_admit_0 rfl (lv_at hl 1 rfl) ?_
  refine r_gR (pc := 1) CX P hF fl_X3_15 dX3_admit_1 (fun a1 hF => ?_)
  refine r_gR (pc := 4) CX P hF fl_X3_21 dX3_admit_4 (fun a2 hF => ?_)
  refine lv_iload_n (pc := 7) hx hb dX3_admit_7 rfl (lv_at hl 2 rfl) ?_
  refine r_aI (pc := 8) CX P hF dX3_admit_8 (fun v3 hF => ?_)
  refine lv_istore (pc := 9) hx hb dX3_admit_9 hl (by decide) rfl (fun ls hl => ?_)
  replace hl : lv_has ls 8 [(5, .int v3), (0, .ref (B + a0)), (1, .ref (B + ap1)), (2, .int vp2), (3, .int vp3), (4, .int vp4)] := hl
  refine lv_aload_n (pc := 11) hx hb dX3_admit_11 rfl (lv_at hl 2 rfl) ?_
  refine r_gR (pc := 12) CX P hF fl_X3_27 dX3_admit_12 (fun a4 hF => ?_)
  refine r_gR (pc := 15) CX P hF fl_X3_31 dX3_admit_15 (fun a5 hF => ?_)
  refine lv_iload (pc := 18) hx hb dX3_admit_18 (lv_at hl 0 rfl) ?_
  refine r_aI (pc := 20) CX P hF dX3_admit_20 (fun v6 hF => ?_)
  refine lv_iload (pc := 21) hx hb dX3_admit_21 (lv_at hl 5 rfl) ?_
  refine lv_icmp_lt (pc := 23) (tgt := 48) hx hb dX3_admit_23 (by decide) (fun hc => ?_) (fun hc => ?_)
  · rw [if_pos hc] at hF
    refine lv_iload (pc := 48) hx hb dX3_admit_48 (lv_at hl 5 rfl) ?_
    refine lv_aload_n (pc := 50) hx hb dX3_admit_50 rfl (lv_at hl 2 rfl) ?_
    refine r_gI (pc := 51) CX P hF fl_X3_44 dX3_admit_51 (fun v7 hF => ?_)
    refine r_mx (pc := 54) CX hl.1 tw_585 tw_475 tw_14 tw_476 (Nat.le_of_ble_eq_true rfl) (Nat.le_of_ble_eq_true rfl) (Nat.le_of_ble_eq_true rfl) (Nat.le_of_ble_eq_true rfl) dX3_admit_54 ?_
    refine lv_topi (fun v8 ev8 => ?_)
    replace hF := bl_e hF ev8
    refine lv_istore (pc := 57) hx hb dX3_admit_57 hl (by decide) rfl (fun ls hl => ?_)
    replace hl : lv_has ls 8 [(6, .int v8), (5, .int v3), (0, .ref (B + a0)), (1, .ref (B + ap1)), (2, .int vp2), (3, .int vp3), (4, .int vp4)] := hl
    refine lv_aload_n (pc := 59) hx hb dX3_admit_59 rfl (lv_at hl 3 rfl) ?_
    refine r_gR (pc := 60) CX P hF fl_X3_27 dX3_admit_60 (fun a9 hF => ?_)
    refine lv_iload (pc := 63) hx hb dX3_admit_63 (lv_at hl 1 rfl) ?_
    refine lv_iload (pc := 65) hx hb dX3_admit_65 (lv_at hl 0 rfl) ?_
    refine r_cVp (pc := 67) (As := [.int v3, .int v8]) (rest := []) CX P hl.1 hF kv_X3_54 (fun r q => c_X6_firstAboveMax l G B _ _ _ _ _ q) rfl rfl ⟨Nat.le_of_ble_eq_true rfl, Nat.le_of_ble_eq_true rfl⟩ (Nat.le_of_ble_eq_true rfl) ⟨Nat.le_of_ble_eq_true rfl, Nat.le_of_ble_eq_true rfl⟩ dX3_admit_67 (fun v10 H locs P hF => ?_)
    refine lv_iconst (pc := 70) (v := (-1)) hx hb dX3_admit_70 (by decide) ?_
    refine lv_icmp_ne (pc := 71) (tgt := 98) hx hb dX3_admit_71 (by decide) (fun hc => ?_) (fun hc => ?_)
    · rw [if_neg hc] at hF
      refine lv_aload_n (pc := 98) hx hb dX3_admit_98 rfl (lv_at hl 2 rfl) ?_
      refine lv_aload_n (pc := 99) hx hb dX3_admit_99 rfl (lv_at hl 3 rfl) ?_
      refine lv_iload_n (pc := 100) hx hb dX3_admit_100 rfl (lv_at hl 4 rfl) ?_
      refine lv_iload (pc := 101) hx hb dX3_admit_101 (lv_at hl 6 rfl) ?_
      refine r_cVi (pc := 103) (As := [.ref (B + ap1), .int vp2, .int vp4]) (rest := []) CX P hl.1 hF kv_X3_57 (fun r h1 q => c_X3_makeRoom l G B _ _ _ _ _ _ _ q) rfl rfl ⟨Nat.le_of_ble_eq_true rfl, Nat.le_of_ble_eq_true rfl⟩ (Nat.le_of_ble_eq_true rfl) ⟨Nat.le_of_ble_eq_true rfl, Nat.le_of_ble_eq_true rfl⟩ dX3_admit_103 (fun v11 h12 H locs P hF => ?_)
      replace hF := un_i hF
      refine lv_istore (pc := 106) hx hb dX3_admit_106 hl (by decide) rfl (fun ls hl => ?_)
      replace hl : lv_has ls 8 [(7, .int v11), (6, .int v8), (5, .int v3), (0, .ref (B + a0)), (1, .ref (B + ap1)), (2, .int vp2), (3, .int vp3), (4, .int vp4)] := hl
      refine lv_iload (pc := 108) hx hb dX3_admit_108 (lv_at hl 0 rfl) ?_
      refine r_cNp (pc := 110) (As := [.int v11]) (rest := []) CX P hl.1 hF kn_X3_61 (fun r q => c_X9_outlives l G B _ _ _ q) rfl rfl ⟨Nat.le_of_ble_eq_true rfl, Nat.le_of_ble_eq_true rfl⟩ (Nat.le_of_ble_eq_true rfl) ⟨Nat.le_of_ble_eq_true rfl, Nat.le_of_ble_eq_true rfl⟩ dX3_admit_110 (fun v13 H locs P hF => ?_)
      refine lv_if_eq (pc := 113) (tgt := 124) hx hb dX3_admit_113 (by decide) (fun hc => ?_) (fun hc => ?_)
      · rw [if_pos hc] at hF
        refine lv_iload (pc := 124) hx hb dX3_admit_124 (lv_at hl 0 rfl) ?_
        cases hF
        exact hret _ _ _ _ P rfl dX3_admit_126
      · rw [if_neg hc] at hF
        refine lv_aload_n (pc := 116) hx hb dX3_admit_116 rfl (lv_at hl 4 rfl) ?_
        refine lv_iload_n (pc := 117) hx hb dX3_admit_117 rfl (lv_at hl 5 rfl) ?_
        refine lv_iload_n (pc := 118) hx hb dX3_admit_118 rfl (lv_at hl 6 rfl) ?_
        refine lv_iload (pc := 119) hx hb dX3_admit_119 (lv_at hl 7 rfl) ?_
        refine r_cVv (pc := 121) (As := [.int vp2, .int vp3, .int vp4]) (rest := []) CX P hl.1 hF kv_X3_40 (fun h1 q => c_X8_addPages l G B _ _ _ _ _ _ q) rfl rfl ⟨Nat.le_of_ble_eq_true rfl, Nat.le_of_ble_eq_true rfl⟩ (Nat.le_of_ble_eq_true rfl) ⟨Nat.le_of_ble_eq_true rfl, Nat.le_of_ble_eq_true rfl⟩ dX3_admit_121 (fun h14 H locs P hF => ?_)
        refine lv_iload (pc := 124) hx hb dX3_admit_124 (lv_at hl 0 rfl) ?_
        cases hF
        exact hret _ _ _ _ P rfl dX3_admit_126
    · rw [if_pos hc] at hF
      refine lv_aload_n (pc := 74) hx hb dX3_admit_74 rfl (lv_at hl 3 rfl) ?_
      refine lv_iload_n (pc := 75) hx hb dX3_admit_75 rfl (lv_at hl 4 rfl) ?_
      refine lv_iload_n (pc := 76) hx hb dX3_admit_76 rfl (lv_at hl 5 rfl) ?_
      refine lv_iload (pc := 77) hx hb dX3_admit_77 (lv_at hl 6 rfl) ?_
      refine r_cVv (pc := 79) (As := [.int vp2, .int vp3, .int vp4]) (rest := []) CX P hl.1 hF kv_X3_40 (fun h1 q => c_X8_addPages l G B _ _ _ _ _ _ q) rfl rfl ⟨Nat.le_of_ble_eq_true rfl, Nat.le_of_ble_eq_true rfl⟩ (Nat.le_of_ble_eq_true rfl) ⟨Nat.le_of_ble_eq_true rfl, Nat.le_of_ble_eq_true rfl⟩ dX3_admit_79 (fun h15 H locs P hF => ?_)
      refine lv_aload_n (pc := 82) hx hb dX3_admit_82 rfl (lv_at hl 3 rfl) ?_
      refine r_gR (pc := 83) CX P hF fl_X3_27 dX3_admit_83 (fun a16 hF => ?_)
      refine lv_iload (pc := 86) hx hb dX3_admit_86 (lv_at hl 1 rfl) ?_
      refine lv_iload (pc := 88) hx hb dX3_admit_88 (lv_at hl 0 rfl) ?_
      refine lv_iload (pc := 90) hx hb dX3_admit_90 (lv_at hl 6 rfl) ?_
      refine lv_isub (pc := 92) hx hb dX3_admit_92 ?_
      refine r_cVv (pc := 93) (As := [.int v3, .int (v8 - vp4)]) (rest := []) CX P hl.1 hF kv_X3_36 (fun h1 q => c_X6_addStock l G B _ _ _ _ _ q) rfl rfl ⟨Nat.le_of_ble_eq_true rfl, Nat.le_of_ble_eq_true rfl⟩ (Nat.le_of_ble_eq_true rfl) ⟨Nat.le_of_ble_eq_true rfl, Nat.le_of_ble_eq_true rfl⟩ dX3_admit_93 (fun h17 H locs P hF => ?_)
      refine lv_iconst (pc := 96) (v := 0) hx hb dX3_admit_96 (by decide) ?_
      cases hF
      exact hret _ _ _ _ P rfl dX3_admit_97
  · rw [if_neg hc] at hF
    refine lv_aload_n (pc := 26) hx hb dX3_admit_26 rfl (lv_at hl 2 rfl) ?_
    refine r_gR (pc := 27) CX P hF fl_X3_27 dX3_admit_27 (fun a18 hF => ?_)
    refine lv_iload (pc := 30) hx hb dX3_admit_30 (lv_at hl 0 rfl) ?_
    refine lv_iload (pc := 32) hx hb dX3_admit_32 (lv_at hl 5 rfl) ?_
    refine lv_ineg (pc := 34) hx hb dX3_admit_34 ?_
    refine r_cVv (pc := 35) (As := [.int v3, .int (-vp4)]) (rest := []) CX P hl.1 hF kv_X3_36 (fun h1 q => c_X6_addStock l G B _ _ _ _ _ q) rfl rfl ⟨Nat.le_of_ble_eq_true rfl, Nat.le_of_ble_eq_true rfl⟩ (Nat.le_of_ble_eq_true rfl) ⟨Nat.le_of_ble_eq_true rfl, Nat.le_of_ble_eq_true rfl⟩ dX3_admit_35 (fun h19 H locs P hF => ?_)
    refine lv_aload_n (pc := 38) hx hb dX3_admit_38 rfl (lv_at hl 2 rfl) ?_
    refine lv_iload_n (pc := 39) hx hb dX3_admit_39 rfl (lv_at hl 3 rfl) ?_
    refine lv_iload_n (pc := 40) hx hb dX3_admit_40 rfl (lv_at hl 4 rfl) ?_
    refine lv_iload (pc := 41) hx hb dX3_admit_41 (lv_at hl 5 rfl) ?_
    refine r_cVv (pc := 43) (As := [.int vp2, .int vp3, .int vp4]) (rest := []) CX P hl.1 hF kv_X3_40 (fun h1 q => c_X8_addPages l G B _ _ _ _ _ _ q) rfl rfl ⟨Nat.le_of_ble_eq_true rfl, Nat.le_of_ble_eq_true rfl⟩ (Nat.le_of_ble_eq_true rfl) ⟨Nat.le_of_ble_eq_true rfl, Nat.le_of_ble_eq_true rfl⟩ dX3_admit_43 (fun h20 H locs P hF => ?_)
    refine lv_iconst (pc := 46) (v := 0) hx hb dX3_admit_46 (by decide) ?_
    cases hF
    exact hret _ _ _ _ P rfl dX3_admit_47
def F_X3_pressToHigh_L31 (a9 : Nat) (a10 : Nat) (v11 : Int32) (v12 : Int32) (a13 : Nat) (v14 : Int32) (v15 : Int32) (h16 : Hp) : Option ((Int32 × Int32 × Hp) ⊕ (Hp)) :=
if v14 = (-1) then (
some (.inr h16)) else (
if 12 ≤ v15 then (
some (.inr h16)) else (
(gR h16 a13 6 3).bind fun a17 =>
(aR h16 a17 15 2).bind fun a18 =>
(aI h16 a18 v14).bind fun v19 =>
(gR h16 a13 6 5).bind fun a20 =>
(aI h16 a20 v14).bind fun v21 =>
(if v21 ≤ v19 then (
some h16) else (
(gR h16 a13 6 8).bind fun a23 =>
(aR h16 a23 15 1).bind fun a24 =>
(aI h16 a24 v14).bind fun v25 =>
(sI h16 a24 v14 (v25 + 1)).bind fun h26 =>
(gR h26 a9 3 0).bind fun a27 =>
(gR h26 a13 6 5).bind fun a28 =>
(aI h26 a28 v14).bind fun v29 =>
(cO h26 a27 5 (F_X5_takePages h26 a27 a10 v14 (v29 - v19))).bind (un fun v30 h31 =>
(gR h31 a10 8 1).bind fun a32 =>
(gR h31 a13 6 5).bind fun a33 =>
(aI h31 a33 v14).bind fun v34 =>
(F_X9_stallFor h31 (mxI 0 (v34 - v19))).bind fun v35 =>
(cO h31 a32 0 (F_X0_addStall h31 a32 v11 v35)).bind fun h36 =>
some h36))).bind fun h37 =>
(gR h37 a13 6 0).bind fun a38 =>
(aI h37 a38 v14).bind fun v39 =>
bl (v15 + 1) fun v40 =>
some (.inl (v39, v40, h37))))
def F_X3_pressToHigh (h : Hp) (a0 : Nat) (ap1 : Nat) (vp2 : Int32) (vp3 : Int32) : Option (Int32 × Hp) :=
(gR h ap1 8 0).bind fun a1 =>
(F_X9_outlives h vp3).bind fun v2 =>
(if v2 = 0 then (
some ((-1) : Int32)) else (
(gR h ap1 8 1).bind fun a4 =>
(gR h a4 0 0).bind fun a5 =>
(aI h a5 vp2).bind fun v6 =>
some (v6 : Int32))).bind fun v7 =>
(loopF (fun x => F_X3_pressToHigh_L31 a0 ap1 vp2 vp3 a1 x.1 x.2.1 x.2.2) 6000 (v7, 0, h)).bind fun h41 =>
some (vp3, h41)
set_option maxRecDepth 100000 in
set_option maxHeartbeats 4000000 in
theorem c_X3_pressToHigh (l : Launch) (G : GG) (B : Nat) (h : Hp) (a0 : Nat) (ap1 : Nat) (vp2 : Int32) (vp3 : Int32) (r0 : Int32) (hr : Hp) (hF : F_X3_pressToHigh h a0 ap1 vp2 vp3 = some (r0, hr)) : CI l yX3_pressToHigh cX3_pressToHigh 8 .int 4 127 0 0 G B h [.ref (B + a0), .ref (B + ap1), .int vp2, .int vp3] r0 hr := by
  refine ent_i rfl (Nat.le_of_ble_eq_true rfl) ?_
  intro p e s m args below meth c ls Q CX hnm hret P hl
  have CX : Cxt p m c cX3_pressToHigh 8 s args RX3 G B := CX
  obtain ⟨⟨hx, hb, hml, hown, hts⟩, -, -⟩ := id CX
  replace hl : lv_has ls 8 [(0, .ref (B + a0)), (1, .ref (B + ap1)), (2, .int vp2), (3, .int vp3)] := hl
  generalize s.heap = H at P ⊢
  generalize ([] : List Loc) = locs at P ⊢
  unfold F_X3_pressToHigh at hF
  refine lv_aload_n (pc := 0) hx hb dX3_pressToHigh_0 rfl (lv_at hl 1 rfl) ?_
  refine r_gR (pc := 1) CX P hF fl_X3_27 dX3_pressToHigh_1 (fun a1 hF => ?_)
  refine lv_astore (pc := 4) hx hb dX3_pressToHigh_4 hl (by decide) rfl (fun ls hl => ?_)
  replace hl : lv_has ls 8 [(4, .ref (B + a1)), (0, .ref (B + a0)), (1, .ref (B + ap1)), (2, .int vp2), (3, .int vp3)] := hl
  refine lv_iload_n (pc := 6) hx hb dX3_pressToHigh_6 rfl (lv_at hl 4 rfl) ?_
  refine r_cNp (pc := 7) (As := [.int vp3]) (rest := []) CX P hl.1 hF kn_X3_61 (fun r q => c_X9_outlives l G B _ _ _ q) rfl rfl ⟨Nat.le_of_ble_eq_true rfl, Nat.le_of_ble_eq_true rfl⟩ (Nat.le_of_ble_eq_true rfl) ⟨Nat.le_of_ble_eq_true rfl, Nat.le_of_ble_eq_true rfl⟩ dX3_pressToHigh_7 (fun v2 H locs P hF => ?_)
  obtain ⟨j3, hA3, hK3⟩ := bd_some hF
  have hJ3 : ∀ (v7 : Int32) (H : Heap) (locs : List Loc) (ls : Array Slot), Pic G B h s H locs → lv_has ls 8 [(0, .ref (B + a0)), (1, .ref (B + ap1)), (2, .int vp2), (3, .int vp3), (4, .ref (B + a1))] → v7 = j3 → W p l e (rmM 4 127 0 0) s m args below meth c H locs 0 0 Q (F0 m 26 ls [.int v7]) := by
    intro v7 H locs ls P hl ej
    subst ej
    have hF := hK3
    refine lv_istore (pc := 26) hx hb dX3_pressToHigh_26 hl (by decide) rfl (fun ls hl => ?_)
    replace hl : lv_has ls 8 [(5, .int v7), (0, .ref (B + a0)), (1, .ref (B + ap1)), (2, .int vp2), (3, .int vp3), (4, .ref (B + a1))] := hl
    refine lv_iconst (pc := 28) (v := 0) hx hb dX3_pressToHigh_28 (by decide) ?_
    refine lv_istore (pc := 29) hx hb dX3_pressToHigh_29 hl (by decide) rfl (fun ls hl => ?_)
    replace hl : lv_has ls 8 [(6, .int 0), (5, .int v7), (0, .ref (B + a0)), (1, .ref (B + ap1)), (2, .int vp2), (3, .int vp3), (4, .ref (B + a1))] := hl
    obtain ⟨r8, hLp8, hK8⟩ := bd_some hF
    have hX8 : ∀ (h41 : Hp) (H : Heap) (locs : List Loc) (ls : Array Slot), Pic G B h41 s H locs → lv_has ls 8 [(3, .int vp3)] → h41 = r8 → W p l e (rmM 4 127 0 0) s m args below meth c H locs 0 0 Q (F0 m 147 ls []) := by
      intro h41 H locs ls P hl er
      subst er
      have hF := hK8
      refine lv_iload_n (pc := 147) hx hb dX3_pressToHigh_147 rfl (lv_at hl 0 rfl) ?_
      cases hF
      exact hret _ _ _ _ P rfl dX3_pressToHigh_148
    have hL8 : ∀ (n : Nat) (v14 : Int32) (v15 : Int32) (h16 : Hp) (H : Heap) (locs : List Loc) (ls : Array Slot), Pic G B h16 s H locs → lv_has ls 8 [(0, .ref (B + a0)), (1, .ref (B + ap1)), (2, .int vp2), (3, .int vp3), (4, .ref (B + a1)), (5, .int v14), (6, .int v15)] → loopF (fun x => F_X3_pressToHigh_L31 a0 ap1 vp2 vp3 a1 x.1 x.2.1 x.2.2) n (v14, v15, h16) = some r8 → W p l e (rmM 4 127 0 0) s m args below meth c H locs 0 0 Q (F0 m 31 ls []) := by
      intro n
      induction n with
      | zero => intro v14 v15 h16 H locs ls P hl hq; cases hq
      | succ n ih =>
        intro v14 v15 h16 H locs ls P hl hq
        obtain ⟨z8, hS8, hI8, hR8⟩ := loop_some hq
        have hF : F_X3_pressToHigh_L31 a0 ap1 vp2 vp3 a1 v14 v15 h16 = some z8 := hS8
        unfold F_X3_pressToHigh_L31 at hF
        refine lv_iload (pc := 31) hx hb dX3_pressToHigh_31 (lv_at hl 5 rfl) ?_
        refine lv_iconst (pc := 33) (v := (-1)) hx hb dX3_pressToHigh_33 (by decide) ?_
        refine lv_icmp_eq (pc := 34) (tgt := 147) hx hb dX3_pressToHigh_34 (by decide) (fun hc => ?_) (fun hc => ?_)
        · rw [if_pos hc] at hF
          exact hX8 _ _ _ _ P (lv_sub hl [3] rfl) (hR8 _ (Option.some.inj hF).symm)
        · rw [if_neg hc] at hF
          refine lv_iload (pc := 37) hx hb dX3_pressToHigh_37 (lv_at hl 6 rfl) ?_
          refine lv_bipush (pc := 39) (v := 12) hx hb dX3_pressToHigh_39 (by decide) ?_
          refine lv_icmp_ge (pc := 41) (tgt := 147) hx hb dX3_pressToHigh_41 (by decide) (fun hc => ?_) (fun hc => ?_)
          · rw [if_pos hc] at hF
            exact hX8 _ _ _ _ P (lv_sub hl [3] rfl) (hR8 _ (Option.some.inj hF).symm)
          · rw [if_neg hc] at hF
            refine lv_aload (pc := 44) hx hb dX3_pressToHigh_44 (lv_at hl 4 rfl) ?_
            refine r_gR (pc := 46) CX P hF fl_X3_73 dX3_pressToHigh_46 (fun a17 hF => ?_)
            refine lv_iconst (pc := 49) (v := 2) hx hb dX3_pressToHigh_49 (by decide) ?_
            refine r_aR (pc := 50) CX P hF (Or.inr (Or.inl rfl)) dX3_pressToHigh_50 (fun a18 hF => ?_)
            refine lv_iload (pc := 51) hx hb dX3_pressToHigh_51 (lv_at hl 5 rfl) ?_
            refine r_aI (pc := 53) CX P hF dX3_pressToHigh_53 (fun v19 hF => ?_)
            refine lv_istore (pc := 54) hx hb dX3_pressToHigh_54 hl (by decide) rfl (fun ls hl => ?_)
            replace hl : lv_has ls 8 [(7, .int v19), (0, .ref (B + a0)), (1, .ref (B + ap1)), (2, .int vp2), (3, .int vp3), (4, .ref (B + a1)), (5, .int v14), (6, .int v15)] := hl
            refine lv_aload (pc := 56) hx hb dX3_pressToHigh_56 (lv_at hl 5 rfl) ?_
            refine r_gR (pc := 58) CX P hF fl_X3_80 dX3_pressToHigh_58 (fun a20 hF => ?_)
            refine lv_iload (pc := 61) hx hb dX3_pressToHigh_61 (lv_at hl 6 rfl) ?_
            refine r_aI (pc := 63) CX P hF dX3_pressToHigh_63 (fun v21 hF => ?_)
            refine lv_iload (pc := 64) hx hb dX3_pressToHigh_64 (lv_at hl 0 rfl) ?_
            obtain ⟨j22, hA22, hK22⟩ := bd_some hF
            have hJ22 : ∀ (h37 : Hp) (H : Heap) (locs : List Loc) (ls : Array Slot), Pic G B h37 s H locs → lv_has ls 8 [(0, .ref (B + a0)), (1, .ref (B + ap1)), (2, .int vp2), (3, .int vp3), (4, .ref (B + a1)), (5, .int v14), (6, .int v15)] → h37 = j22 → W p l e (rmM 4 127 0 0) s m args below meth c H locs 0 0 Q (F0 m 131 ls []) := by
              intro h37 H locs ls P hl ej
              subst ej
              have hF := hK22
              refine lv_aload (pc := 131) hx hb dX3_pressToHigh_131 (lv_at hl 4 rfl) ?_
              refine r_gR (pc := 133) CX P hF fl_X3_94 dX3_pressToHigh_133 (fun a38 hF => ?_)
              refine lv_iload (pc := 136) hx hb dX3_pressToHigh_136 (lv_at hl 5 rfl) ?_
              refine r_aI (pc := 138) CX P hF dX3_pressToHigh_138 (fun v39 hF => ?_)
              refine lv_istore (pc := 139) hx hb dX3_pressToHigh_139 hl (by decide) rfl (fun ls hl => ?_)
              replace hl : lv_has ls 8 [(5, .int v39), (0, .ref (B + a0)), (1, .ref (B + ap1)), (2, .int vp2), (3, .int vp3), (4, .ref (B + a1)), (6, .int v15)] := hl
              obtain ⟨v40, ev40, hF⟩ := bl_o hF
              refine lv_iinc (pc := 141) (k := 6) (v := v40) hx hb dX3_pressToHigh_141 hl rfl ev40 (by decide) rfl (fun ls hl => ?_)
              replace hl : lv_has ls 8 [(6, .int v40), (5, .int v39), (0, .ref (B + a0)), (1, .ref (B + ap1)), (2, .int vp2), (3, .int vp3), (4, .ref (B + a1))] := hl
              refine lv_goto (pc := 144) (tgt := 31) hx hb dX3_pressToHigh_144 (by decide) ?_
              exact ih _ _ _ _ _ _ P (lv_sub hl [2, 3, 4, 5, 6, 1, 0] rfl) (hI8 _ (Option.some.inj hF).symm)
            replace hF := hA22
            refine lv_icmp_le (pc := 66) (tgt := 131) hx hb dX3_pressToHigh_66 (by decide) (fun hc => ?_) (fun hc => ?_)
            · rw [if_pos hc] at hF
              exact hJ22 _ _ _ _ P (lv_sub hl [1, 2, 3, 4, 5, 6, 7] rfl) (Option.some.inj hF)
            · rw [if_neg hc] at hF
              refine lv_aload (pc := 69) hx hb dX3_pressToHigh_69 (lv_at hl 5 rfl) ?_
              refine r_gR (pc := 71) CX P hF fl_X3_77 dX3_pressToHigh_71 (fun a23 hF => ?_)
              refine lv_iconst (pc := 74) (v := 1) hx hb dX3_pressToHigh_74 (by decide) ?_
              refine r_aR (pc := 75) CX P hF (Or.inr (Or.inl rfl)) dX3_pressToHigh_75 (fun a24 hF => ?_)
              refine lv_iload (pc := 76) hx hb dX3_pressToHigh_76 (lv_at hl 6 rfl) ?_
              refine lv_dup2_11 (pc := 78) hx hb dX3_pressToHigh_78 rfl rfl ?_
              refine r_aI (pc := 79) CX P hF dX3_pressToHigh_79 (fun v25 hF => ?_)
              refine lv_iconst (pc := 80) (v := 1) hx hb dX3_pressToHigh_80 (by decide) ?_
              refine lv_iadd (pc := 81) hx hb dX3_pressToHigh_81 ?_
              refine r_sI (pc := 82) CX P hF dX3_pressToHigh_82 (fun h26 H locs P hF => ?_)
              refine lv_aload_n (pc := 83) hx hb dX3_pressToHigh_83 rfl (lv_at hl 1 rfl) ?_
              refine r_gR (pc := 84) CX P hF fl_X3_9 dX3_pressToHigh_84 (fun a27 hF => ?_)
              refine lv_aload_n (pc := 87) hx hb dX3_pressToHigh_87 rfl (lv_at hl 2 rfl) ?_
              refine lv_iload (pc := 88) hx hb dX3_pressToHigh_88 (lv_at hl 6 rfl) ?_
              refine lv_aload (pc := 90) hx hb dX3_pressToHigh_90 (lv_at hl 5 rfl) ?_
              refine r_gR (pc := 92) CX P hF fl_X3_80 dX3_pressToHigh_92 (fun a28 hF => ?_)
              refine lv_iload (pc := 95) hx hb dX3_pressToHigh_95 (lv_at hl 6 rfl) ?_
              refine r_aI (pc := 97) CX P hF dX3_pressToHigh_97 (fun v29 hF => ?_)
              refine lv_iload (pc := 98) hx hb dX3_pressToHigh_98 (lv_at hl 0 rfl) ?_
              refine lv_isub (pc := 100) hx hb dX3_pressToHigh_100 ?_
              refine r_cVi (pc := 101) (As := [.ref (B + ap1), .int v14, .int (v29 - v19)]) (rest := []) CX P hl.1 hF kv_X3_83 (fun r h1 q => c_X5_takePages l G B _ _ _ _ _ _ _ q) rfl rfl ⟨Nat.le_of_ble_eq_true rfl, Nat.le_of_ble_eq_true rfl⟩ (Nat.le_of_ble_eq_true rfl) ⟨Nat.le_of_ble_eq_true rfl, Nat.le_of_ble_eq_true rfl⟩ dX3_pressToHigh_101 (fun v30 h31 H locs P hF => ?_)
              replace hF := un_i hF
              refine lv_pop (pc := 104) hx hb dX3_pressToHigh_104 rfl ?_
              refine lv_aload_n (pc := 105) hx hb dX3_pressToHigh_105 rfl (lv_at hl 2 rfl) ?_
              refine r_gR (pc := 106) CX P hF fl_X3_15 dX3_pressToHigh_106 (fun a32 hF => ?_)
              refine lv_iload_n (pc := 109) hx hb dX3_pressToHigh_109 rfl (lv_at hl 3 rfl) ?_
              refine lv_iconst (pc := 110) (v := 0) hx hb dX3_pressToHigh_110 (by decide) ?_
              refine lv_aload (pc := 111) hx hb dX3_pressToHigh_111 (lv_at hl 5 rfl) ?_
              refine r_gR (pc := 113) CX P hF fl_X3_80 dX3_pressToHigh_113 (fun a33 hF => ?_)
              refine lv_iload (pc := 116) hx hb dX3_pressToHigh_116 (lv_at hl 6 rfl) ?_
              refine r_aI (pc := 118) CX P hF dX3_pressToHigh_118 (fun v34 hF => ?_)
              refine lv_iload (pc := 119) hx hb dX3_pressToHigh_119 (lv_at hl 0 rfl) ?_
              refine lv_isub (pc := 121) hx hb dX3_pressToHigh_121 ?_
              refine r_mx (pc := 122) CX hl.1 tw_585 tw_475 tw_14 tw_476 (Nat.le_of_ble_eq_true rfl) (Nat.le_of_ble_eq_true rfl) (Nat.le_of_ble_eq_true rfl) (Nat.le_of_ble_eq_true rfl) dX3_pressToHigh_122 ?_
              refine r_cNp (pc := 125) (As := [.int (mxI 0 (v34 - v19))]) (rest := [.int vp2, .ref (B + a32)]) CX P hl.1 hF kn_X3_88 (fun r q => c_X9_stallFor l G B _ _ _ q) rfl rfl ⟨Nat.le_of_ble_eq_true rfl, Nat.le_of_ble_eq_true rfl⟩ (Nat.le_of_ble_eq_true rfl) ⟨Nat.le_of_ble_eq_true rfl, Nat.le_of_ble_eq_true rfl⟩ dX3_pressToHigh_125 (fun v35 H locs P hF => ?_)
              refine r_cVv (pc := 128) (As := [.int vp2, .int v35]) (rest := []) CX P hl.1 hF kv_X3_91 (fun h1 q => c_X0_addStall l G B _ _ _ _ _ q) rfl rfl ⟨Nat.le_of_ble_eq_true rfl, Nat.le_of_ble_eq_true rfl⟩ (Nat.le_of_ble_eq_true rfl) ⟨Nat.le_of_ble_eq_true rfl, Nat.le_of_ble_eq_true rfl⟩ dX3_pressToHigh_128 (fun h36 H locs P hF => ?_)
              exact hJ22 _ _ _ _ P (lv_sub hl [1, 2, 3, 4, 5, 6, 7] rfl) (Option.some.inj hF)
    exact hL8 _ _ _ _ _ _ _ P (lv_sub hl [2, 3, 4, 5, 6, 1, 0] rfl) hLp8
  replace hF := hA3
  refine lv_if_eq (pc := 10) (tgt := 25) hx hb dX3_pressToHigh_10 (by decide) (fun hc => ?_) (fun hc => ?_)
  · rw [if_pos hc] at hF
    refine lv_iconst (pc := 25) (v := (-1)) hx hb dX3_pressToHigh_25 (by decide) ?_
    exact hJ3 _ _ _ _ P (lv_sub hl [1, 2, 3, 4, 0] rfl) (Option.some.inj hF)
  · rw [if_neg hc] at hF
    refine lv_aload_n (pc := 13) hx hb dX3_pressToHigh_13 rfl (lv_at hl 2 rfl) ?_
    refine r_gR (pc := 14) CX P hF fl_X3_15 dX3_pressToHigh_14 (fun a4 hF => ?_)
    refine r_gR (pc := 17) CX P hF fl_X3_21 dX3_pressToHigh_17 (fun a5 hF => ?_)
    refine lv_iload_n (pc := 20) hx hb dX3_pressToHigh_20 rfl (lv_at hl 3 rfl) ?_
    refine r_aI (pc := 21) CX P hF dX3_pressToHigh_21 (fun v6 hF => ?_)
    refine lv_goto (pc := 22) (tgt := 26) hx hb dX3_pressToHigh_22 (by decide) ?_
    exact hJ3 _ _ _ _ P (lv_sub hl [1, 2, 3, 4, 0] rfl) (Option.some.inj hF)
def F_X3_mayNotJoin_L29 (h11 : Hp) (a6 : Nat) (v7 : Int32) (v8 : Int32) (v9 : Int32) (v10 : Int32) : Option ((Int32 × Int32) ⊕ ((Int32) ⊕ (Unit))) :=
if v8 ≤ 0 then (
some (.inr (.inr ()))) else (
if v9 = (-1) then (
some (.inr (.inr ()))) else (
if v9 = v7 then (
some (.inr (.inr ()))) else (
if 12 ≤ v10 then (
some (.inr (.inr ()))) else (
(gR h11 a6 8 0).bind fun a12 =>
(gR h11 a12 6 6).bind fun a13 =>
(aI h11 a13 v9).bind fun v14 =>
(gR h11 a6 8 0).bind fun a15 =>
(gR h11 a15 6 3).bind fun a16 =>
(aR h11 a16 15 5).bind fun a17 =>
(aI h11 a17 v9).bind fun v18 =>
if (v14 + v8) ≤ v18 then (
(gR h11 a6 8 0).bind fun a19 =>
(gR h11 a19 6 0).bind fun a20 =>
(aI h11 a20 v9).bind fun v21 =>
bl (v10 + 1) fun v22 =>
some (.inl (v21, v22))) else (
some (.inr (.inl 1)))))))
def F_X3_mayNotJoin (h : Hp) (a0 : Nat) (ap1 : Nat) (vp2 : Int32) (vp3 : Int32) (vp4 : Int32) : Option (Int32) :=
(cO h ap1 8 (F_X8_pidsFull h ap1 vp3 vp4)).bind fun v1 =>
if v1 = 0 then (
(gR h ap1 8 1).bind fun a2 =>
(gR h a2 0 3).bind fun a3 =>
(aI h a3 vp2).bind fun v4 =>
(loopF (fun x => F_X3_mayNotJoin_L29 h ap1 vp4 v4 x.1 x.2) 6000 (vp3, 0)).bind (sE (fun x => some x) (fun q5 =>
some 0))) else (
some 1)
set_option maxRecDepth 100000 in
set_option maxHeartbeats 4000000 in
theorem c_X3_mayNotJoin (l : Launch) (G : GG) (B : Nat) (h : Hp) (a0 : Nat) (ap1 : Nat) (vp2 : Int32) (vp3 : Int32) (vp4 : Int32) (r0 : Int32) (hF : F_X3_mayNotJoin h a0 ap1 vp2 vp3 vp4 = some r0) : CI l yX3_mayNotJoin cX3_mayNotJoin 8 .boolean 3 71 0 0 G B h [.ref (B + a0), .ref (B + ap1), .int vp2, .int vp3, .int vp4] r0 h := by
  refine ent_i rfl (Nat.le_of_ble_eq_true rfl) ?_
  intro p e s m args below meth c ls Q CX hnm hret P hl
  have CX : Cxt p m c cX3_mayNotJoin 8 s args RX3 G B := CX
  obtain ⟨⟨hx, hb, hml, hown, hts⟩, -, -⟩ := id CX
  replace hl : lv_has ls 8 [(0, .ref (B + a0)), (1, .ref (B + ap1)), (2, .int vp2), (3, .int vp3), (4, .int vp4)] := hl
  generalize s.heap = H at P ⊢
  generalize ([] : List Loc) = locs at P ⊢
  unfold F_X3_mayNotJoin at hF
  refine lv_aload_n (pc := 0) hx hb dX3_mayNotJoin_0 rfl (lv_at hl 1 rfl) ?_
  refine lv_iload_n (pc := 1) hx hb dX3_mayNotJoin_1 rfl (lv_at hl 3 rfl) ?_
  refine lv_iload (pc := 2) hx hb dX3_mayNotJoin_2 (lv_at hl 4 rfl) ?_
  refine r_cVp (pc := 4) (As := [.int vp3, .int vp4]) (rest := []) CX P hl.1 hF kv_X3_110 (fun r q => c_X8_pidsFull l G B _ _ _ _ _ q) rfl rfl ⟨Nat.le_of_ble_eq_true rfl, Nat.le_of_ble_eq_true rfl⟩ (Nat.le_of_ble_eq_true rfl) ⟨Nat.le_of_ble_eq_true rfl, Nat.le_of_ble_eq_true rfl⟩ dX3_mayNotJoin_4 (fun v1 H locs P hF => ?_)
  refine lv_if_eq (pc := 7) (tgt := 12) hx hb dX3_mayNotJoin_7 (by decide) (fun hc => ?_) (fun hc => ?_)
  · rw [if_pos hc] at hF
    refine lv_aload_n (pc := 12) hx hb dX3_mayNotJoin_12 rfl (lv_at hl 1 rfl) ?_
    refine r_gR (pc := 13) CX P hF fl_X3_15 dX3_mayNotJoin_13 (fun a2 hF => ?_)
    refine r_gR (pc := 16) CX P hF fl_X3_114 dX3_mayNotJoin_16 (fun a3 hF => ?_)
    refine lv_iload_n (pc := 19) hx hb dX3_mayNotJoin_19 rfl (lv_at hl 2 rfl) ?_
    refine r_aI (pc := 20) CX P hF dX3_mayNotJoin_20 (fun v4 hF => ?_)
    refine lv_istore (pc := 21) hx hb dX3_mayNotJoin_21 hl (by decide) rfl (fun ls hl => ?_)
    replace hl : lv_has ls 8 [(5, .int v4), (0, .ref (B + a0)), (1, .ref (B + ap1)), (2, .int vp2), (3, .int vp3), (4, .int vp4)] := hl
    refine lv_iload_n (pc := 23) hx hb dX3_mayNotJoin_23 rfl (lv_at hl 4 rfl) ?_
    refine lv_istore (pc := 24) hx hb dX3_mayNotJoin_24 hl (by decide) rfl (fun ls hl => ?_)
    replace hl : lv_has ls 8 [(6, .int vp3), (5, .int v4), (0, .ref (B + a0)), (1, .ref (B + ap1)), (2, .int vp2), (3, .int vp3), (4, .int vp4)] := hl
    refine lv_iconst (pc := 26) (v := 0) hx hb dX3_mayNotJoin_26 (by decide) ?_
    refine lv_istore (pc := 27) hx hb dX3_mayNotJoin_27 hl (by decide) rfl (fun ls hl => ?_)
    replace hl : lv_has ls 8 [(7, .int 0), (6, .int vp3), (5, .int v4), (0, .ref (B + a0)), (1, .ref (B + ap1)), (2, .int vp2), (3, .int vp3), (4, .int vp4)] := hl
    obtain ⟨r5, hLp5, hK5⟩ := bd_some hF
    have hX5 : ∀  (H : Heap) (locs : List Loc) (ls : Array Slot), Pic G B h s H locs → lv_has ls 8 [] → .inr () = r5 → W p l e (rmM 3 71 0 0) s m args below meth c H locs 0 0 Q (F0 m 102 ls []) := by
      intro  H locs ls P hl er
      subst er
      have hF := sE_ri hK5
      try dsimp only at hF
      refine lv_iconst (pc := 102) (v := 0) hx hb dX3_mayNotJoin_102 (by decide) ?_
      cases hF
      exact hret _ _ _ _ P rfl dX3_mayNotJoin_103
    have hL5 : ∀ (n : Nat) (v9 : Int32) (v10 : Int32) (H : Heap) (locs : List Loc) (ls : Array Slot), Pic G B h s H locs → lv_has ls 8 [(1, .ref (B + ap1)), (4, .int vp4), (5, .int v4), (6, .int v9), (7, .int v10)] → loopF (fun x => F_X3_mayNotJoin_L29 h ap1 vp4 v4 x.1 x.2) n (v9, v10) = some r5 → W p l e (rmM 3 71 0 0) s m args below meth c H locs 0 0 Q (F0 m 29 ls []) := by
      intro n
      induction n with
      | zero => intro v9 v10 H locs ls P hl hq; cases hq
      | succ n ih =>
        intro v9 v10 H locs ls P hl hq
        obtain ⟨z5, hS5, hI5, hR5⟩ := loop_some hq
        have hF : F_X3_mayNotJoin_L29 h ap1 vp4 v4 v9 v10 = some z5 := hS5
        unfold F_X3_mayNotJoin_L29 at hF
        refine lv_iload (pc := 29) hx hb dX3_mayNotJoin_29 (lv_at hl 2 rfl) ?_
        refine lv_if_le (pc := 31) (tgt := 102) hx hb dX3_mayNotJoin_31 (by decide) (fun hc => ?_) (fun hc => ?_)
        · rw [if_pos hc] at hF
          exact hX5  _ _ _ P (lv_sub hl [] rfl) (hR5 _ (Option.some.inj hF).symm)
        · rw [if_neg hc] at hF
          refine lv_iload (pc := 34) hx hb dX3_mayNotJoin_34 (lv_at hl 3 rfl) ?_
          refine lv_iconst (pc := 36) (v := (-1)) hx hb dX3_mayNotJoin_36 (by decide) ?_
          refine lv_icmp_eq (pc := 37) (tgt := 102) hx hb dX3_mayNotJoin_37 (by decide) (fun hc => ?_) (fun hc => ?_)
          · rw [if_pos hc] at hF
            exact hX5  _ _ _ P (lv_sub hl [] rfl) (hR5 _ (Option.some.inj hF).symm)
          · rw [if_neg hc] at hF
            refine lv_iload (pc := 40) hx hb dX3_mayNotJoin_40 (lv_at hl 3 rfl) ?_
            refine lv_iload (pc := 42) hx hb dX3_mayNotJoin_42 (lv_at hl 1 rfl) ?_
            refine lv_icmp_eq (pc := 44) (tgt := 102) hx hb dX3_mayNotJoin_44 (by decide) (fun hc => ?_) (fun hc => ?_)
            · rw [if_pos hc] at hF
              exact hX5  _ _ _ P (lv_sub hl [] rfl) (hR5 _ (Option.some.inj hF).symm)
            · rw [if_neg hc] at hF
              refine lv_iload (pc := 47) hx hb dX3_mayNotJoin_47 (lv_at hl 4 rfl) ?_
              refine lv_bipush (pc := 49) (v := 12) hx hb dX3_mayNotJoin_49 (by decide) ?_
              refine lv_icmp_ge (pc := 51) (tgt := 102) hx hb dX3_mayNotJoin_51 (by decide) (fun hc => ?_) (fun hc => ?_)
              · rw [if_pos hc] at hF
                exact hX5  _ _ _ P (lv_sub hl [] rfl) (hR5 _ (Option.some.inj hF).symm)
              · rw [if_neg hc] at hF
                refine lv_aload_n (pc := 54) hx hb dX3_mayNotJoin_54 rfl (lv_at hl 0 rfl) ?_
                refine r_gR (pc := 55) CX P hF fl_X3_27 dX3_mayNotJoin_55 (fun a12 hF => ?_)
                refine r_gR (pc := 58) CX P hF fl_X3_117 dX3_mayNotJoin_58 (fun a13 hF => ?_)
                refine lv_iload (pc := 61) hx hb dX3_mayNotJoin_61 (lv_at hl 3 rfl) ?_
                refine r_aI (pc := 63) CX P hF dX3_mayNotJoin_63 (fun v14 hF => ?_)
                refine lv_iload (pc := 64) hx hb dX3_mayNotJoin_64 (lv_at hl 2 rfl) ?_
                refine lv_iadd (pc := 66) hx hb dX3_mayNotJoin_66 ?_
                refine lv_aload_n (pc := 67) hx hb dX3_mayNotJoin_67 rfl (lv_at hl 0 rfl) ?_
                refine r_gR (pc := 68) CX P hF fl_X3_27 dX3_mayNotJoin_68 (fun a15 hF => ?_)
                refine r_gR (pc := 71) CX P hF fl_X3_73 dX3_mayNotJoin_71 (fun a16 hF => ?_)
                refine lv_iconst (pc := 74) (v := 5) hx hb dX3_mayNotJoin_74 (by decide) ?_
                refine r_aR (pc := 75) CX P hF (Or.inr (Or.inl rfl)) dX3_mayNotJoin_75 (fun a17 hF => ?_)
                refine lv_iload (pc := 76) hx hb dX3_mayNotJoin_76 (lv_at hl 3 rfl) ?_
                refine r_aI (pc := 78) CX P hF dX3_mayNotJoin_78 (fun v18 hF => ?_)
                refine lv_icmp_le (pc := 79) (tgt := 84) hx hb dX3_mayNotJoin_79 (by decide) (fun hc => ?_) (fun hc => ?_)
                · rw [if_pos hc] at hF
                  refine lv_aload_n (pc := 84) hx hb dX3_mayNotJoin_84 rfl (lv_at hl 0 rfl) ?_
                  refine r_gR (pc := 85) CX P hF fl_X3_27 dX3_mayNotJoin_85 (fun a19 hF => ?_)
                  refine r_gR (pc := 88) CX P hF fl_X3_94 dX3_mayNotJoin_88 (fun a20 hF => ?_)
                  refine lv_iload (pc := 91) hx hb dX3_mayNotJoin_91 (lv_at hl 3 rfl) ?_
                  refine r_aI (pc := 93) CX P hF dX3_mayNotJoin_93 (fun v21 hF => ?_)
                  refine lv_istore (pc := 94) hx hb dX3_mayNotJoin_94 hl (by decide) rfl (fun ls hl => ?_)
                  replace hl : lv_has ls 8 [(6, .int v21), (1, .ref (B + ap1)), (4, .int vp4), (5, .int v4), (7, .int v10)] := hl
                  obtain ⟨v22, ev22, hF⟩ := bl_o hF
                  refine lv_iinc (pc := 96) (k := 4) (v := v22) hx hb dX3_mayNotJoin_96 hl rfl ev22 (by decide) rfl (fun ls hl => ?_)
                  replace hl : lv_has ls 8 [(7, .int v22), (6, .int v21), (1, .ref (B + ap1)), (4, .int vp4), (5, .int v4)] := hl
                  refine lv_goto (pc := 99) (tgt := 29) hx hb dX3_mayNotJoin_99 (by decide) ?_
                  exact ih _ _ _ _ _ P (lv_sub hl [2, 3, 4, 1, 0] rfl) (hI5 _ (Option.some.inj hF).symm)
                · rw [if_neg hc] at hF
                  refine lv_iconst (pc := 82) (v := 1) hx hb dX3_mayNotJoin_82 (by decide) ?_
                  have hE := hR5 _ (Option.some.inj hF).symm
                  subst hE
                  replace hF := sE_li hK5
                  cases hF
                  exact hret _ _ _ _ P rfl dX3_mayNotJoin_83
    exact hL5 _ _ _ _ _ _ P (lv_sub hl [4, 7, 2, 1, 0] rfl) hLp5
  · rw [if_neg hc] at hF
    refine lv_iconst (pc := 10) (v := 1) hx hb dX3_mayNotJoin_10 (by decide) ?_
    cases hF
    exact hret _ _ _ _ P rfl dX3_mayNotJoin_11
def F_X3_moveProcess_L54 (a10 : Nat) (a11 : Nat) (v12 : Int32) (v13 : Int32) (v14 : Int32) (v15 : Int32) (v16 : Int32) (v17 : Int32) (v18 : Int32) (h19 : Hp) : Option ((Int32 × Int32 × Hp) ⊕ ((Int32 × Hp) ⊕ (Hp))) :=
if v17 = (-1) then (
some (.inr (.inr h19))) else (
if v17 = v15 then (
some (.inr (.inr h19))) else (
if 12 ≤ v18 then (
some (.inr (.inr h19))) else (
(gR h19 a11 8 0).bind fun a20 =>
(gR h19 a20 6 5).bind fun a21 =>
(aI h19 a21 v17).bind fun v22 =>
(gR h19 a11 8 0).bind fun a23 =>
(gR h19 a23 6 3).bind fun a24 =>
(aR h19 a24 15 3).bind fun a25 =>
(aI h19 a25 v17).bind fun v26 =>
(if v26 < (v22 + v16) then (
some (0 : Int32)) else (
some (1 : Int32))).bind fun v28 =>
bl (fun (h32 : Hp) =>
(gR h32 a11 8 0).bind fun a33 =>
(gR h32 a33 6 0).bind fun a34 =>
(aI h32 a34 v17).bind fun v35 =>
bl (v18 + 1) fun v36 =>
some (.inl (v35, v36, h32))) fun k29 =>
if v28 = 0 then (
(cO h19 a10 3 (F_X3_fitsUnderMax h19 a10 a11 v17 v16)).bind (un fun v30 h31 =>
if v30 = 0 then (
some (.inr (.inl ((-4), h31)))) else (
k29 h31))) else (
k29 h19))))
def F_X3_moveProcess (h : Hp) (a0 : Nat) (ap1 : Nat) (vp2 : Int32) (vp3 : Int32) : Option (Int32 × Hp) :=
(gR h ap1 8 1).bind fun a1 =>
(gR h a1 0 0).bind fun a2 =>
(aI h a2 vp2).bind fun v3 =>
(gR h ap1 8 0).bind fun a4 =>
(cO h a4 6 (F_X6_lowestCommon h a4 vp3 v3)).bind fun v5 =>
(cO h a0 3 (F_X3_mayNotJoin h a0 ap1 vp2 vp3 v5)).bind fun v6 =>
if v6 = 0 then (
(gR h ap1 8 1).bind fun a7 =>
(cO h a7 0 (F_X0_held h a7 vp2)).bind fun v8 =>
(loopF (fun x => F_X3_moveProcess_L54 a0 ap1 vp2 vp3 v3 v5 v8 x.1 x.2.1 x.2.2) 6000 (vp3, 0, h)).bind (sE (fun x => some x) (fun h37 =>
(cO h37 ap1 8 (F_X8_relocate h37 ap1 vp2 vp3)).bind fun h38 =>
some (v3, h38)))) else (
some ((-4), h))
set_option maxRecDepth 100000 in
set_option maxHeartbeats 4000000 in
theorem c_X3_moveProcess (l : Launch) (G : GG) (B : Nat) (h : Hp) (a0 : Nat) (ap1 : Nat) (vp2 : Int32) (vp3 : Int32) (r0 : Int32) (hr : Hp) (hF : F_X3_moveProcess h a0 ap1 vp2 vp3 = some (r0, hr)) : CI l yX3_moveProcess cX3_moveProcess 10 .int 5 151 0 0 G B h [.ref (B + a0), .ref (B + ap1), .int vp2, .int vp3] r0 hr := by
  refine ent_i rfl (Nat.le_of_ble_eq_true rfl) ?_
  intro p e s m args below meth c ls Q CX hnm hret P hl
  have CX : Cxt p m c cX3_moveProcess 10 s args RX3 G B := CX
  obtain ⟨⟨hx, hb, hml, hown, hts⟩, -, -⟩ := id CX
  replace hl : lv_has ls 10 [(0, .ref (B + a0)), (1, .ref (B + ap1)), (2, .int vp2), (3, .int vp3)] := hl
  generalize s.heap = H at P ⊢
  generalize ([] : List Loc) = locs at P ⊢
  unfold F_X3_moveProcess at hF
  refine lv_aload_n (pc := 0) hx hb dX3_moveProcess_0 rfl (lv_at hl 1 rfl) ?_
  refine r_gR (pc := 1) CX P hF fl_X3_15 dX3_moveProcess_1 (fun a1 hF => ?_)
  refine r_gR (pc := 4) CX P hF fl_X3_21 dX3_moveProcess_4 (fun a2 hF => ?_)
  refine lv_iload_n (pc := 7) hx hb dX3_moveProcess_7 rfl (lv_at hl 2 rfl) ?_
  refine r_aI (pc := 8) CX P hF dX3_moveProcess_8 (fun v3 hF => ?_)
  refine lv_istore (pc := 9) hx hb dX3_moveProcess_9 hl (by decide) rfl (fun ls hl => ?_)
  replace hl : lv_has ls 10 [(4, .int v3), (0, .ref (B + a0)), (1, .ref (B + ap1)), (2, .int vp2), (3, .int vp3)] := hl
  refine lv_aload_n (pc := 11) hx hb dX3_moveProcess_11 rfl (lv_at hl 2 rfl) ?_
  refine r_gR (pc := 12) CX P hF fl_X3_27 dX3_moveProcess_12 (fun a4 hF => ?_)
  refine lv_iload_n (pc := 15) hx hb dX3_moveProcess_15 rfl (lv_at hl 4 rfl) ?_
  refine lv_iload (pc := 16) hx hb dX3_moveProcess_16 (lv_at hl 0 rfl) ?_
  refine r_cVp (pc := 18) (As := [.int vp3, .int v3]) (rest := []) CX P hl.1 hF kv_X3_97 (fun r q => c_X6_lowestCommon l G B _ _ _ _ _ q) rfl rfl ⟨Nat.le_of_ble_eq_true rfl, Nat.le_of_ble_eq_true rfl⟩ (Nat.le_of_ble_eq_true rfl) ⟨Nat.le_of_ble_eq_true rfl, Nat.le_of_ble_eq_true rfl⟩ dX3_moveProcess_18 (fun v5 H locs P hF => ?_)
  refine lv_istore (pc := 21) hx hb dX3_moveProcess_21 hl (by decide) rfl (fun ls hl => ?_)
  replace hl : lv_has ls 10 [(5, .int v5), (4, .int v3), (0, .ref (B + a0)), (1, .ref (B + ap1)), (2, .int vp2), (3, .int vp3)] := hl
  refine lv_aload_n (pc := 23) hx hb dX3_moveProcess_23 rfl (lv_at hl 2 rfl) ?_
  refine lv_aload_n (pc := 24) hx hb dX3_moveProcess_24 rfl (lv_at hl 3 rfl) ?_
  refine lv_iload_n (pc := 25) hx hb dX3_moveProcess_25 rfl (lv_at hl 4 rfl) ?_
  refine lv_iload_n (pc := 26) hx hb dX3_moveProcess_26 rfl (lv_at hl 5 rfl) ?_
  refine lv_iload (pc := 27) hx hb dX3_moveProcess_27 (lv_at hl 0 rfl) ?_
  refine r_cVp (pc := 29) (As := [.ref (B + ap1), .int vp2, .int vp3, .int v5]) (rest := []) CX P hl.1 hF kv_X3_100 (fun r q => c_X3_mayNotJoin l G B _ _ _ _ _ _ _ q) rfl rfl ⟨Nat.le_of_ble_eq_true rfl, Nat.le_of_ble_eq_true rfl⟩ (Nat.le_of_ble_eq_true rfl) ⟨Nat.le_of_ble_eq_true rfl, Nat.le_of_ble_eq_true rfl⟩ dX3_moveProcess_29 (fun v6 H locs P hF => ?_)
  refine lv_if_eq (pc := 32) (tgt := 38) hx hb dX3_moveProcess_32 (by decide) (fun hc => ?_) (fun hc => ?_)
  · rw [if_pos hc] at hF
    refine lv_aload_n (pc := 38) hx hb dX3_moveProcess_38 rfl (lv_at hl 3 rfl) ?_
    refine r_gR (pc := 39) CX P hF fl_X3_15 dX3_moveProcess_39 (fun a7 hF => ?_)
    refine lv_iload_n (pc := 42) hx hb dX3_moveProcess_42 rfl (lv_at hl 4 rfl) ?_
    refine r_cVp (pc := 43) (As := [.int vp2]) (rest := []) CX P hl.1 hF kv_X3_104 (fun r q => c_X0_held l G B _ _ _ _ q) rfl rfl ⟨Nat.le_of_ble_eq_true rfl, Nat.le_of_ble_eq_true rfl⟩ (Nat.le_of_ble_eq_true rfl) ⟨Nat.le_of_ble_eq_true rfl, Nat.le_of_ble_eq_true rfl⟩ dX3_moveProcess_43 (fun v8 H locs P hF => ?_)
    refine lv_istore (pc := 46) hx hb dX3_moveProcess_46 hl (by decide) rfl (fun ls hl => ?_)
    replace hl : lv_has ls 10 [(6, .int v8), (5, .int v5), (4, .int v3), (0, .ref (B + a0)), (1, .ref (B + ap1)), (2, .int vp2), (3, .int vp3)] := hl
    refine lv_iload_n (pc := 48) hx hb dX3_moveProcess_48 rfl (lv_at hl 6 rfl) ?_
    refine lv_istore (pc := 49) hx hb dX3_moveProcess_49 hl (by decide) rfl (fun ls hl => ?_)
    replace hl : lv_has ls 10 [(7, .int vp3), (6, .int v8), (5, .int v5), (4, .int v3), (0, .ref (B + a0)), (1, .ref (B + ap1)), (2, .int vp2), (3, .int vp3)] := hl
    refine lv_iconst (pc := 51) (v := 0) hx hb dX3_moveProcess_51 (by decide) ?_
    refine lv_istore (pc := 52) hx hb dX3_moveProcess_52 hl (by decide) rfl (fun ls hl => ?_)
    replace hl : lv_has ls 10 [(8, .int 0), (7, .int vp3), (6, .int v8), (5, .int v5), (4, .int v3), (0, .ref (B + a0)), (1, .ref (B + ap1)), (2, .int vp2), (3, .int vp3)] := hl
    obtain ⟨r9, hLp9, hK9⟩ := bd_some hF
    have hX9 : ∀ (h37 : Hp) (H : Heap) (locs : List Loc) (ls : Array Slot), Pic G B h37 s H locs → lv_has ls 10 [(1, .ref (B + ap1)), (2, .int vp2), (3, .int vp3), (4, .int v3)] → .inr h37 = r9 → W p l e (rmM 5 151 0 0) s m args below meth c H locs 0 0 Q (F0 m 147 ls []) := by
      intro h37 H locs ls P hl er
      subst er
      have hF := sE_ri hK9
      refine lv_aload_n (pc := 147) hx hb dX3_moveProcess_147 rfl (lv_at hl 0 rfl) ?_
      refine lv_iload_n (pc := 148) hx hb dX3_moveProcess_148 rfl (lv_at hl 1 rfl) ?_
      refine lv_iload_n (pc := 149) hx hb dX3_moveProcess_149 rfl (lv_at hl 2 rfl) ?_
      refine r_cVv (pc := 150) (As := [.int vp2, .int vp3]) (rest := []) CX P hl.1 hF kv_X3_107 (fun h1 q => c_X8_relocate l G B _ _ _ _ _ q) rfl rfl ⟨Nat.le_of_ble_eq_true rfl, Nat.le_of_ble_eq_true rfl⟩ (Nat.le_of_ble_eq_true rfl) ⟨Nat.le_of_ble_eq_true rfl, Nat.le_of_ble_eq_true rfl⟩ dX3_moveProcess_150 (fun h38 H locs P hF => ?_)
      refine lv_iload (pc := 153) hx hb dX3_moveProcess_153 (lv_at hl 3 rfl) ?_
      cases hF
      exact hret _ _ _ _ P rfl dX3_moveProcess_155
    have hL9 : ∀ (n : Nat) (v17 : Int32) (v18 : Int32) (h19 : Hp) (H : Heap) (locs : List Loc) (ls : Array Slot), Pic G B h19 s H locs → lv_has ls 10 [(0, .ref (B + a0)), (1, .ref (B + ap1)), (2, .int vp2), (3, .int vp3), (4, .int v3), (5, .int v5), (6, .int v8), (7, .int v17), (8, .int v18)] → loopF (fun x => F_X3_moveProcess_L54 a0 ap1 vp2 vp3 v3 v5 v8 x.1 x.2.1 x.2.2) n (v17, v18, h19) = some r9 → W p l e (rmM 5 151 0 0) s m args below meth c H locs 0 0 Q (F0 m 54 ls []) := by
      intro n
      induction n with
      | zero => intro v17 v18 h19 H locs ls P hl hq; cases hq
      | succ n ih =>
        intro v17 v18 h19 H locs ls P hl hq
        obtain ⟨z9, hS9, hI9, hR9⟩ := loop_some hq
        have hF : F_X3_moveProcess_L54 a0 ap1 vp2 vp3 v3 v5 v8 v17 v18 h19 = some z9 := hS9
        unfold F_X3_moveProcess_L54 at hF
        refine lv_iload (pc := 54) hx hb dX3_moveProcess_54 (lv_at hl 7 rfl) ?_
        refine lv_iconst (pc := 56) (v := (-1)) hx hb dX3_moveProcess_56 (by decide) ?_
        refine lv_icmp_eq (pc := 57) (tgt := 147) hx hb dX3_moveProcess_57 (by decide) (fun hc => ?_) (fun hc => ?_)
        · rw [if_pos hc] at hF
          exact hX9 _ _ _ _ P (lv_sub hl [1, 2, 3, 4] rfl) (hR9 _ (Option.some.inj hF).symm)
        · rw [if_neg hc] at hF
          refine lv_iload (pc := 60) hx hb dX3_moveProcess_60 (lv_at hl 7 rfl) ?_
          refine lv_iload (pc := 62) hx hb dX3_moveProcess_62 (lv_at hl 5 rfl) ?_
          refine lv_icmp_eq (pc := 64) (tgt := 147) hx hb dX3_moveProcess_64 (by decide) (fun hc => ?_) (fun hc => ?_)
          · rw [if_pos hc] at hF
            exact hX9 _ _ _ _ P (lv_sub hl [1, 2, 3, 4] rfl) (hR9 _ (Option.some.inj hF).symm)
          · rw [if_neg hc] at hF
            refine lv_iload (pc := 67) hx hb dX3_moveProcess_67 (lv_at hl 8 rfl) ?_
            refine lv_bipush (pc := 69) (v := 12) hx hb dX3_moveProcess_69 (by decide) ?_
            refine lv_icmp_ge (pc := 71) (tgt := 147) hx hb dX3_moveProcess_71 (by decide) (fun hc => ?_) (fun hc => ?_)
            · rw [if_pos hc] at hF
              exact hX9 _ _ _ _ P (lv_sub hl [1, 2, 3, 4] rfl) (hR9 _ (Option.some.inj hF).symm)
            · rw [if_neg hc] at hF
              refine lv_aload_n (pc := 74) hx hb dX3_moveProcess_74 rfl (lv_at hl 1 rfl) ?_
              refine r_gR (pc := 75) CX P hF fl_X3_27 dX3_moveProcess_75 (fun a20 hF => ?_)
              refine r_gR (pc := 78) CX P hF fl_X3_80 dX3_moveProcess_78 (fun a21 hF => ?_)
              refine lv_iload (pc := 81) hx hb dX3_moveProcess_81 (lv_at hl 7 rfl) ?_
              refine r_aI (pc := 83) CX P hF dX3_moveProcess_83 (fun v22 hF => ?_)
              refine lv_iload (pc := 84) hx hb dX3_moveProcess_84 (lv_at hl 6 rfl) ?_
              refine lv_iadd (pc := 86) hx hb dX3_moveProcess_86 ?_
              refine lv_aload_n (pc := 87) hx hb dX3_moveProcess_87 rfl (lv_at hl 1 rfl) ?_
              refine r_gR (pc := 88) CX P hF fl_X3_27 dX3_moveProcess_88 (fun a23 hF => ?_)
              refine r_gR (pc := 91) CX P hF fl_X3_73 dX3_moveProcess_91 (fun a24 hF => ?_)
              refine lv_iconst (pc := 94) (v := 3) hx hb dX3_moveProcess_94 (by decide) ?_
              refine r_aR (pc := 95) CX P hF (Or.inr (Or.inl rfl)) dX3_moveProcess_95 (fun a25 hF => ?_)
              refine lv_iload (pc := 96) hx hb dX3_moveProcess_96 (lv_at hl 7 rfl) ?_
              refine r_aI (pc := 98) CX P hF dX3_moveProcess_98 (fun v26 hF => ?_)
              obtain ⟨j27, hA27, hK27⟩ := bd_some hF
              have hJ27 : ∀ (v28 : Int32) (H : Heap) (locs : List Loc) (ls : Array Slot), Pic G B h19 s H locs → lv_has ls 10 [(0, .ref (B + a0)), (1, .ref (B + ap1)), (2, .int vp2), (3, .int vp3), (4, .int v3), (5, .int v5), (6, .int v8), (7, .int v17), (8, .int v18)] → v28 = j27 → W p l e (rmM 5 151 0 0) s m args below meth c H locs 0 0 Q (F0 m 107 ls [.int v28]) := by
                intro v28 H locs ls P hl ej
                subst ej
                have hF := hK27
                refine lv_istore (pc := 107) hx hb dX3_moveProcess_107 hl (by decide) rfl (fun ls hl => ?_)
                replace hl : lv_has ls 10 [(9, .int v28), (0, .ref (B + a0)), (1, .ref (B + ap1)), (2, .int vp2), (3, .int vp3), (4, .int v3), (5, .int v5), (6, .int v8), (7, .int v17), (8, .int v18)] := hl
                refine lv_iload (pc := 109) hx hb dX3_moveProcess_109 (lv_at hl 0 rfl) ?_
                obtain ⟨k29, ek29, hF⟩ := bl_o hF
                have hJ29 : ∀ (h32 : Hp) (H : Heap) (locs : List Loc) (ls : Array Slot), Pic G B h32 s H locs → lv_has ls 10 [(0, .ref (B + a0)), (1, .ref (B + ap1)), (2, .int vp2), (3, .int vp3), (4, .int v3), (5, .int v5), (6, .int v8), (7, .int v17), (8, .int v18)] → k29 h32 = some z9 → W p l e (rmM 5 151 0 0) s m args below meth c H locs 0 0 Q (F0 m 129 ls []) := by
                  intro h32 H locs ls P hl hF
                  rw [← ek29] at hF
                  try dsimp only at hF
                  refine lv_aload_n (pc := 129) hx hb dX3_moveProcess_129 rfl (lv_at hl 1 rfl) ?_
                  refine r_gR (pc := 130) CX P hF fl_X3_27 dX3_moveProcess_130 (fun a33 hF => ?_)
                  refine r_gR (pc := 133) CX P hF fl_X3_94 dX3_moveProcess_133 (fun a34 hF => ?_)
                  refine lv_iload (pc := 136) hx hb dX3_moveProcess_136 (lv_at hl 7 rfl) ?_
                  refine r_aI (pc := 138) CX P hF dX3_moveProcess_138 (fun v35 hF => ?_)
                  refine lv_istore (pc := 139) hx hb dX3_moveProcess_139 hl (by decide) rfl (fun ls hl => ?_)
                  replace hl : lv_has ls 10 [(7, .int v35), (0, .ref (B + a0)), (1, .ref (B + ap1)), (2, .int vp2), (3, .int vp3), (4, .int v3), (5, .int v5), (6, .int v8), (8, .int v18)] := hl
                  obtain ⟨v36, ev36, hF⟩ := bl_o hF
                  refine lv_iinc (pc := 141) (k := 8) (v := v36) hx hb dX3_moveProcess_141 hl rfl ev36 (by decide) rfl (fun ls hl => ?_)
                  replace hl : lv_has ls 10 [(8, .int v36), (7, .int v35), (0, .ref (B + a0)), (1, .ref (B + ap1)), (2, .int vp2), (3, .int vp3), (4, .int v3), (5, .int v5), (6, .int v8)] := hl
                  refine lv_goto (pc := 144) (tgt := 54) hx hb dX3_moveProcess_144 (by decide) ?_
                  exact ih _ _ _ _ _ _ P (lv_sub hl [2, 3, 4, 5, 6, 7, 8, 1, 0] rfl) (hI9 _ (Option.some.inj hF).symm)
                refine lv_if_ne (pc := 111) (tgt := 129) hx hb dX3_moveProcess_111 (by decide) (fun hc => ?_) (fun hc => ?_)
                · rw [if_neg hc] at hF
                  exact hJ29 _ _ _ _ P (lv_sub hl [1, 2, 3, 4, 5, 6, 7, 8, 9] rfl) hF
                · rw [if_pos hc] at hF
                  refine lv_aload_n (pc := 114) hx hb dX3_moveProcess_114 rfl (lv_at hl 1 rfl) ?_
                  refine lv_aload_n (pc := 115) hx hb dX3_moveProcess_115 rfl (lv_at hl 2 rfl) ?_
                  refine lv_iload (pc := 116) hx hb dX3_moveProcess_116 (lv_at hl 8 rfl) ?_
                  refine lv_iload (pc := 118) hx hb dX3_moveProcess_118 (lv_at hl 7 rfl) ?_
                  refine r_cVi (pc := 120) (As := [.ref (B + ap1), .int v17, .int v8]) (rest := []) CX P hl.1 hF kv_X3_65 (fun r h1 q => c_X3_fitsUnderMax l G B _ _ _ _ _ _ _ q) rfl rfl ⟨Nat.le_of_ble_eq_true rfl, Nat.le_of_ble_eq_true rfl⟩ (Nat.le_of_ble_eq_true rfl) ⟨Nat.le_of_ble_eq_true rfl, Nat.le_of_ble_eq_true rfl⟩ dX3_moveProcess_120 (fun v30 h31 H locs P hF => ?_)
                  replace hF := un_i hF
                  refine lv_if_ne (pc := 123) (tgt := 129) hx hb dX3_moveProcess_123 (by decide) (fun hc => ?_) (fun hc => ?_)
                  · rw [if_neg hc] at hF
                    exact hJ29 _ _ _ _ P (lv_sub hl [1, 2, 3, 4, 5, 6, 7, 8, 9] rfl) hF
                  · rw [if_pos hc] at hF
                    refine lv_bipush (pc := 126) (v := (-4)) hx hb dX3_moveProcess_126 (by decide) ?_
                    have hE := hR9 _ (Option.some.inj hF).symm
                    subst hE
                    replace hF := sE_li hK9
                    cases hF
                    exact hret _ _ _ _ P rfl dX3_moveProcess_128
              replace hF := hA27
              refine lv_icmp_gt (pc := 99) (tgt := 106) hx hb dX3_moveProcess_99 (by decide) (fun hc => ?_) (fun hc => ?_)
              · rw [if_pos hc] at hF
                refine lv_iconst (pc := 106) (v := 0) hx hb dX3_moveProcess_106 (by decide) ?_
                exact hJ27 _ _ _ _ P (lv_sub hl [0, 1, 2, 3, 4, 5, 6, 7, 8] rfl) (Option.some.inj hF)
              · rw [if_neg hc] at hF
                refine lv_iconst (pc := 102) (v := 1) hx hb dX3_moveProcess_102 (by decide) ?_
                refine lv_goto (pc := 103) (tgt := 107) hx hb dX3_moveProcess_103 (by decide) ?_
                exact hJ27 _ _ _ _ P (lv_sub hl [0, 1, 2, 3, 4, 5, 6, 7, 8] rfl) (Option.some.inj hF)
    exact hL9 _ _ _ _ _ _ _ P (lv_sub hl [5, 6, 7, 8, 4, 3, 2, 1, 0] rfl) hLp9
  · rw [if_neg hc] at hF
    refine lv_bipush (pc := 35) (v := (-4)) hx hb dX3_moveProcess_35 (by decide) ?_
    cases hF
    exact hret _ _ _ _ P rfl dX3_moveProcess_37
def F_X2_quotaLeft (h : Hp) (ap0 : Nat) (vp1 : Int32) : Option (Int32) :=
(gR h ap0 8 0).bind fun a1 =>
(gR h a1 6 3).bind fun a2 =>
(aR h a2 15 7).bind fun a3 =>
(aI h a3 vp1).bind fun v4 =>
if v4 = 99 then (
some 15984) else (
(gI h ap0 8 7).bind fun v5 =>
(rmI v5 5).bind fun v6 =>
(if v6 = 0 then (
some (0 : Int32)) else (
(gR h ap0 8 0).bind fun a8 =>
(gR h a8 6 7).bind fun a9 =>
(aI h a9 vp1).bind fun v10 =>
some (v10 : Int32))).bind fun v11 =>
some (mxI 0 (v4 - v11)))
set_option maxRecDepth 100000 in
set_option maxHeartbeats 4000000 in
theorem c_X2_quotaLeft (l : Launch) (G : GG) (B : Nat) (h : Hp) (ap0 : Nat) (vp1 : Int32) (r0 : Int32) (hF : F_X2_quotaLeft h ap0 vp1 = some r0) : CI l yX2_quotaLeft cX2_quotaLeft 4 .int 1 39 0 0 G B h [.ref (B + ap0), .int vp1] r0 h := by
  refine ent_i rfl (Nat.le_of_ble_eq_true rfl) ?_
  intro p e s m args below meth c ls Q CX hnm hret P hl
  have CX : Cxt p m c cX2_quotaLeft 4 s args RX2 G B := CX
  obtain ⟨⟨hx, hb, hml, hown, hts⟩, -, -⟩ := id CX
  replace hl : lv_has ls 4 [(0, .ref (B + ap0)), (1, .int vp1)] := hl
  generalize s.heap = H at P ⊢
  generalize ([] : List Loc) = locs at P ⊢
  unfold F_X2_quotaLeft at hF
  refine lv_aload_n (pc := 0) hx hb dX2_quotaLeft_0 rfl (lv_at hl 0 rfl) ?_
  refine r_gR (pc := 1) CX P hF fl_X2_40 dX2_quotaLeft_1 (fun a1 hF => ?_)
  refine r_gR (pc := 4) CX P hF fl_X2_90 dX2_quotaLeft_4 (fun a2 hF => ?_)
  refine lv_bipush (pc := 7) (v := 7) hx hb dX2_quotaLeft_7 (by decide) ?_
  refine r_aR (pc := 9) CX P hF (Or.inr (Or.inl rfl)) dX2_quotaLeft_9 (fun a3 hF => ?_)
  refine lv_iload_n (pc := 10) hx hb dX2_quotaLeft_10 rfl (lv_at hl 1 rfl) ?_
  refine r_aI (pc := 11) CX P hF dX2_quotaLeft_11 (fun v4 hF => ?_)
  refine lv_istore_n (pc := 12) hx hb dX2_quotaLeft_12 rfl hl (by decide) rfl (fun ls hl => ?_)
  replace hl : lv_has ls 4 [(2, .int v4), (0, .ref (B + ap0)), (1, .int vp1)] := hl
  refine lv_iload_n (pc := 13) hx hb dX2_quotaLeft_13 rfl (lv_at hl 0 rfl) ?_
  refine lv_bipush (pc := 14) (v := 99) hx hb dX2_quotaLeft_14 (by decide) ?_
  refine lv_icmp_ne (pc := 16) (tgt := 23) hx hb dX2_quotaLeft_16 (by decide) (fun hc => ?_) (fun hc => ?_)
  · rw [if_neg hc] at hF
    refine lv_aload_n (pc := 23) hx hb dX2_quotaLeft_23 rfl (lv_at hl 1 rfl) ?_
    refine r_gI (pc := 24) CX P hF fl_X2_56 dX2_quotaLeft_24 (fun v5 hF => ?_)
    refine lv_iconst (pc := 27) (v := 5) hx hb dX2_quotaLeft_27 (by decide) ?_
    refine r_rm (pc := 28) hx hb hF dX2_quotaLeft_28 (fun v6 hF => ?_)
    obtain ⟨j7, hA7, hK7⟩ := bd_some hF
    have hJ7 : ∀ (v11 : Int32) (H : Heap) (locs : List Loc) (ls : Array Slot), Pic G B h s H locs → lv_has ls 4 [(2, .int v4)] → v11 = j7 → W p l e (rmM 1 39 0 0) s m args below meth c H locs 0 0 Q (F0 m 45 ls [.int v11]) := by
      intro v11 H locs ls P hl ej
      subst ej
      have hF := hK7
      refine lv_istore_n (pc := 45) hx hb dX2_quotaLeft_45 rfl hl (by decide) rfl (fun ls hl => ?_)
      replace hl : lv_has ls 4 [(3, .int v11), (2, .int v4)] := hl
      refine lv_iconst (pc := 46) (v := 0) hx hb dX2_quotaLeft_46 (by decide) ?_
      refine lv_iload_n (pc := 47) hx hb dX2_quotaLeft_47 rfl (lv_at hl 1 rfl) ?_
      refine lv_iload_n (pc := 48) hx hb dX2_quotaLeft_48 rfl (lv_at hl 0 rfl) ?_
      refine lv_isub (pc := 49) hx hb dX2_quotaLeft_49 ?_
      refine r_mx (pc := 50) CX hl.1 tw_710 tw_475 tw_14 tw_476 (Nat.le_of_ble_eq_true rfl) (Nat.le_of_ble_eq_true rfl) (Nat.le_of_ble_eq_true rfl) (Nat.le_of_ble_eq_true rfl) dX2_quotaLeft_50 ?_
      cases hF
      exact hret _ _ _ _ P rfl dX2_quotaLeft_53
    replace hF := hA7
    refine lv_if_ne (pc := 29) (tgt := 36) hx hb dX2_quotaLeft_29 (by decide) (fun hc => ?_) (fun hc => ?_)
    · rw [if_neg hc] at hF
      refine lv_aload_n (pc := 36) hx hb dX2_quotaLeft_36 rfl (lv_at hl 1 rfl) ?_
      refine r_gR (pc := 37) CX P hF fl_X2_40 dX2_quotaLeft_37 (fun a8 hF => ?_)
      refine r_gR (pc := 40) CX P hF fl_X2_59 dX2_quotaLeft_40 (fun a9 hF => ?_)
      refine lv_iload_n (pc := 43) hx hb dX2_quotaLeft_43 rfl (lv_at hl 2 rfl) ?_
      refine r_aI (pc := 44) CX P hF dX2_quotaLeft_44 (fun v10 hF => ?_)
      exact hJ7 _ _ _ _ P (lv_sub hl [0] rfl) (Option.some.inj hF)
    · rw [if_pos hc] at hF
      refine lv_iconst (pc := 32) (v := 0) hx hb dX2_quotaLeft_32 (by decide) ?_
      refine lv_goto (pc := 33) (tgt := 45) hx hb dX2_quotaLeft_33 (by decide) ?_
      exact hJ7 _ _ _ _ P (lv_sub hl [0] rfl) (Option.some.inj hF)
  · rw [if_pos hc] at hF
    refine lv_sipush (pc := 19) (v := 15984) hx hb dX2_quotaLeft_19 (by decide) ?_
    cases hF
    exact hret _ _ _ _ P rfl dX2_quotaLeft_22
