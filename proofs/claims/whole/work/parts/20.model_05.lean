def F_X10_makesRoom_L14 (a6 : Nat) (v7 : Int32) (v8 : Int32) (v9 : Int32) (v10 : Int32) (h11 : Hp) : Option ((Int32 × Int32 × Hp) ⊕ ((Int32 × Hp) ⊕ (Int32 × Hp))) :=
if v10 = (-1) then (
some (.inr (.inr (v9, h11)))) else (
(cO h11 a6 10 (F_X10_of h11 a6 v10 13 1)).bind (un fun v12 h13 =>
(cO h13 a6 10 (F_X10_totalOf h13 a6 v10)).bind (un fun v14 h15 =>
(cO h15 a6 10 (F_X10_of h15 a6 v10 3 0)).bind (un fun v16 h17 =>
(cO h17 a6 10 (F_X10_takes h17 a6 v10 ((v14 + v8) - v16))).bind (un fun v18 h19 =>
(if v9 = 0 then (
some (1 : Int32)) else (
some (v9 : Int32))).bind fun v21 =>
(cO h19 a6 10 (F_X10_totalOf h19 a6 v10)).bind (un fun v22 h23 =>
(cO h23 a6 10 (F_X10_of h23 a6 v10 3 0)).bind (un fun v24 h25 =>
bl (fun (v30 : Int32) (h31 : Hp) =>
(cO h31 a6 10 (F_X10_groupOf h31 a6 v7)).bind (un fun v32 h33 =>
(cO h33 a6 10 (F_X10_firstAbove h33 a6 v32 v8)).bind (un fun v34 h35 =>
some (.inl (v30, v34, h35))))) fun k26 =>
if v24 < (v22 + v8) then (
(cO h25 a6 10 (F_X10_deathBelow h25 a6 v10)).bind (un fun v27 h28 =>
if v27 = 0 then (
some (.inr (.inl ((-4), h28)))) else (
(F_X10_has h28 v27 v7).bind fun v29 =>
if v29 = 0 then (
k26 (2 : Int32) h28) else (
some (.inr (.inl (3, h28))))))) else (
k26 (v21 : Int32) h25))))))))
def F_X10_makesRoom (h : Hp) (a0 : Nat) (vp1 : Int32) (vp2 : Int32) : Option (Int32 × Hp) :=
(cO h a0 10 (F_X10_groupOf h a0 vp1)).bind (un fun v1 h2 =>
(cO h2 a0 10 (F_X10_firstAbove h2 a0 v1 vp2)).bind (un fun v3 h4 =>
(loopF (fun x => F_X10_makesRoom_L14 a0 vp1 vp2 x.1 x.2.1 x.2.2) 6000 (0, v3, h4)).bind (sE (fun x => some x) (fun q5 =>
bl q5.1 fun v36 =>
bl q5.2 fun h37 =>
some (v36, h37)))))
set_option maxRecDepth 100000 in
set_option maxHeartbeats 4000000 in
theorem c_X10_makesRoom (l : Launch) (G : GG) (B : Nat) (h : Hp) (a0 : Nat) (vp1 : Int32) (vp2 : Int32) (r0 : Int32) (hr : Hp) (hF : F_X10_makesRoom h a0 vp1 vp2 = some (r0, hr)) : CI l yX10_makesRoom cX10_makesRoom 7 .int 8 191 0 0 G B h [.ref (B + a0), .int vp1, .int vp2] r0 hr := by
  refine ent_i rfl (Nat.le_of_ble_eq_true rfl) ?_
  intro p e s m args below meth c ls Q CX hnm hret P hl
  have CX : Cxt p m c cX10_makesRoom 7 s args RX10 G B := CX
  obtain ⟨⟨hx, hb, hml, hown, hts⟩, -, -⟩ := id CX
  replace hl : lv_has ls 7 [(0, .ref (B + a0)), (1, .int vp1), (2, .int vp2)] := hl
  generalize s.heap = H at P ⊢
  generalize ([] : List Loc) = locs at P ⊢
  unfold F_X10_makesRoom at hF
  refine lv_iconst (pc := 0) (v := 0) hx hb dX10_makesRoom_0 (by decide) ?_
  refine lv_istore_n (pc := 1) hx hb dX10_makesRoom_1 rfl hl (by decide) rfl (fun ls hl => ?_)
  replace hl : lv_has ls 7 [(3, .int 0), (0, .ref (B + a0)), (1, .int vp1), (2, .int vp2)] := hl
  refine lv_aload_n (pc := 2) hx hb dX10_makesRoom_2 rfl (lv_at hl 1 rfl) ?_
  refine lv_aload_n (pc := 3) hx hb dX10_makesRoom_3 rfl (lv_at hl 1 rfl) ?_
  refine lv_iload_n (pc := 4) hx hb dX10_makesRoom_4 rfl (lv_at hl 2 rfl) ?_
  refine r_cVi (pc := 5) (As := [.int vp1]) (rest := [.ref (B + a0)]) CX P hl.1 hF kv_X10_120 (fun r h1 q => c_X10_groupOf l G B _ _ _ _ _ q) rfl rfl ⟨Nat.le_of_ble_eq_true rfl, Nat.le_of_ble_eq_true rfl⟩ (Nat.le_of_ble_eq_true rfl) ⟨Nat.le_of_ble_eq_true rfl, Nat.le_of_ble_eq_true rfl⟩ dX10_makesRoom_5 (fun v1 h2 H locs P hF => ?_)
  replace hF := un_i hF
  refine lv_iload_n (pc := 8) hx hb dX10_makesRoom_8 rfl (lv_at hl 3 rfl) ?_
  refine r_cVi (pc := 9) (As := [.int v1, .int vp2]) (rest := []) CX P hl.1 hF kv_X10_187 (fun r h1 q => c_X10_firstAbove l G B _ _ _ _ _ _ q) rfl rfl ⟨Nat.le_of_ble_eq_true rfl, Nat.le_of_ble_eq_true rfl⟩ (Nat.le_of_ble_eq_true rfl) ⟨Nat.le_of_ble_eq_true rfl, Nat.le_of_ble_eq_true rfl⟩ dX10_makesRoom_9 (fun v3 h4 H locs P hF => ?_)
  replace hF := un_i hF
  refine lv_istore (pc := 12) hx hb dX10_makesRoom_12 hl (by decide) rfl (fun ls hl => ?_)
  replace hl : lv_has ls 7 [(4, .int v3), (3, .int 0), (0, .ref (B + a0)), (1, .int vp1), (2, .int vp2)] := hl
  obtain ⟨r5, hLp5, hK5⟩ := bd_some hF
  have hX5 : ∀ (v36 : Int32) (h37 : Hp) (H : Heap) (locs : List Loc) (ls : Array Slot), Pic G B h37 s H locs → lv_has ls 7 [(3, .int v36)] → .inr (v36, h37) = r5 → W p l e (rmM 8 191 0 0) s m args below meth c H locs 0 0 Q (F0 m 131 ls []) := by
    intro v36 h37 H locs ls P hl er
    subst er
    have hF := sE_ri hK5
    replace hF := bl_i hF
    replace hF := bl_i hF
    try dsimp only at hF
    refine lv_iload_n (pc := 131) hx hb dX10_makesRoom_131 rfl (lv_at hl 0 rfl) ?_
    cases hF
    exact hret _ _ _ _ P rfl dX10_makesRoom_132
  have hL5 : ∀ (n : Nat) (v9 : Int32) (v10 : Int32) (h11 : Hp) (H : Heap) (locs : List Loc) (ls : Array Slot), Pic G B h11 s H locs → lv_has ls 7 [(0, .ref (B + a0)), (1, .int vp1), (2, .int vp2), (3, .int v9), (4, .int v10)] → loopF (fun x => F_X10_makesRoom_L14 a0 vp1 vp2 x.1 x.2.1 x.2.2) n (v9, v10, h11) = some r5 → W p l e (rmM 8 191 0 0) s m args below meth c H locs 0 0 Q (F0 m 14 ls []) := by
    intro n
    induction n with
    | zero => intro v9 v10 h11 H locs ls P hl hq; cases hq
    | succ n ih =>
      intro v9 v10 h11 H locs ls P hl hq
      obtain ⟨z5, hS5, hI5, hR5⟩ := loop_some hq
      have hF : F_X10_makesRoom_L14 a0 vp1 vp2 v9 v10 h11 = some z5 := hS5
      unfold F_X10_makesRoom_L14 at hF
      refine lv_iload (pc := 14) hx hb dX10_makesRoom_14 (lv_at hl 4 rfl) ?_
      refine lv_iconst (pc := 16) (v := (-1)) hx hb dX10_makesRoom_16 (by decide) ?_
      refine lv_icmp_eq (pc := 17) (tgt := 131) hx hb dX10_makesRoom_17 (by decide) (fun hc => ?_) (fun hc => ?_)
      · rw [if_pos hc] at hF
        exact hX5 _ _ _ _ _ P (lv_sub hl [3] rfl) (hR5 _ (Option.some.inj hF).symm)
      · rw [if_neg hc] at hF
        refine lv_aload_n (pc := 20) hx hb dX10_makesRoom_20 rfl (lv_at hl 0 rfl) ?_
        refine lv_iload (pc := 21) hx hb dX10_makesRoom_21 (lv_at hl 4 rfl) ?_
        refine lv_bipush (pc := 23) (v := 13) hx hb dX10_makesRoom_23 (by decide) ?_
        refine lv_iconst (pc := 25) (v := 1) hx hb dX10_makesRoom_25 (by decide) ?_
        refine r_cVi (pc := 26) (As := [.int v10, .int 13, .int 1]) (rest := []) CX P hl.1 hF kv_X10_99 (fun r h1 q => c_X10_of l G B _ _ _ _ _ _ _ q) rfl rfl ⟨Nat.le_of_ble_eq_true rfl, Nat.le_of_ble_eq_true rfl⟩ (Nat.le_of_ble_eq_true rfl) ⟨Nat.le_of_ble_eq_true rfl, Nat.le_of_ble_eq_true rfl⟩ dX10_makesRoom_26 (fun v12 h13 H locs P hF => ?_)
        replace hF := un_i hF
        refine lv_pop (pc := 29) hx hb dX10_makesRoom_29 rfl ?_
        refine lv_aload_n (pc := 30) hx hb dX10_makesRoom_30 rfl (lv_at hl 0 rfl) ?_
        refine lv_iload (pc := 31) hx hb dX10_makesRoom_31 (lv_at hl 4 rfl) ?_
        refine lv_aload_n (pc := 33) hx hb dX10_makesRoom_33 rfl (lv_at hl 0 rfl) ?_
        refine lv_iload (pc := 34) hx hb dX10_makesRoom_34 (lv_at hl 4 rfl) ?_
        refine r_cVi (pc := 36) (As := [.int v10]) (rest := [.int v10, .ref (B + a0)]) CX P hl.1 hF kv_X10_184 (fun r h1 q => c_X10_totalOf l G B _ _ _ _ _ q) rfl rfl ⟨Nat.le_of_ble_eq_true rfl, Nat.le_of_ble_eq_true rfl⟩ (Nat.le_of_ble_eq_true rfl) ⟨Nat.le_of_ble_eq_true rfl, Nat.le_of_ble_eq_true rfl⟩ dX10_makesRoom_36 (fun v14 h15 H locs P hF => ?_)
        replace hF := un_i hF
        refine lv_iload_n (pc := 39) hx hb dX10_makesRoom_39 rfl (lv_at hl 2 rfl) ?_
        refine lv_iadd (pc := 40) hx hb dX10_makesRoom_40 ?_
        refine lv_aload_n (pc := 41) hx hb dX10_makesRoom_41 rfl (lv_at hl 0 rfl) ?_
        refine lv_iload (pc := 42) hx hb dX10_makesRoom_42 (lv_at hl 4 rfl) ?_
        refine lv_iconst (pc := 44) (v := 3) hx hb dX10_makesRoom_44 (by decide) ?_
        refine lv_iconst (pc := 45) (v := 0) hx hb dX10_makesRoom_45 (by decide) ?_
        refine r_cVi (pc := 46) (As := [.int v10, .int 3, .int 0]) (rest := [.int (v14 + vp2), .int v10, .ref (B + a0)]) CX P hl.1 hF kv_X10_99 (fun r h1 q => c_X10_of l G B _ _ _ _ _ _ _ q) rfl rfl ⟨Nat.le_of_ble_eq_true rfl, Nat.le_of_ble_eq_true rfl⟩ (Nat.le_of_ble_eq_true rfl) ⟨Nat.le_of_ble_eq_true rfl, Nat.le_of_ble_eq_true rfl⟩ dX10_makesRoom_46 (fun v16 h17 H locs P hF => ?_)
        replace hF := un_i hF
        refine lv_isub (pc := 49) hx hb dX10_makesRoom_49 ?_
        refine r_cVi (pc := 50) (As := [.int v10, .int ((v14 + vp2) - v16)]) (rest := []) CX P hl.1 hF kv_X10_190 (fun r h1 q => c_X10_takes l G B _ _ _ _ _ _ q) rfl rfl ⟨Nat.le_of_ble_eq_true rfl, Nat.le_of_ble_eq_true rfl⟩ (Nat.le_of_ble_eq_true rfl) ⟨Nat.le_of_ble_eq_true rfl, Nat.le_of_ble_eq_true rfl⟩ dX10_makesRoom_50 (fun v18 h19 H locs P hF => ?_)
        replace hF := un_i hF
        refine lv_istore (pc := 53) hx hb dX10_makesRoom_53 hl (by decide) rfl (fun ls hl => ?_)
        replace hl : lv_has ls 7 [(5, .int v18), (0, .ref (B + a0)), (1, .int vp1), (2, .int vp2), (3, .int v9), (4, .int v10)] := hl
        refine lv_iload_n (pc := 55) hx hb dX10_makesRoom_55 rfl (lv_at hl 4 rfl) ?_
        obtain ⟨j20, hA20, hK20⟩ := bd_some hF
        have hJ20 : ∀ (v21 : Int32) (H : Heap) (locs : List Loc) (ls : Array Slot), Pic G B h19 s H locs → lv_has ls 7 [(0, .ref (B + a0)), (1, .int vp1), (2, .int vp2), (4, .int v10)] → v21 = j20 → W p l e (rmM 8 191 0 0) s m args below meth c H locs 0 0 Q (F0 m 64 ls [.int v21]) := by
          intro v21 H locs ls P hl ej
          subst ej
          have hF := hK20
          refine lv_istore_n (pc := 64) hx hb dX10_makesRoom_64 rfl hl (by decide) rfl (fun ls hl => ?_)
          replace hl : lv_has ls 7 [(3, .int v21), (0, .ref (B + a0)), (1, .int vp1), (2, .int vp2), (4, .int v10)] := hl
          refine lv_aload_n (pc := 65) hx hb dX10_makesRoom_65 rfl (lv_at hl 1 rfl) ?_
          refine lv_iload (pc := 66) hx hb dX10_makesRoom_66 (lv_at hl 4 rfl) ?_
          refine r_cVi (pc := 68) (As := [.int v10]) (rest := []) CX P hl.1 hF kv_X10_184 (fun r h1 q => c_X10_totalOf l G B _ _ _ _ _ q) rfl rfl ⟨Nat.le_of_ble_eq_true rfl, Nat.le_of_ble_eq_true rfl⟩ (Nat.le_of_ble_eq_true rfl) ⟨Nat.le_of_ble_eq_true rfl, Nat.le_of_ble_eq_true rfl⟩ dX10_makesRoom_68 (fun v22 h23 H locs P hF => ?_)
          replace hF := un_i hF
          refine lv_iload_n (pc := 71) hx hb dX10_makesRoom_71 rfl (lv_at hl 3 rfl) ?_
          refine lv_iadd (pc := 72) hx hb dX10_makesRoom_72 ?_
          refine lv_aload_n (pc := 73) hx hb dX10_makesRoom_73 rfl (lv_at hl 1 rfl) ?_
          refine lv_iload (pc := 74) hx hb dX10_makesRoom_74 (lv_at hl 4 rfl) ?_
          refine lv_iconst (pc := 76) (v := 3) hx hb dX10_makesRoom_76 (by decide) ?_
          refine lv_iconst (pc := 77) (v := 0) hx hb dX10_makesRoom_77 (by decide) ?_
          refine r_cVi (pc := 78) (As := [.int v10, .int 3, .int 0]) (rest := [.int (v22 + vp2)]) CX P hl.1 hF kv_X10_99 (fun r h1 q => c_X10_of l G B _ _ _ _ _ _ _ q) rfl rfl ⟨Nat.le_of_ble_eq_true rfl, Nat.le_of_ble_eq_true rfl⟩ (Nat.le_of_ble_eq_true rfl) ⟨Nat.le_of_ble_eq_true rfl, Nat.le_of_ble_eq_true rfl⟩ dX10_makesRoom_78 (fun v24 h25 H locs P hF => ?_)
          replace hF := un_i hF
          obtain ⟨k26, ek26, hF⟩ := bl_o hF
          have hJ26 : ∀ (v30 : Int32) (h31 : Hp) (H : Heap) (locs : List Loc) (ls : Array Slot), Pic G B h31 s H locs → lv_has ls 7 [(0, .ref (B + a0)), (1, .int vp1), (2, .int vp2), (3, .int v30)] → k26 v30 h31 = some z5 → W p l e (rmM 8 191 0 0) s m args below meth c H locs 0 0 Q (F0 m 116 ls []) := by
            intro v30 h31 H locs ls P hl hF
            rw [← ek26] at hF
            try dsimp only at hF
            refine lv_aload_n (pc := 116) hx hb dX10_makesRoom_116 rfl (lv_at hl 0 rfl) ?_
            refine lv_aload_n (pc := 117) hx hb dX10_makesRoom_117 rfl (lv_at hl 0 rfl) ?_
            refine lv_iload_n (pc := 118) hx hb dX10_makesRoom_118 rfl (lv_at hl 1 rfl) ?_
            refine r_cVi (pc := 119) (As := [.int vp1]) (rest := [.ref (B + a0)]) CX P hl.1 hF kv_X10_120 (fun r h1 q => c_X10_groupOf l G B _ _ _ _ _ q) rfl rfl ⟨Nat.le_of_ble_eq_true rfl, Nat.le_of_ble_eq_true rfl⟩ (Nat.le_of_ble_eq_true rfl) ⟨Nat.le_of_ble_eq_true rfl, Nat.le_of_ble_eq_true rfl⟩ dX10_makesRoom_119 (fun v32 h33 H locs P hF => ?_)
            replace hF := un_i hF
            refine lv_iload_n (pc := 122) hx hb dX10_makesRoom_122 rfl (lv_at hl 2 rfl) ?_
            refine r_cVi (pc := 123) (As := [.int v32, .int vp2]) (rest := []) CX P hl.1 hF kv_X10_187 (fun r h1 q => c_X10_firstAbove l G B _ _ _ _ _ _ q) rfl rfl ⟨Nat.le_of_ble_eq_true rfl, Nat.le_of_ble_eq_true rfl⟩ (Nat.le_of_ble_eq_true rfl) ⟨Nat.le_of_ble_eq_true rfl, Nat.le_of_ble_eq_true rfl⟩ dX10_makesRoom_123 (fun v34 h35 H locs P hF => ?_)
            replace hF := un_i hF
            refine lv_istore (pc := 126) hx hb dX10_makesRoom_126 hl (by decide) rfl (fun ls hl => ?_)
            replace hl : lv_has ls 7 [(4, .int v34), (0, .ref (B + a0)), (1, .int vp1), (2, .int vp2), (3, .int v30)] := hl
            refine lv_goto (pc := 128) (tgt := 14) hx hb dX10_makesRoom_128 (by decide) ?_
            exact ih _ _ _ _ _ _ P (lv_sub hl [1, 2, 3, 4, 0] rfl) (hI5 _ (Option.some.inj hF).symm)
          refine lv_icmp_gt (pc := 81) (tgt := 87) hx hb dX10_makesRoom_81 (by decide) (fun hc => ?_) (fun hc => ?_)
          · rw [if_pos hc] at hF
            refine lv_aload_n (pc := 87) hx hb dX10_makesRoom_87 rfl (lv_at hl 1 rfl) ?_
            refine lv_iload (pc := 88) hx hb dX10_makesRoom_88 (lv_at hl 4 rfl) ?_
            refine r_cVi (pc := 90) (As := [.int v10]) (rest := []) CX P hl.1 hF kv_X10_193 (fun r h1 q => c_X10_deathBelow l G B _ _ _ _ _ q) rfl rfl ⟨Nat.le_of_ble_eq_true rfl, Nat.le_of_ble_eq_true rfl⟩ (Nat.le_of_ble_eq_true rfl) ⟨Nat.le_of_ble_eq_true rfl, Nat.le_of_ble_eq_true rfl⟩ dX10_makesRoom_90 (fun v27 h28 H locs P hF => ?_)
            replace hF := un_i hF
            refine lv_istore (pc := 93) hx hb dX10_makesRoom_93 hl (by decide) rfl (fun ls hl => ?_)
            replace hl : lv_has ls 7 [(6, .int v27), (3, .int v21), (0, .ref (B + a0)), (1, .int vp1), (2, .int vp2), (4, .int v10)] := hl
            refine lv_iload (pc := 95) hx hb dX10_makesRoom_95 (lv_at hl 0 rfl) ?_
            refine lv_if_ne (pc := 97) (tgt := 103) hx hb dX10_makesRoom_97 (by decide) (fun hc => ?_) (fun hc => ?_)
            · rw [if_neg hc] at hF
              refine lv_iload (pc := 103) hx hb dX10_makesRoom_103 (lv_at hl 0 rfl) ?_
              refine lv_iload_n (pc := 105) hx hb dX10_makesRoom_105 rfl (lv_at hl 3 rfl) ?_
              refine r_cSp (pc := 106) (As := [.int v27, .int vp1]) (rest := []) CX P hl.1 hF ks_X10_89 (fun r q => c_X10_has l G B _ _ _ _ q) rfl rfl ⟨Nat.le_of_ble_eq_true rfl, Nat.le_of_ble_eq_true rfl⟩ (Nat.le_of_ble_eq_true rfl) ⟨Nat.le_of_ble_eq_true rfl, Nat.le_of_ble_eq_true rfl⟩ dX10_makesRoom_106 (fun v29 H locs P hF => ?_)
              refine lv_if_eq (pc := 109) (tgt := 114) hx hb dX10_makesRoom_109 (by decide) (fun hc => ?_) (fun hc => ?_)
              · rw [if_pos hc] at hF
                refine lv_iconst (pc := 114) (v := 2) hx hb dX10_makesRoom_114 (by decide) ?_
                refine lv_istore_n (pc := 115) hx hb dX10_makesRoom_115 rfl hl (by decide) rfl (fun ls hl => ?_)
                replace hl : lv_has ls 7 [(3, .int 2), (6, .int v27), (0, .ref (B + a0)), (1, .int vp1), (2, .int vp2), (4, .int v10)] := hl
                exact hJ26 _ _ _ _ _ P (lv_sub hl [2, 3, 4, 0] rfl) hF
              · rw [if_neg hc] at hF
                refine lv_iconst (pc := 112) (v := 3) hx hb dX10_makesRoom_112 (by decide) ?_
                have hE := hR5 _ (Option.some.inj hF).symm
                subst hE
                replace hF := sE_li hK5
                cases hF
                exact hret _ _ _ _ P rfl dX10_makesRoom_113
            · rw [if_pos hc] at hF
              refine lv_bipush (pc := 100) (v := (-4)) hx hb dX10_makesRoom_100 (by decide) ?_
              have hE := hR5 _ (Option.some.inj hF).symm
              subst hE
              replace hF := sE_li hK5
              cases hF
              exact hret _ _ _ _ P rfl dX10_makesRoom_102
          · rw [if_neg hc] at hF
            refine lv_goto (pc := 84) (tgt := 116) hx hb dX10_makesRoom_84 (by decide) ?_
            exact hJ26 _ _ _ _ _ P (lv_sub hl [1, 2, 3, 0] rfl) hF
        replace hF := hA20
        refine lv_if_ne (pc := 56) (tgt := 63) hx hb dX10_makesRoom_56 (by decide) (fun hc => ?_) (fun hc => ?_)
        · rw [if_neg hc] at hF
          refine lv_iload_n (pc := 63) hx hb dX10_makesRoom_63 rfl (lv_at hl 4 rfl) ?_
          exact hJ20 _ _ _ _ P (lv_sub hl [1, 2, 3, 5] rfl) (Option.some.inj hF)
        · rw [if_pos hc] at hF
          refine lv_iconst (pc := 59) (v := 1) hx hb dX10_makesRoom_59 (by decide) ?_
          refine lv_goto (pc := 60) (tgt := 64) hx hb dX10_makesRoom_60 (by decide) ?_
          exact hJ20 _ _ _ _ P (lv_sub hl [1, 2, 3, 5] rfl) (Option.some.inj hF)
  exact hL5 _ _ _ _ _ _ _ P (lv_sub hl [2, 3, 4, 1, 0] rfl) hLp5
def F_X10_stallsMore (h : Hp) (a0 : Nat) (vp1 : Int32) (vp2 : Int32) : Option (Hp) :=
(cO h a0 10 (F_X10_ofProcess h a0 vp1 4 0)).bind (un fun v1 h2 =>
(dvI (vp2 + 3) 4).bind fun v3 =>
(F_X10_lesser h2 20 (v1 + v3)).bind fun v4 =>
(cO h2 a0 10 (F_X10_laysProcess h2 a0 vp1 4 v4)).bind fun h5 =>
some h5)
set_option maxRecDepth 100000 in
set_option maxHeartbeats 4000000 in
theorem c_X10_stallsMore (l : Launch) (G : GG) (B : Nat) (h : Hp) (a0 : Nat) (vp1 : Int32) (vp2 : Int32) (hr : Hp) (hF : F_X10_stallsMore h a0 vp1 vp2 = some hr) : CV l yX10_stallsMore cX10_stallsMore 3 1 23 0 0 G B h [.ref (B + a0), .int vp1, .int vp2] hr := by
  refine ent_v rfl (Nat.le_of_ble_eq_true rfl) ?_
  intro p e s m args below meth c ls Q CX hnm hret P hl
  have CX : Cxt p m c cX10_stallsMore 3 s args RX10 G B := CX
  obtain ⟨⟨hx, hb, hml, hown, hts⟩, -, -⟩ := id CX
  replace hl : lv_has ls 3 [(0, .ref (B + a0)), (1, .int vp1), (2, .int vp2)] := hl
  generalize s.heap = H at P ⊢
  generalize ([] : List Loc) = locs at P ⊢
  unfold F_X10_stallsMore at hF
  refine lv_aload_n (pc := 0) hx hb dX10_stallsMore_0 rfl (lv_at hl 0 rfl) ?_
  refine lv_iload_n (pc := 1) hx hb dX10_stallsMore_1 rfl (lv_at hl 1 rfl) ?_
  refine lv_iconst (pc := 2) (v := 4) hx hb dX10_stallsMore_2 (by decide) ?_
  refine lv_bipush (pc := 3) (v := 20) hx hb dX10_stallsMore_3 (by decide) ?_
  refine lv_aload_n (pc := 5) hx hb dX10_stallsMore_5 rfl (lv_at hl 0 rfl) ?_
  refine lv_iload_n (pc := 6) hx hb dX10_stallsMore_6 rfl (lv_at hl 1 rfl) ?_
  refine lv_iconst (pc := 7) (v := 4) hx hb dX10_stallsMore_7 (by decide) ?_
  refine lv_iconst (pc := 8) (v := 0) hx hb dX10_stallsMore_8 (by decide) ?_
  refine r_cVi (pc := 9) (As := [.int vp1, .int 4, .int 0]) (rest := [.int 20, .int 4, .int vp1, .ref (B + a0)]) CX P hl.1 hF kv_X10_114 (fun r h1 q => c_X10_ofProcess l G B _ _ _ _ _ _ _ q) rfl rfl ⟨Nat.le_of_ble_eq_true rfl, Nat.le_of_ble_eq_true rfl⟩ (Nat.le_of_ble_eq_true rfl) ⟨Nat.le_of_ble_eq_true rfl, Nat.le_of_ble_eq_true rfl⟩ dX10_stallsMore_9 (fun v1 h2 H locs P hF => ?_)
  replace hF := un_i hF
  refine lv_iload_n (pc := 12) hx hb dX10_stallsMore_12 rfl (lv_at hl 2 rfl) ?_
  refine lv_iconst (pc := 13) (v := 3) hx hb dX10_stallsMore_13 (by decide) ?_
  refine lv_iadd (pc := 14) hx hb dX10_stallsMore_14 ?_
  refine lv_iconst (pc := 15) (v := 4) hx hb dX10_stallsMore_15 (by decide) ?_
  refine r_dv (pc := 16) hx hb hF dX10_stallsMore_16 (fun v3 hF => ?_)
  refine lv_iadd (pc := 17) hx hb dX10_stallsMore_17 ?_
  refine r_cSp (pc := 18) (As := [.int 20, .int (v1 + v3)]) (rest := [.int 4, .int vp1, .ref (B + a0)]) CX P hl.1 hF ks_X10_137 (fun r q => c_X10_lesser l G B _ _ _ _ q) rfl rfl ⟨Nat.le_of_ble_eq_true rfl, Nat.le_of_ble_eq_true rfl⟩ (Nat.le_of_ble_eq_true rfl) ⟨Nat.le_of_ble_eq_true rfl, Nat.le_of_ble_eq_true rfl⟩ dX10_stallsMore_18 (fun v4 H locs P hF => ?_)
  refine r_cVv (pc := 21) (As := [.int vp1, .int 4, .int v4]) (rest := []) CX P hl.1 hF kv_X10_174 (fun h1 q => c_X10_laysProcess l G B _ _ _ _ _ _ q) rfl rfl ⟨Nat.le_of_ble_eq_true rfl, Nat.le_of_ble_eq_true rfl⟩ (Nat.le_of_ble_eq_true rfl) ⟨Nat.le_of_ble_eq_true rfl, Nat.le_of_ble_eq_true rfl⟩ dX10_stallsMore_21 (fun h5 H locs P hF => ?_)
  cases hF
  exact hret _ _ _ _ P dX10_stallsMore_24
def F_X10_meetsHigh_L6 (a4 : Nat) (v5 : Int32) (v6 : Int32) (h7 : Hp) : Option ((Int32 × Hp) ⊕ (Hp)) :=
if v6 = (-1) then (
some (.inr h7)) else (
(cO h7 a4 10 (F_X10_totalOf h7 a4 v6)).bind (un fun v8 h9 =>
(cO h9 a4 10 (F_X10_of h9 a4 v6 2 0)).bind (un fun v10 h11 =>
bl (v8 - v10) fun v12 =>
(if 0 < v12 then (
(cO h11 a4 10 (F_X10_of h11 a4 v6 12 1)).bind (un fun v14 h15 =>
(cO h15 a4 10 (F_X10_takes h15 a4 v6 v12)).bind (un fun v16 h17 =>
(cO h17 a4 10 (F_X10_totalOf h17 a4 v6)).bind (un fun v18 h19 =>
(cO h19 a4 10 (F_X10_of h19 a4 v6 2 0)).bind (un fun v20 h21 =>
bl (v18 - v20) fun v22 =>
if v22 ≤ 0 then (
some h21) else (
(cO h21 a4 10 (F_X10_stallsMore h21 a4 v5 v22)).bind fun h23 =>
some h23)))))) else (
some h11)).bind fun h24 =>
(cO h24 a4 10 (F_X10_parentOf h24 a4 v6)).bind (un fun v25 h26 =>
some (.inl (v25, h26))))))
def F_X10_meetsHigh (h : Hp) (a0 : Nat) (vp1 : Int32) : Option (Hp) :=
(cO h a0 10 (F_X10_groupOf h a0 vp1)).bind (un fun v1 h2 =>
(loopF (fun x => F_X10_meetsHigh_L6 a0 vp1 x.1 x.2) 6000 (v1, h2)).bind fun h27 =>
some h27)
set_option maxRecDepth 100000 in
set_option maxHeartbeats 4000000 in
theorem c_X10_meetsHigh (l : Launch) (G : GG) (B : Nat) (h : Hp) (a0 : Nat) (vp1 : Int32) (hr : Hp) (hF : F_X10_meetsHigh h a0 vp1 = some hr) : CV l yX10_meetsHigh cX10_meetsHigh 5 8 191 0 0 G B h [.ref (B + a0), .int vp1] hr := by
  refine ent_v rfl (Nat.le_of_ble_eq_true rfl) ?_
  intro p e s m args below meth c ls Q CX hnm hret P hl
  have CX : Cxt p m c cX10_meetsHigh 5 s args RX10 G B := CX
  obtain ⟨⟨hx, hb, hml, hown, hts⟩, -, -⟩ := id CX
  replace hl : lv_has ls 5 [(0, .ref (B + a0)), (1, .int vp1)] := hl
  generalize s.heap = H at P ⊢
  generalize ([] : List Loc) = locs at P ⊢
  unfold F_X10_meetsHigh at hF
  refine lv_aload_n (pc := 0) hx hb dX10_meetsHigh_0 rfl (lv_at hl 0 rfl) ?_
  refine lv_iload_n (pc := 1) hx hb dX10_meetsHigh_1 rfl (lv_at hl 1 rfl) ?_
  refine r_cVi (pc := 2) (As := [.int vp1]) (rest := []) CX P hl.1 hF kv_X10_120 (fun r h1 q => c_X10_groupOf l G B _ _ _ _ _ q) rfl rfl ⟨Nat.le_of_ble_eq_true rfl, Nat.le_of_ble_eq_true rfl⟩ (Nat.le_of_ble_eq_true rfl) ⟨Nat.le_of_ble_eq_true rfl, Nat.le_of_ble_eq_true rfl⟩ dX10_meetsHigh_2 (fun v1 h2 H locs P hF => ?_)
  replace hF := un_i hF
  refine lv_istore_n (pc := 5) hx hb dX10_meetsHigh_5 rfl hl (by decide) rfl (fun ls hl => ?_)
  replace hl : lv_has ls 5 [(2, .int v1), (0, .ref (B + a0)), (1, .int vp1)] := hl
  obtain ⟨r3, hLp3, hK3⟩ := bd_some hF
  have hX3 : ∀ (h27 : Hp) (H : Heap) (locs : List Loc) (ls : Array Slot), Pic G B h27 s H locs → lv_has ls 5 [] → h27 = r3 → W p l e (rmM 8 191 0 0) s m args below meth c H locs 0 0 Q (F0 m 82 ls []) := by
    intro h27 H locs ls P hl er
    subst er
    have hF := hK3
    cases hF
    exact hret _ _ _ _ P dX10_meetsHigh_82
  have hL3 : ∀ (n : Nat) (v6 : Int32) (h7 : Hp) (H : Heap) (locs : List Loc) (ls : Array Slot), Pic G B h7 s H locs → lv_has ls 5 [(0, .ref (B + a0)), (1, .int vp1), (2, .int v6)] → loopF (fun x => F_X10_meetsHigh_L6 a0 vp1 x.1 x.2) n (v6, h7) = some r3 → W p l e (rmM 8 191 0 0) s m args below meth c H locs 0 0 Q (F0 m 6 ls []) := by
    intro n
    induction n with
    | zero => intro v6 h7 H locs ls P hl hq; cases hq
    | succ n ih =>
      intro v6 h7 H locs ls P hl hq
      obtain ⟨z3, hS3, hI3, hR3⟩ := loop_some hq
      have hF : F_X10_meetsHigh_L6 a0 vp1 v6 h7 = some z3 := hS3
      unfold F_X10_meetsHigh_L6 at hF
      refine lv_iload_n (pc := 6) hx hb dX10_meetsHigh_6 rfl (lv_at hl 2 rfl) ?_
      refine lv_iconst (pc := 7) (v := (-1)) hx hb dX10_meetsHigh_7 (by decide) ?_
      refine lv_icmp_eq (pc := 8) (tgt := 82) hx hb dX10_meetsHigh_8 (by decide) (fun hc => ?_) (fun hc => ?_)
      · rw [if_pos hc] at hF
        exact hX3 _ _ _ _ P (lv_sub hl [] rfl) (hR3 _ (Option.some.inj hF).symm)
      · rw [if_neg hc] at hF
        refine lv_aload_n (pc := 11) hx hb dX10_meetsHigh_11 rfl (lv_at hl 0 rfl) ?_
        refine lv_iload_n (pc := 12) hx hb dX10_meetsHigh_12 rfl (lv_at hl 2 rfl) ?_
        refine r_cVi (pc := 13) (As := [.int v6]) (rest := []) CX P hl.1 hF kv_X10_184 (fun r h1 q => c_X10_totalOf l G B _ _ _ _ _ q) rfl rfl ⟨Nat.le_of_ble_eq_true rfl, Nat.le_of_ble_eq_true rfl⟩ (Nat.le_of_ble_eq_true rfl) ⟨Nat.le_of_ble_eq_true rfl, Nat.le_of_ble_eq_true rfl⟩ dX10_meetsHigh_13 (fun v8 h9 H locs P hF => ?_)
        replace hF := un_i hF
        refine lv_aload_n (pc := 16) hx hb dX10_meetsHigh_16 rfl (lv_at hl 0 rfl) ?_
        refine lv_iload_n (pc := 17) hx hb dX10_meetsHigh_17 rfl (lv_at hl 2 rfl) ?_
        refine lv_iconst (pc := 18) (v := 2) hx hb dX10_meetsHigh_18 (by decide) ?_
        refine lv_iconst (pc := 19) (v := 0) hx hb dX10_meetsHigh_19 (by decide) ?_
        refine r_cVi (pc := 20) (As := [.int v6, .int 2, .int 0]) (rest := [.int v8]) CX P hl.1 hF kv_X10_99 (fun r h1 q => c_X10_of l G B _ _ _ _ _ _ _ q) rfl rfl ⟨Nat.le_of_ble_eq_true rfl, Nat.le_of_ble_eq_true rfl⟩ (Nat.le_of_ble_eq_true rfl) ⟨Nat.le_of_ble_eq_true rfl, Nat.le_of_ble_eq_true rfl⟩ dX10_meetsHigh_20 (fun v10 h11 H locs P hF => ?_)
        replace hF := un_i hF
        refine lv_isub (pc := 23) hx hb dX10_meetsHigh_23 ?_
        refine lv_topi (fun v12 ev12 => ?_)
        replace hF := bl_e hF ev12
        refine lv_istore_n (pc := 24) hx hb dX10_meetsHigh_24 rfl hl (by decide) rfl (fun ls hl => ?_)
        replace hl : lv_has ls 5 [(3, .int v12), (0, .ref (B + a0)), (1, .int vp1), (2, .int v6)] := hl
        refine lv_iload_n (pc := 25) hx hb dX10_meetsHigh_25 rfl (lv_at hl 0 rfl) ?_
        obtain ⟨j13, hA13, hK13⟩ := bd_some hF
        have hJ13 : ∀ (h24 : Hp) (H : Heap) (locs : List Loc) (ls : Array Slot), Pic G B h24 s H locs → lv_has ls 5 [(0, .ref (B + a0)), (1, .int vp1), (2, .int v6)] → h24 = j13 → W p l e (rmM 8 191 0 0) s m args below meth c H locs 0 0 Q (F0 m 73 ls []) := by
          intro h24 H locs ls P hl ej
          subst ej
          have hF := hK13
          refine lv_aload_n (pc := 73) hx hb dX10_meetsHigh_73 rfl (lv_at hl 0 rfl) ?_
          refine lv_iload_n (pc := 74) hx hb dX10_meetsHigh_74 rfl (lv_at hl 2 rfl) ?_
          refine r_cVi (pc := 75) (As := [.int v6]) (rest := []) CX P hl.1 hF kv_X10_103 (fun r h1 q => c_X10_parentOf l G B _ _ _ _ _ q) rfl rfl ⟨Nat.le_of_ble_eq_true rfl, Nat.le_of_ble_eq_true rfl⟩ (Nat.le_of_ble_eq_true rfl) ⟨Nat.le_of_ble_eq_true rfl, Nat.le_of_ble_eq_true rfl⟩ dX10_meetsHigh_75 (fun v25 h26 H locs P hF => ?_)
          replace hF := un_i hF
          refine lv_istore_n (pc := 78) hx hb dX10_meetsHigh_78 rfl hl (by decide) rfl (fun ls hl => ?_)
          replace hl : lv_has ls 5 [(2, .int v25), (0, .ref (B + a0)), (1, .int vp1)] := hl
          refine lv_goto (pc := 79) (tgt := 6) hx hb dX10_meetsHigh_79 (by decide) ?_
          exact ih _ _ _ _ _ P (lv_sub hl [1, 2, 0] rfl) (hI3 _ (Option.some.inj hF).symm)
        replace hF := hA13
        refine lv_if_gt (pc := 26) (tgt := 32) hx hb dX10_meetsHigh_26 (by decide) (fun hc => ?_) (fun hc => ?_)
        · rw [if_pos hc] at hF
          refine lv_aload_n (pc := 32) hx hb dX10_meetsHigh_32 rfl (lv_at hl 1 rfl) ?_
          refine lv_iload_n (pc := 33) hx hb dX10_meetsHigh_33 rfl (lv_at hl 3 rfl) ?_
          refine lv_bipush (pc := 34) (v := 12) hx hb dX10_meetsHigh_34 (by decide) ?_
          refine lv_iconst (pc := 36) (v := 1) hx hb dX10_meetsHigh_36 (by decide) ?_
          refine r_cVi (pc := 37) (As := [.int v6, .int 12, .int 1]) (rest := []) CX P hl.1 hF kv_X10_99 (fun r h1 q => c_X10_of l G B _ _ _ _ _ _ _ q) rfl rfl ⟨Nat.le_of_ble_eq_true rfl, Nat.le_of_ble_eq_true rfl⟩ (Nat.le_of_ble_eq_true rfl) ⟨Nat.le_of_ble_eq_true rfl, Nat.le_of_ble_eq_true rfl⟩ dX10_meetsHigh_37 (fun v14 h15 H locs P hF => ?_)
          replace hF := un_i hF
          refine lv_pop (pc := 40) hx hb dX10_meetsHigh_40 rfl ?_
          refine lv_aload_n (pc := 41) hx hb dX10_meetsHigh_41 rfl (lv_at hl 1 rfl) ?_
          refine lv_iload_n (pc := 42) hx hb dX10_meetsHigh_42 rfl (lv_at hl 3 rfl) ?_
          refine lv_iload_n (pc := 43) hx hb dX10_meetsHigh_43 rfl (lv_at hl 0 rfl) ?_
          refine r_cVi (pc := 44) (As := [.int v6, .int v12]) (rest := []) CX P hl.1 hF kv_X10_190 (fun r h1 q => c_X10_takes l G B _ _ _ _ _ _ q) rfl rfl ⟨Nat.le_of_ble_eq_true rfl, Nat.le_of_ble_eq_true rfl⟩ (Nat.le_of_ble_eq_true rfl) ⟨Nat.le_of_ble_eq_true rfl, Nat.le_of_ble_eq_true rfl⟩ dX10_meetsHigh_44 (fun v16 h17 H locs P hF => ?_)
          replace hF := un_i hF
          refine lv_istore (pc := 47) hx hb dX10_meetsHigh_47 hl (by decide) rfl (fun ls hl => ?_)
          replace hl : lv_has ls 5 [(4, .int v16), (3, .int v12), (0, .ref (B + a0)), (1, .int vp1), (2, .int v6)] := hl
          refine lv_aload_n (pc := 49) hx hb dX10_meetsHigh_49 rfl (lv_at hl 2 rfl) ?_
          refine lv_iload_n (pc := 50) hx hb dX10_meetsHigh_50 rfl (lv_at hl 4 rfl) ?_
          refine r_cVi (pc := 51) (As := [.int v6]) (rest := []) CX P hl.1 hF kv_X10_184 (fun r h1 q => c_X10_totalOf l G B _ _ _ _ _ q) rfl rfl ⟨Nat.le_of_ble_eq_true rfl, Nat.le_of_ble_eq_true rfl⟩ (Nat.le_of_ble_eq_true rfl) ⟨Nat.le_of_ble_eq_true rfl, Nat.le_of_ble_eq_true rfl⟩ dX10_meetsHigh_51 (fun v18 h19 H locs P hF => ?_)
          replace hF := un_i hF
          refine lv_aload_n (pc := 54) hx hb dX10_meetsHigh_54 rfl (lv_at hl 2 rfl) ?_
          refine lv_iload_n (pc := 55) hx hb dX10_meetsHigh_55 rfl (lv_at hl 4 rfl) ?_
          refine lv_iconst (pc := 56) (v := 2) hx hb dX10_meetsHigh_56 (by decide) ?_
          refine lv_iconst (pc := 57) (v := 0) hx hb dX10_meetsHigh_57 (by decide) ?_
          refine r_cVi (pc := 58) (As := [.int v6, .int 2, .int 0]) (rest := [.int v18]) CX P hl.1 hF kv_X10_99 (fun r h1 q => c_X10_of l G B _ _ _ _ _ _ _ q) rfl rfl ⟨Nat.le_of_ble_eq_true rfl, Nat.le_of_ble_eq_true rfl⟩ (Nat.le_of_ble_eq_true rfl) ⟨Nat.le_of_ble_eq_true rfl, Nat.le_of_ble_eq_true rfl⟩ dX10_meetsHigh_58 (fun v20 h21 H locs P hF => ?_)
          replace hF := un_i hF
          refine lv_isub (pc := 61) hx hb dX10_meetsHigh_61 ?_
          refine lv_topi (fun v22 ev22 => ?_)
          replace hF := bl_e hF ev22
          refine lv_istore_n (pc := 62) hx hb dX10_meetsHigh_62 rfl hl (by decide) rfl (fun ls hl => ?_)
          replace hl : lv_has ls 5 [(3, .int v22), (4, .int v16), (0, .ref (B + a0)), (1, .int vp1), (2, .int v6)] := hl
          refine lv_iload_n (pc := 63) hx hb dX10_meetsHigh_63 rfl (lv_at hl 0 rfl) ?_
          refine lv_if_le (pc := 64) (tgt := 73) hx hb dX10_meetsHigh_64 (by decide) (fun hc => ?_) (fun hc => ?_)
          · rw [if_pos hc] at hF
            exact hJ13 _ _ _ _ P (lv_sub hl [2, 3, 4] rfl) (Option.some.inj hF)
          · rw [if_neg hc] at hF
            refine lv_aload_n (pc := 67) hx hb dX10_meetsHigh_67 rfl (lv_at hl 2 rfl) ?_
            refine lv_iload_n (pc := 68) hx hb dX10_meetsHigh_68 rfl (lv_at hl 3 rfl) ?_
            refine lv_iload_n (pc := 69) hx hb dX10_meetsHigh_69 rfl (lv_at hl 0 rfl) ?_
            refine r_cVv (pc := 70) (As := [.int vp1, .int v22]) (rest := []) CX P hl.1 hF kv_X10_196 (fun h1 q => c_X10_stallsMore l G B _ _ _ _ _ q) rfl rfl ⟨Nat.le_of_ble_eq_true rfl, Nat.le_of_ble_eq_true rfl⟩ (Nat.le_of_ble_eq_true rfl) ⟨Nat.le_of_ble_eq_true rfl, Nat.le_of_ble_eq_true rfl⟩ dX10_meetsHigh_70 (fun h23 H locs P hF => ?_)
            exact hJ13 _ _ _ _ P (lv_sub hl [2, 3, 4] rfl) (Option.some.inj hF)
        · rw [if_neg hc] at hF
          refine lv_goto (pc := 29) (tgt := 73) hx hb dX10_meetsHigh_29 (by decide) ?_
          exact hJ13 _ _ _ _ P (lv_sub hl [1, 2, 3] rfl) (Option.some.inj hF)
  exact hL3 _ _ _ _ _ _ P (lv_sub hl [1, 2, 0] rfl) hLp3
def F_X10_charges (h : Hp) (a0 : Nat) (vp1 : Int32) (vp2 : Int32) (vp3 : Int32) : Option (Int32 × Hp) :=
(cO h a0 10 (F_X10_groupOf h a0 vp1)).bind (un fun v1 h2 =>
(gR h2 a0 10 1).bind fun a3 =>
(aI h2 a3 3).bind fun v4 =>
(if vp3 ≤ v4 then (
(gR h2 a0 10 1).bind fun a6 =>
(aI h2 a6 3).bind fun v7 =>
some (v7 : Int32)) else (
some (vp3 : Int32))).bind fun v8 =>
(cO h2 a0 10 (F_X10_of h2 a0 v1 10 0)).bind (un fun v9 h10 =>
bl (fun (v20 : Int32) (h21 : Hp) =>
(cO h21 a0 10 (F_X10_ofProcess h21 a0 vp1 (2 + vp2) vp3)).bind (un fun v22 h23 =>
(cO h23 a0 10 (F_X10_meetsHigh h23 a0 vp1)).bind fun h24 =>
some (v20, h24))) fun k11 =>
if v9 < vp3 then (
(cO h10 a0 10 (F_X10_areWithin h10 a0 v1 v8)).bind (un fun v12 h13 =>
if v12 = 0 then (
(cO h13 a0 10 (F_X10_makesRoom h13 a0 vp1 vp3)).bind (un fun v14 h15 =>
if v14 = (-4) then (
some (v14, h15)) else (
if v14 = 3 then (
some (v14, h15)) else (
k11 (v14 : Int32) h15)))) else (
(cO h13 a0 10 (F_X10_of h13 a0 v1 10 (v8 - vp3))).bind (un fun v16 h17 =>
k11 (0 : Int32) h17)))) else (
(cO h10 a0 10 (F_X10_of h10 a0 v1 10 (-vp3))).bind (un fun v18 h19 =>
k11 (0 : Int32) h19))))
set_option maxRecDepth 100000 in
set_option maxHeartbeats 4000000 in
theorem c_X10_charges (l : Launch) (G : GG) (B : Nat) (h : Hp) (a0 : Nat) (vp1 : Int32) (vp2 : Int32) (vp3 : Int32) (r0 : Int32) (hr : Hp) (hF : F_X10_charges h a0 vp1 vp2 vp3 = some (r0, hr)) : CI l yX10_charges cX10_charges 7 .int 9 217 0 0 G B h [.ref (B + a0), .int vp1, .int vp2, .int vp3] r0 hr := by
  refine ent_i rfl (Nat.le_of_ble_eq_true rfl) ?_
  intro p e s m args below meth c ls Q CX hnm hret P hl
  have CX : Cxt p m c cX10_charges 7 s args RX10 G B := CX
  obtain ⟨⟨hx, hb, hml, hown, hts⟩, -, -⟩ := id CX
  replace hl : lv_has ls 7 [(0, .ref (B + a0)), (1, .int vp1), (2, .int vp2), (3, .int vp3)] := hl
  generalize s.heap = H at P ⊢
  generalize ([] : List Loc) = locs at P ⊢
  unfold F_X10_charges at hF
  refine lv_aload_n (pc := 0) hx hb dX10_charges_0 rfl (lv_at hl 0 rfl) ?_
  refine lv_iload_n (pc := 1) hx hb dX10_charges_1 rfl (lv_at hl 1 rfl) ?_
  refine r_cVi (pc := 2) (As := [.int vp1]) (rest := []) CX P hl.1 hF kv_X10_120 (fun r h1 q => c_X10_groupOf l G B _ _ _ _ _ q) rfl rfl ⟨Nat.le_of_ble_eq_true rfl, Nat.le_of_ble_eq_true rfl⟩ (Nat.le_of_ble_eq_true rfl) ⟨Nat.le_of_ble_eq_true rfl, Nat.le_of_ble_eq_true rfl⟩ dX10_charges_2 (fun v1 h2 H locs P hF => ?_)
  replace hF := un_i hF
  refine lv_istore (pc := 5) hx hb dX10_charges_5 hl (by decide) rfl (fun ls hl => ?_)
  replace hl : lv_has ls 7 [(4, .int v1), (0, .ref (B + a0)), (1, .int vp1), (2, .int vp2), (3, .int vp3)] := hl
  refine lv_iconst (pc := 7) (v := 0) hx hb dX10_charges_7 (by decide) ?_
  refine lv_istore (pc := 8) hx hb dX10_charges_8 hl (by decide) rfl (fun ls hl => ?_)
  replace hl : lv_has ls 7 [(5, .int 0), (4, .int v1), (0, .ref (B + a0)), (1, .int vp1), (2, .int vp2), (3, .int vp3)] := hl
  refine lv_iload_n (pc := 10) hx hb dX10_charges_10 rfl (lv_at hl 5 rfl) ?_
  refine lv_aload_n (pc := 11) hx hb dX10_charges_11 rfl (lv_at hl 2 rfl) ?_
  refine r_gR (pc := 12) CX P hF fl_X10_13 dX10_charges_12 (fun a3 hF => ?_)
  refine lv_iconst (pc := 15) (v := 3) hx hb dX10_charges_15 (by decide) ?_
  refine r_aI (pc := 16) CX P hF dX10_charges_16 (fun v4 hF => ?_)
  obtain ⟨j5, hA5, hK5⟩ := bd_some hF
  have hJ5 : ∀ (v8 : Int32) (H : Heap) (locs : List Loc) (ls : Array Slot), Pic G B h2 s H locs → lv_has ls 7 [(0, .ref (B + a0)), (1, .int vp1), (2, .int vp2), (3, .int vp3), (4, .int v1), (5, .int 0)] → v8 = j5 → W p l e (rmM 9 217 0 0) s m args below meth c H locs 0 0 Q (F0 m 30 ls [.int v8]) := by
    intro v8 H locs ls P hl ej
    subst ej
    have hF := hK5
    refine lv_istore (pc := 30) hx hb dX10_charges_30 hl (by decide) rfl (fun ls hl => ?_)
    replace hl : lv_has ls 7 [(6, .int v8), (0, .ref (B + a0)), (1, .int vp1), (2, .int vp2), (3, .int vp3), (4, .int v1), (5, .int 0)] := hl
    refine lv_aload_n (pc := 32) hx hb dX10_charges_32 rfl (lv_at hl 1 rfl) ?_
    refine lv_iload (pc := 33) hx hb dX10_charges_33 (lv_at hl 5 rfl) ?_
    refine lv_bipush (pc := 35) (v := 10) hx hb dX10_charges_35 (by decide) ?_
    refine lv_iconst (pc := 37) (v := 0) hx hb dX10_charges_37 (by decide) ?_
    refine r_cVi (pc := 38) (As := [.int v1, .int 10, .int 0]) (rest := []) CX P hl.1 hF kv_X10_99 (fun r h1 q => c_X10_of l G B _ _ _ _ _ _ _ q) rfl rfl ⟨Nat.le_of_ble_eq_true rfl, Nat.le_of_ble_eq_true rfl⟩ (Nat.le_of_ble_eq_true rfl) ⟨Nat.le_of_ble_eq_true rfl, Nat.le_of_ble_eq_true rfl⟩ dX10_charges_38 (fun v9 h10 H locs P hF => ?_)
    replace hF := un_i hF
    refine lv_iload_n (pc := 41) hx hb dX10_charges_41 rfl (lv_at hl 4 rfl) ?_
    obtain ⟨k11, ek11, hF⟩ := bl_o hF
    have hJ11 : ∀ (v20 : Int32) (h21 : Hp) (H : Heap) (locs : List Loc) (ls : Array Slot), Pic G B h21 s H locs → lv_has ls 7 [(0, .ref (B + a0)), (1, .int vp1), (2, .int vp2), (3, .int vp3), (5, .int v20)] → k11 v20 h21 = some (r0, hr) → W p l e (rmM 9 217 0 0) s m args below meth c H locs 0 0 Q (F0 m 110 ls []) := by
      intro v20 h21 H locs ls P hl hF
      rw [← ek11] at hF
      try dsimp only at hF
      refine lv_aload_n (pc := 110) hx hb dX10_charges_110 rfl (lv_at hl 0 rfl) ?_
      refine lv_iload_n (pc := 111) hx hb dX10_charges_111 rfl (lv_at hl 1 rfl) ?_
      refine lv_iconst (pc := 112) (v := 2) hx hb dX10_charges_112 (by decide) ?_
      refine lv_iload_n (pc := 113) hx hb dX10_charges_113 rfl (lv_at hl 2 rfl) ?_
      refine lv_iadd (pc := 114) hx hb dX10_charges_114 ?_
      refine lv_iload_n (pc := 115) hx hb dX10_charges_115 rfl (lv_at hl 3 rfl) ?_
      refine r_cVi (pc := 116) (As := [.int vp1, .int (2 + vp2), .int vp3]) (rest := []) CX P hl.1 hF kv_X10_114 (fun r h1 q => c_X10_ofProcess l G B _ _ _ _ _ _ _ q) rfl rfl ⟨Nat.le_of_ble_eq_true rfl, Nat.le_of_ble_eq_true rfl⟩ (Nat.le_of_ble_eq_true rfl) ⟨Nat.le_of_ble_eq_true rfl, Nat.le_of_ble_eq_true rfl⟩ dX10_charges_116 (fun v22 h23 H locs P hF => ?_)
      replace hF := un_i hF
      refine lv_pop (pc := 119) hx hb dX10_charges_119 rfl ?_
      refine lv_aload_n (pc := 120) hx hb dX10_charges_120 rfl (lv_at hl 0 rfl) ?_
      refine lv_iload_n (pc := 121) hx hb dX10_charges_121 rfl (lv_at hl 1 rfl) ?_
      refine r_cVv (pc := 122) (As := [.int vp1]) (rest := []) CX P hl.1 hF kv_X10_205 (fun h1 q => c_X10_meetsHigh l G B _ _ _ _ q) rfl rfl ⟨Nat.le_of_ble_eq_true rfl, Nat.le_of_ble_eq_true rfl⟩ (Nat.le_of_ble_eq_true rfl) ⟨Nat.le_of_ble_eq_true rfl, Nat.le_of_ble_eq_true rfl⟩ dX10_charges_122 (fun h24 H locs P hF => ?_)
      refine lv_iload (pc := 125) hx hb dX10_charges_125 (lv_at hl 4 rfl) ?_
      cases hF
      exact hret _ _ _ _ P rfl dX10_charges_127
    refine lv_icmp_lt (pc := 42) (tgt := 59) hx hb dX10_charges_42 (by decide) (fun hc => ?_) (fun hc => ?_)
    · rw [if_pos hc] at hF
      refine lv_aload_n (pc := 59) hx hb dX10_charges_59 rfl (lv_at hl 1 rfl) ?_
      refine lv_iload (pc := 60) hx hb dX10_charges_60 (lv_at hl 5 rfl) ?_
      refine lv_iload (pc := 62) hx hb dX10_charges_62 (lv_at hl 0 rfl) ?_
      refine r_cVi (pc := 64) (As := [.int v1, .int v8]) (rest := []) CX P hl.1 hF kv_X10_199 (fun r h1 q => c_X10_areWithin l G B _ _ _ _ _ _ q) rfl rfl ⟨Nat.le_of_ble_eq_true rfl, Nat.le_of_ble_eq_true rfl⟩ (Nat.le_of_ble_eq_true rfl) ⟨Nat.le_of_ble_eq_true rfl, Nat.le_of_ble_eq_true rfl⟩ dX10_charges_64 (fun v12 h13 H locs P hF => ?_)
      replace hF := un_i hF
      refine lv_if_eq (pc := 67) (tgt := 86) hx hb dX10_charges_67 (by decide) (fun hc => ?_) (fun hc => ?_)
      · rw [if_pos hc] at hF
        refine lv_aload_n (pc := 86) hx hb dX10_charges_86 rfl (lv_at hl 1 rfl) ?_
        refine lv_iload_n (pc := 87) hx hb dX10_charges_87 rfl (lv_at hl 2 rfl) ?_
        refine lv_iload_n (pc := 88) hx hb dX10_charges_88 rfl (lv_at hl 4 rfl) ?_
        refine r_cVi (pc := 89) (As := [.int vp1, .int vp3]) (rest := []) CX P hl.1 hF kv_X10_202 (fun r h1 q => c_X10_makesRoom l G B _ _ _ _ _ _ q) rfl rfl ⟨Nat.le_of_ble_eq_true rfl, Nat.le_of_ble_eq_true rfl⟩ (Nat.le_of_ble_eq_true rfl) ⟨Nat.le_of_ble_eq_true rfl, Nat.le_of_ble_eq_true rfl⟩ dX10_charges_89 (fun v14 h15 H locs P hF => ?_)
        replace hF := un_i hF
        refine lv_istore (pc := 92) hx hb dX10_charges_92 hl (by decide) rfl (fun ls hl => ?_)
        replace hl : lv_has ls 7 [(5, .int v14), (6, .int v8), (0, .ref (B + a0)), (1, .int vp1), (2, .int vp2), (3, .int vp3), (4, .int v1)] := hl
        refine lv_iload (pc := 94) hx hb dX10_charges_94 (lv_at hl 0 rfl) ?_
        refine lv_bipush (pc := 96) (v := (-4)) hx hb dX10_charges_96 (by decide) ?_
        refine lv_icmp_eq (pc := 98) (tgt := 107) hx hb dX10_charges_98 (by decide) (fun hc => ?_) (fun hc => ?_)
        · rw [if_pos hc] at hF
          refine lv_iload (pc := 107) hx hb dX10_charges_107 (lv_at hl 0 rfl) ?_
          cases hF
          exact hret _ _ _ _ P rfl dX10_charges_109
        · rw [if_neg hc] at hF
          refine lv_iload (pc := 101) hx hb dX10_charges_101 (lv_at hl 0 rfl) ?_
          refine lv_iconst (pc := 103) (v := 3) hx hb dX10_charges_103 (by decide) ?_
          refine lv_icmp_ne (pc := 104) (tgt := 110) hx hb dX10_charges_104 (by decide) (fun hc => ?_) (fun hc => ?_)
          · rw [if_neg hc] at hF
            exact hJ11 _ _ _ _ _ P (lv_sub hl [2, 3, 4, 5, 0] rfl) hF
          · rw [if_pos hc] at hF
            refine lv_iload (pc := 107) hx hb dX10_charges_107 (lv_at hl 0 rfl) ?_
            cases hF
            exact hret _ _ _ _ P rfl dX10_charges_109
      · rw [if_neg hc] at hF
        refine lv_aload_n (pc := 70) hx hb dX10_charges_70 rfl (lv_at hl 1 rfl) ?_
        refine lv_iload (pc := 71) hx hb dX10_charges_71 (lv_at hl 5 rfl) ?_
        refine lv_bipush (pc := 73) (v := 10) hx hb dX10_charges_73 (by decide) ?_
        refine lv_iload (pc := 75) hx hb dX10_charges_75 (lv_at hl 0 rfl) ?_
        refine lv_iload_n (pc := 77) hx hb dX10_charges_77 rfl (lv_at hl 4 rfl) ?_
        refine lv_isub (pc := 78) hx hb dX10_charges_78 ?_
        refine r_cVi (pc := 79) (As := [.int v1, .int 10, .int (v8 - vp3)]) (rest := []) CX P hl.1 hF kv_X10_99 (fun r h1 q => c_X10_of l G B _ _ _ _ _ _ _ q) rfl rfl ⟨Nat.le_of_ble_eq_true rfl, Nat.le_of_ble_eq_true rfl⟩ (Nat.le_of_ble_eq_true rfl) ⟨Nat.le_of_ble_eq_true rfl, Nat.le_of_ble_eq_true rfl⟩ dX10_charges_79 (fun v16 h17 H locs P hF => ?_)
        replace hF := un_i hF
        refine lv_pop (pc := 82) hx hb dX10_charges_82 rfl ?_
        refine lv_goto (pc := 83) (tgt := 110) hx hb dX10_charges_83 (by decide) ?_
        exact hJ11 _ _ _ _ _ P (lv_sub hl [1, 2, 3, 4, 6] rfl) hF
    · rw [if_neg hc] at hF
      refine lv_aload_n (pc := 45) hx hb dX10_charges_45 rfl (lv_at hl 1 rfl) ?_
      refine lv_iload (pc := 46) hx hb dX10_charges_46 (lv_at hl 5 rfl) ?_
      refine lv_bipush (pc := 48) (v := 10) hx hb dX10_charges_48 (by decide) ?_
      refine lv_iload_n (pc := 50) hx hb dX10_charges_50 rfl (lv_at hl 4 rfl) ?_
      refine lv_ineg (pc := 51) hx hb dX10_charges_51 ?_
      refine r_cVi (pc := 52) (As := [.int v1, .int 10, .int (-vp3)]) (rest := []) CX P hl.1 hF kv_X10_99 (fun r h1 q => c_X10_of l G B _ _ _ _ _ _ _ q) rfl rfl ⟨Nat.le_of_ble_eq_true rfl, Nat.le_of_ble_eq_true rfl⟩ (Nat.le_of_ble_eq_true rfl) ⟨Nat.le_of_ble_eq_true rfl, Nat.le_of_ble_eq_true rfl⟩ dX10_charges_52 (fun v18 h19 H locs P hF => ?_)
      replace hF := un_i hF
      refine lv_pop (pc := 55) hx hb dX10_charges_55 rfl ?_
      refine lv_goto (pc := 56) (tgt := 110) hx hb dX10_charges_56 (by decide) ?_
      exact hJ11 _ _ _ _ _ P (lv_sub hl [1, 2, 3, 4, 6] rfl) hF
  replace hF := hA5
  refine lv_icmp_le (pc := 17) (tgt := 24) hx hb dX10_charges_17 (by decide) (fun hc => ?_) (fun hc => ?_)
  · rw [if_pos hc] at hF
    refine lv_aload_n (pc := 24) hx hb dX10_charges_24 rfl (lv_at hl 2 rfl) ?_
    refine r_gR (pc := 25) CX P hF fl_X10_13 dX10_charges_25 (fun a6 hF => ?_)
    refine lv_iconst (pc := 28) (v := 3) hx hb dX10_charges_28 (by decide) ?_
    refine r_aI (pc := 29) CX P hF dX10_charges_29 (fun v7 hF => ?_)
    exact hJ5 _ _ _ _ P (lv_sub hl [2, 3, 4, 5, 1, 0] rfl) (Option.some.inj hF)
  · rw [if_neg hc] at hF
    refine lv_iload_n (pc := 20) hx hb dX10_charges_20 rfl (lv_at hl 5 rfl) ?_
    refine lv_goto (pc := 21) (tgt := 30) hx hb dX10_charges_21 (by decide) ?_
    exact hJ5 _ _ _ _ P (lv_sub hl [2, 3, 4, 5, 1, 0] rfl) (Option.some.inj hF)
def F_X10_group (h : Hp) (a0 : Nat) (vp1 : Int32) : Option (Int32 × Hp) :=
(pI h a0 10 0 0).bind fun h1 =>
(cO h1 a0 10 (F_X10_isGroup h1 a0 vp1)).bind fun v2 =>
if v2 = 0 then (
some ((-2), h1)) else (
(gR h1 a0 10 1).bind fun a3 =>
(aI h1 a3 0).bind fun v4 =>
(F_X10_freeIn h1 v4 12).bind fun v5 =>
if v5 = 12 then (
some ((-4), h1)) else (
(cO h1 a0 10 (F_X10_begins h1 a0)).bind fun h6 =>
(gR h6 a0 10 1).bind fun a7 =>
(aI h6 a7 0).bind fun v8 =>
(sI h6 a7 0 (v8 ||| (1 <<< (v5 &&& 31)))).bind fun h9 =>
(cO h9 a0 10 (F_X10_laysGroup h9 a0 v5 vp1)).bind fun h10 =>
(cO h10 a0 10 (F_X10_ends h10 a0 v5 1)).bind (un fun v11 h12 =>
some (v11, h12))))
set_option maxRecDepth 100000 in
set_option maxHeartbeats 4000000 in
theorem c_X10_group (l : Launch) (G : GG) (B : Nat) (h : Hp) (a0 : Nat) (vp1 : Int32) (r0 : Int32) (hr : Hp) (hF : F_X10_group h a0 vp1 = some (r0, hr)) : CI l yX10_group cX10_group 3 .int 3 67 0 0 G B h [.ref (B + a0), .int vp1] r0 hr := by
  refine ent_i rfl (Nat.le_of_ble_eq_true rfl) ?_
  intro p e s m args below meth c ls Q CX hnm hret P hl
  have CX : Cxt p m c cX10_group 3 s args RX10 G B := CX
  obtain ⟨⟨hx, hb, hml, hown, hts⟩, -, -⟩ := id CX
  replace hl : lv_has ls 3 [(0, .ref (B + a0)), (1, .int vp1)] := hl
  generalize s.heap = H at P ⊢
  generalize ([] : List Loc) = locs at P ⊢
  unfold F_X10_group at hF
  refine lv_aload_n (pc := 0) hx hb dX10_group_0 rfl (lv_at hl 0 rfl) ?_
  refine lv_iconst (pc := 1) (v := 0) hx hb dX10_group_1 (by decide) ?_
  refine r_pI (pc := 2) CX P hF fl_X10_1 dX10_group_2 (fun h1 H locs P hF => ?_)
  refine lv_aload_n (pc := 5) hx hb dX10_group_5 rfl (lv_at hl 0 rfl) ?_
  refine lv_iload_n (pc := 6) hx hb dX10_group_6 rfl (lv_at hl 1 rfl) ?_
  refine r_cVp (pc := 7) (As := [.int vp1]) (rest := []) CX P hl.1 hF kv_X10_107 (fun r q => c_X10_isGroup l G B _ _ _ _ q) rfl rfl ⟨Nat.le_of_ble_eq_true rfl, Nat.le_of_ble_eq_true rfl⟩ (Nat.le_of_ble_eq_true rfl) ⟨Nat.le_of_ble_eq_true rfl, Nat.le_of_ble_eq_true rfl⟩ dX10_group_7 (fun v2 H locs P hF => ?_)
  refine lv_if_ne (pc := 10) (tgt := 16) hx hb dX10_group_10 (by decide) (fun hc => ?_) (fun hc => ?_)
  · rw [if_neg hc] at hF
    refine lv_aload_n (pc := 16) hx hb dX10_group_16 rfl (lv_at hl 0 rfl) ?_
    refine r_gR (pc := 17) CX P hF fl_X10_13 dX10_group_17 (fun a3 hF => ?_)
    refine lv_iconst (pc := 20) (v := 0) hx hb dX10_group_20 (by decide) ?_
    refine r_aI (pc := 21) CX P hF dX10_group_21 (fun v4 hF => ?_)
    refine lv_bipush (pc := 22) (v := 12) hx hb dX10_group_22 (by decide) ?_
    refine r_cSp (pc := 24) (As := [.int v4, .int 12]) (rest := []) CX P hl.1 hF ks_X10_208 (fun r q => c_X10_freeIn l G B _ _ _ _ q) rfl rfl ⟨Nat.le_of_ble_eq_true rfl, Nat.le_of_ble_eq_true rfl⟩ (Nat.le_of_ble_eq_true rfl) ⟨Nat.le_of_ble_eq_true rfl, Nat.le_of_ble_eq_true rfl⟩ dX10_group_24 (fun v5 H locs P hF => ?_)
    refine lv_istore_n (pc := 27) hx hb dX10_group_27 rfl hl (by decide) rfl (fun ls hl => ?_)
    replace hl : lv_has ls 3 [(2, .int v5), (0, .ref (B + a0)), (1, .int vp1)] := hl
    refine lv_iload_n (pc := 28) hx hb dX10_group_28 rfl (lv_at hl 0 rfl) ?_
    refine lv_bipush (pc := 29) (v := 12) hx hb dX10_group_29 (by decide) ?_
    refine lv_icmp_ne (pc := 31) (tgt := 37) hx hb dX10_group_31 (by decide) (fun hc => ?_) (fun hc => ?_)
    · rw [if_neg hc] at hF
      refine lv_aload_n (pc := 37) hx hb dX10_group_37 rfl (lv_at hl 1 rfl) ?_
      refine r_cVv (pc := 38) (As := []) (rest := []) CX P hl.1 hF kv_X10_211 (fun h1 q => c_X10_begins l G B _ _ _ q) rfl rfl ⟨Nat.le_of_ble_eq_true rfl, Nat.le_of_ble_eq_true rfl⟩ (Nat.le_of_ble_eq_true rfl) ⟨Nat.le_of_ble_eq_true rfl, Nat.le_of_ble_eq_true rfl⟩ dX10_group_38 (fun h6 H locs P hF => ?_)
      refine lv_aload_n (pc := 41) hx hb dX10_group_41 rfl (lv_at hl 1 rfl) ?_
      refine r_gR (pc := 42) CX P hF fl_X10_13 dX10_group_42 (fun a7 hF => ?_)
      refine lv_iconst (pc := 45) (v := 0) hx hb dX10_group_45 (by decide) ?_
      refine lv_dup2_11 (pc := 46) hx hb dX10_group_46 rfl rfl ?_
      refine r_aI (pc := 47) CX P hF dX10_group_47 (fun v8 hF => ?_)
      refine lv_iconst (pc := 48) (v := 1) hx hb dX10_group_48 (by decide) ?_
      refine lv_iload_n (pc := 49) hx hb dX10_group_49 rfl (lv_at hl 0 rfl) ?_
      refine lv_ishl (pc := 50) hx hb dX10_group_50 ?_
      refine lv_ior (pc := 51) hx hb dX10_group_51 ?_
      refine r_sI (pc := 52) CX P hF dX10_group_52 (fun h9 H locs P hF => ?_)
      refine lv_aload_n (pc := 53) hx hb dX10_group_53 rfl (lv_at hl 1 rfl) ?_
      refine lv_iload_n (pc := 54) hx hb dX10_group_54 rfl (lv_at hl 0 rfl) ?_
      refine lv_iload_n (pc := 55) hx hb dX10_group_55 rfl (lv_at hl 2 rfl) ?_
      refine r_cVv (pc := 56) (As := [.int v5, .int vp1]) (rest := []) CX P hl.1 hF kv_X10_69 (fun h1 q => c_X10_laysGroup l G B _ _ _ _ _ q) rfl rfl ⟨Nat.le_of_ble_eq_true rfl, Nat.le_of_ble_eq_true rfl⟩ (Nat.le_of_ble_eq_true rfl) ⟨Nat.le_of_ble_eq_true rfl, Nat.le_of_ble_eq_true rfl⟩ dX10_group_56 (fun h10 H locs P hF => ?_)
      refine lv_aload_n (pc := 59) hx hb dX10_group_59 rfl (lv_at hl 1 rfl) ?_
      refine lv_iload_n (pc := 60) hx hb dX10_group_60 rfl (lv_at hl 0 rfl) ?_
      refine lv_iconst (pc := 61) (v := 1) hx hb dX10_group_61 (by decide) ?_
      refine r_cVi (pc := 62) (As := [.int v5, .int 1]) (rest := []) CX P hl.1 hF kv_X10_214 (fun r h1 q => c_X10_ends l G B _ _ _ _ _ _ q) rfl rfl ⟨Nat.le_of_ble_eq_true rfl, Nat.le_of_ble_eq_true rfl⟩ (Nat.le_of_ble_eq_true rfl) ⟨Nat.le_of_ble_eq_true rfl, Nat.le_of_ble_eq_true rfl⟩ dX10_group_62 (fun v11 h12 H locs P hF => ?_)
      replace hF := un_i hF
      cases hF
      exact hret _ _ _ _ P rfl dX10_group_65
    · rw [if_pos hc] at hF
      refine lv_bipush (pc := 34) (v := (-4)) hx hb dX10_group_34 (by decide) ?_
      cases hF
      exact hret _ _ _ _ P rfl dX10_group_36
  · rw [if_pos hc] at hF
    refine lv_bipush (pc := 13) (v := (-2)) hx hb dX10_group_13 (by decide) ?_
    cases hF
    exact hret _ _ _ _ P rfl dX10_group_15
def F_X10_isInUse_L2 (a2 : Nat) (v3 : Int32) (v4 : Int32) (h5 : Hp) : Option ((Int32 × Hp) ⊕ ((Int32 × Hp) ⊕ (Hp))) :=
if 12 ≤ v4 then (
some (.inr (.inr h5))) else (
(cO h5 a2 10 (F_X10_isGroup h5 a2 v4)).bind fun v6 =>
if v6 = 0 then (
bl (v4 + 1) fun v7 =>
some (.inl (v7, h5))) else (
(cO h5 a2 10 (F_X10_parentOf h5 a2 v4)).bind (un fun v8 h9 =>
if v8 = v3 then (
some (.inr (.inl (1, h9)))) else (
bl (v4 + 1) fun v10 =>
some (.inl (v10, h9))))))
def F_X10_isInUse_L35 (a13 : Nat) (v14 : Int32) (v15 : Int32) (h16 : Hp) : Option ((Int32 × Hp) ⊕ ((Int32 × Hp) ⊕ (Hp))) :=
if 16 ≤ v15 then (
some (.inr (.inr h16))) else (
(cO h16 a13 10 (F_X10_isProcess h16 a13 v15)).bind fun v17 =>
if v17 = 0 then (
bl (v15 + 1) fun v18 =>
some (.inl (v18, h16))) else (
(cO h16 a13 10 (F_X10_groupOf h16 a13 v15)).bind (un fun v19 h20 =>
if v19 = v14 then (
some (.inr (.inl (1, h20)))) else (
bl (v15 + 1) fun v21 =>
some (.inl (v21, h20))))))
def F_X10_isInUse (h : Hp) (a0 : Nat) (vp1 : Int32) : Option (Int32 × Hp) :=
(loopF (fun x => F_X10_isInUse_L2 a0 vp1 x.1 x.2) 6000 (0, h)).bind (sE (fun x => some x) (fun h11 =>
(loopF (fun x => F_X10_isInUse_L35 a0 vp1 x.1 x.2) 6000 (0, h11)).bind (sE (fun x => some x) (fun h22 =>
some (0, h22)))))
set_option maxRecDepth 100000 in
set_option maxHeartbeats 4000000 in
theorem c_X10_isInUse (l : Launch) (G : GG) (B : Nat) (h : Hp) (a0 : Nat) (vp1 : Int32) (r0 : Int32) (hr : Hp) (hF : F_X10_isInUse h a0 vp1 = some (r0, hr)) : CI l yX10_isInUse cX10_isInUse 3 .boolean 2 46 0 0 G B h [.ref (B + a0), .int vp1] r0 hr := by
  refine ent_i rfl (Nat.le_of_ble_eq_true rfl) ?_
  intro p e s m args below meth c ls Q CX hnm hret P hl
  have CX : Cxt p m c cX10_isInUse 3 s args RX10 G B := CX
  obtain ⟨⟨hx, hb, hml, hown, hts⟩, -, -⟩ := id CX
  replace hl : lv_has ls 3 [(0, .ref (B + a0)), (1, .int vp1)] := hl
  generalize s.heap = H at P ⊢
  generalize ([] : List Loc) = locs at P ⊢
  unfold F_X10_isInUse at hF
  refine lv_iconst (pc := 0) (v := 0) hx hb dX10_isInUse_0 (by decide) ?_
  refine lv_istore_n (pc := 1) hx hb dX10_isInUse_1 rfl hl (by decide) rfl (fun ls hl => ?_)
  replace hl : lv_has ls 3 [(2, .int 0), (0, .ref (B + a0)), (1, .int vp1)] := hl
  obtain ⟨r1, hLp1, hK1⟩ := bd_some hF
  have hX1 : ∀ (h11 : Hp) (H : Heap) (locs : List Loc) (ls : Array Slot), Pic G B h11 s H locs → lv_has ls 3 [(0, .ref (B + a0)), (1, .int vp1)] → .inr h11 = r1 → W p l e (rmM 2 46 0 0) s m args below meth c H locs 0 0 Q (F0 m 33 ls []) := by
    intro h11 H locs ls P hl er
    subst er
    have hF := sE_ri hK1
    refine lv_iconst (pc := 33) (v := 0) hx hb dX10_isInUse_33 (by decide) ?_
    refine lv_istore_n (pc := 34) hx hb dX10_isInUse_34 rfl hl (by decide) rfl (fun ls hl => ?_)
    replace hl : lv_has ls 3 [(2, .int 0), (0, .ref (B + a0)), (1, .int vp1)] := hl
    obtain ⟨r12, hLp12, hK12⟩ := bd_some hF
    have hX12 : ∀ (h22 : Hp) (H : Heap) (locs : List Loc) (ls : Array Slot), Pic G B h22 s H locs → lv_has ls 3 [] → .inr h22 = r12 → W p l e (rmM 2 46 0 0) s m args below meth c H locs 0 0 Q (F0 m 66 ls []) := by
      intro h22 H locs ls P hl er
      subst er
      have hF := sE_ri hK12
      refine lv_iconst (pc := 66) (v := 0) hx hb dX10_isInUse_66 (by decide) ?_
      cases hF
      exact hret _ _ _ _ P rfl dX10_isInUse_67
    have hL12 : ∀ (n : Nat) (v15 : Int32) (h16 : Hp) (H : Heap) (locs : List Loc) (ls : Array Slot), Pic G B h16 s H locs → lv_has ls 3 [(0, .ref (B + a0)), (1, .int vp1), (2, .int v15)] → loopF (fun x => F_X10_isInUse_L35 a0 vp1 x.1 x.2) n (v15, h16) = some r12 → W p l e (rmM 2 46 0 0) s m args below meth c H locs 0 0 Q (F0 m 35 ls []) := by
      intro n
      induction n with
      | zero => intro v15 h16 H locs ls P hl hq; cases hq
      | succ n ih =>
        intro v15 h16 H locs ls P hl hq
        obtain ⟨z12, hS12, hI12, hR12⟩ := loop_some hq
        have hF : F_X10_isInUse_L35 a0 vp1 v15 h16 = some z12 := hS12
        unfold F_X10_isInUse_L35 at hF
        refine lv_iload_n (pc := 35) hx hb dX10_isInUse_35 rfl (lv_at hl 2 rfl) ?_
        refine lv_bipush (pc := 36) (v := 16) hx hb dX10_isInUse_36 (by decide) ?_
        refine lv_icmp_ge (pc := 38) (tgt := 66) hx hb dX10_isInUse_38 (by decide) (fun hc => ?_) (fun hc => ?_)
        · rw [if_pos hc] at hF
          exact hX12 _ _ _ _ P (lv_sub hl [] rfl) (hR12 _ (Option.some.inj hF).symm)
        · rw [if_neg hc] at hF
          refine lv_aload_n (pc := 41) hx hb dX10_isInUse_41 rfl (lv_at hl 0 rfl) ?_
          refine lv_iload_n (pc := 42) hx hb dX10_isInUse_42 rfl (lv_at hl 2 rfl) ?_
          refine r_cVp (pc := 43) (As := [.int v15]) (rest := []) CX P hl.1 hF kv_X10_117 (fun r q => c_X10_isProcess l G B _ _ _ _ q) rfl rfl ⟨Nat.le_of_ble_eq_true rfl, Nat.le_of_ble_eq_true rfl⟩ (Nat.le_of_ble_eq_true rfl) ⟨Nat.le_of_ble_eq_true rfl, Nat.le_of_ble_eq_true rfl⟩ dX10_isInUse_43 (fun v17 H locs P hF => ?_)
          refine lv_if_eq (pc := 46) (tgt := 60) hx hb dX10_isInUse_46 (by decide) (fun hc => ?_) (fun hc => ?_)
          · rw [if_pos hc] at hF
            obtain ⟨v18, ev18, hF⟩ := bl_o hF
            refine lv_iinc (pc := 60) (k := 2) (v := v18) hx hb dX10_isInUse_60 hl rfl ev18 (by decide) rfl (fun ls hl => ?_)
            replace hl : lv_has ls 3 [(2, .int v18), (0, .ref (B + a0)), (1, .int vp1)] := hl
            refine lv_goto (pc := 63) (tgt := 35) hx hb dX10_isInUse_63 (by decide) ?_
            exact ih _ _ _ _ _ P (lv_sub hl [1, 2, 0] rfl) (hI12 _ (Option.some.inj hF).symm)
          · rw [if_neg hc] at hF
            refine lv_aload_n (pc := 49) hx hb dX10_isInUse_49 rfl (lv_at hl 0 rfl) ?_
            refine lv_iload_n (pc := 50) hx hb dX10_isInUse_50 rfl (lv_at hl 2 rfl) ?_
            refine r_cVi (pc := 51) (As := [.int v15]) (rest := []) CX P hl.1 hF kv_X10_120 (fun r h1 q => c_X10_groupOf l G B _ _ _ _ _ q) rfl rfl ⟨Nat.le_of_ble_eq_true rfl, Nat.le_of_ble_eq_true rfl⟩ (Nat.le_of_ble_eq_true rfl) ⟨Nat.le_of_ble_eq_true rfl, Nat.le_of_ble_eq_true rfl⟩ dX10_isInUse_51 (fun v19 h20 H locs P hF => ?_)
            replace hF := un_i hF
            refine lv_iload_n (pc := 54) hx hb dX10_isInUse_54 rfl (lv_at hl 1 rfl) ?_
            refine lv_icmp_ne (pc := 55) (tgt := 60) hx hb dX10_isInUse_55 (by decide) (fun hc => ?_) (fun hc => ?_)
            · rw [if_neg hc] at hF
              obtain ⟨v21, ev21, hF⟩ := bl_o hF
              refine lv_iinc (pc := 60) (k := 2) (v := v21) hx hb dX10_isInUse_60 hl rfl ev21 (by decide) rfl (fun ls hl => ?_)
              replace hl : lv_has ls 3 [(2, .int v21), (0, .ref (B + a0)), (1, .int vp1)] := hl
              refine lv_goto (pc := 63) (tgt := 35) hx hb dX10_isInUse_63 (by decide) ?_
              exact ih _ _ _ _ _ P (lv_sub hl [1, 2, 0] rfl) (hI12 _ (Option.some.inj hF).symm)
            · rw [if_pos hc] at hF
              refine lv_iconst (pc := 58) (v := 1) hx hb dX10_isInUse_58 (by decide) ?_
              have hE := hR12 _ (Option.some.inj hF).symm
              subst hE
              replace hF := sE_li hK12
              cases hF
              exact hret _ _ _ _ P rfl dX10_isInUse_59
    exact hL12 _ _ _ _ _ _ P (lv_sub hl [1, 2, 0] rfl) hLp12
  have hL1 : ∀ (n : Nat) (v4 : Int32) (h5 : Hp) (H : Heap) (locs : List Loc) (ls : Array Slot), Pic G B h5 s H locs → lv_has ls 3 [(0, .ref (B + a0)), (1, .int vp1), (2, .int v4)] → loopF (fun x => F_X10_isInUse_L2 a0 vp1 x.1 x.2) n (v4, h5) = some r1 → W p l e (rmM 2 46 0 0) s m args below meth c H locs 0 0 Q (F0 m 2 ls []) := by
    intro n
    induction n with
    | zero => intro v4 h5 H locs ls P hl hq; cases hq
    | succ n ih =>
      intro v4 h5 H locs ls P hl hq
      obtain ⟨z1, hS1, hI1, hR1⟩ := loop_some hq
      have hF : F_X10_isInUse_L2 a0 vp1 v4 h5 = some z1 := hS1
      unfold F_X10_isInUse_L2 at hF
      refine lv_iload_n (pc := 2) hx hb dX10_isInUse_2 rfl (lv_at hl 2 rfl) ?_
      refine lv_bipush (pc := 3) (v := 12) hx hb dX10_isInUse_3 (by decide) ?_
      refine lv_icmp_ge (pc := 5) (tgt := 33) hx hb dX10_isInUse_5 (by decide) (fun hc => ?_) (fun hc => ?_)
      · rw [if_pos hc] at hF
        exact hX1 _ _ _ _ P (lv_sub hl [0, 1] rfl) (hR1 _ (Option.some.inj hF).symm)
      · rw [if_neg hc] at hF
        refine lv_aload_n (pc := 8) hx hb dX10_isInUse_8 rfl (lv_at hl 0 rfl) ?_
        refine lv_iload_n (pc := 9) hx hb dX10_isInUse_9 rfl (lv_at hl 2 rfl) ?_
        refine r_cVp (pc := 10) (As := [.int v4]) (rest := []) CX P hl.1 hF kv_X10_107 (fun r q => c_X10_isGroup l G B _ _ _ _ q) rfl rfl ⟨Nat.le_of_ble_eq_true rfl, Nat.le_of_ble_eq_true rfl⟩ (Nat.le_of_ble_eq_true rfl) ⟨Nat.le_of_ble_eq_true rfl, Nat.le_of_ble_eq_true rfl⟩ dX10_isInUse_10 (fun v6 H locs P hF => ?_)
        refine lv_if_eq (pc := 13) (tgt := 27) hx hb dX10_isInUse_13 (by decide) (fun hc => ?_) (fun hc => ?_)
        · rw [if_pos hc] at hF
          obtain ⟨v7, ev7, hF⟩ := bl_o hF
          refine lv_iinc (pc := 27) (k := 2) (v := v7) hx hb dX10_isInUse_27 hl rfl ev7 (by decide) rfl (fun ls hl => ?_)
          replace hl : lv_has ls 3 [(2, .int v7), (0, .ref (B + a0)), (1, .int vp1)] := hl
          refine lv_goto (pc := 30) (tgt := 2) hx hb dX10_isInUse_30 (by decide) ?_
          exact ih _ _ _ _ _ P (lv_sub hl [1, 2, 0] rfl) (hI1 _ (Option.some.inj hF).symm)
        · rw [if_neg hc] at hF
          refine lv_aload_n (pc := 16) hx hb dX10_isInUse_16 rfl (lv_at hl 0 rfl) ?_
          refine lv_iload_n (pc := 17) hx hb dX10_isInUse_17 rfl (lv_at hl 2 rfl) ?_
          refine r_cVi (pc := 18) (As := [.int v4]) (rest := []) CX P hl.1 hF kv_X10_103 (fun r h1 q => c_X10_parentOf l G B _ _ _ _ _ q) rfl rfl ⟨Nat.le_of_ble_eq_true rfl, Nat.le_of_ble_eq_true rfl⟩ (Nat.le_of_ble_eq_true rfl) ⟨Nat.le_of_ble_eq_true rfl, Nat.le_of_ble_eq_true rfl⟩ dX10_isInUse_18 (fun v8 h9 H locs P hF => ?_)
          replace hF := un_i hF
          refine lv_iload_n (pc := 21) hx hb dX10_isInUse_21 rfl (lv_at hl 1 rfl) ?_
          refine lv_icmp_ne (pc := 22) (tgt := 27) hx hb dX10_isInUse_22 (by decide) (fun hc => ?_) (fun hc => ?_)
          · rw [if_neg hc] at hF
            obtain ⟨v10, ev10, hF⟩ := bl_o hF
            refine lv_iinc (pc := 27) (k := 2) (v := v10) hx hb dX10_isInUse_27 hl rfl ev10 (by decide) rfl (fun ls hl => ?_)
            replace hl : lv_has ls 3 [(2, .int v10), (0, .ref (B + a0)), (1, .int vp1)] := hl
            refine lv_goto (pc := 30) (tgt := 2) hx hb dX10_isInUse_30 (by decide) ?_
            exact ih _ _ _ _ _ P (lv_sub hl [1, 2, 0] rfl) (hI1 _ (Option.some.inj hF).symm)
          · rw [if_pos hc] at hF
            refine lv_iconst (pc := 25) (v := 1) hx hb dX10_isInUse_25 (by decide) ?_
            have hE := hR1 _ (Option.some.inj hF).symm
            subst hE
            replace hF := sE_li hK1
            cases hF
            exact hret _ _ _ _ P rfl dX10_isInUse_26
  exact hL1 _ _ _ _ _ _ P (lv_sub hl [1, 2, 0] rfl) hLp1
