def F_X10_isStalled_L15 (a4 : Nat) (v5 : Int32) (v6 : Int32) (v7 : Int32) (v8 : Int32) (v9 : Int32) (h10 : Hp) : Option ((Int32 × Int32 × Int32 × Hp) ⊕ (Int32 × Int32 × Hp)) :=
if 16 ≤ v9 then (
some (.inr (v7, v8, h10))) else (
(F_X10_has h10 v6 v9).bind fun v11 =>
bl (fun (v28 : Int32) (v29 : Int32) (h30 : Hp) =>
bl (v7 ||| 0) fun v31 =>
(F_X10_has h30 v6 v29).bind fun v32 =>
bl (fun (v40 : Int32) (h41 : Hp) =>
bl (v28 ||| 0) fun v42 =>
bl (v40 + 1) fun v43 =>
some (.inl (v31, v42, v43, h41))) fun k33 =>
if v32 = 0 then (
k33 v29 h30) else (
(cO h30 a4 10 (F_X10_ofProcess h30 a4 v29 4 0)).bind (un fun v34 h35 =>
if v34 = 0 then (
(cO h35 a4 10 (F_X10_ofProcess h35 a4 v29 6 0)).bind (un fun v36 h37 =>
if v36 ≤ 0 then (
k33 v29 h37) else (
bl (v28 ||| (1 <<< (v29 &&& 31))) fun v38 =>
bl (v29 + 1) fun v39 =>
some (.inl (v31, v38, v39, h37))))) else (
k33 v29 h35)))) fun k12 =>
if v11 = 0 then (
k12 v8 v9 h10) else (
(cO h10 a4 10 (F_X10_ofProcess h10 a4 v9 4 0)).bind (un fun v13 h14 =>
if v13 ≤ 0 then (
k12 v8 v9 h14) else (
bl (v7 ||| (1 <<< (v9 &&& 31))) fun v15 =>
(F_X10_has h14 v6 v9).bind fun v16 =>
bl (fun (v24 : Int32) (h25 : Hp) =>
bl (v8 ||| 0) fun v26 =>
bl (v24 + 1) fun v27 =>
some (.inl (v15, v26, v27, h25))) fun k17 =>
if v16 = 0 then (
k17 v9 h14) else (
(cO h14 a4 10 (F_X10_ofProcess h14 a4 v9 4 0)).bind (un fun v18 h19 =>
if v18 = 0 then (
(cO h19 a4 10 (F_X10_ofProcess h19 a4 v9 6 0)).bind (un fun v20 h21 =>
if v20 ≤ 0 then (
k17 v9 h21) else (
bl (v8 ||| (1 <<< (v9 &&& 31))) fun v22 =>
bl (v9 + 1) fun v23 =>
some (.inl (v15, v22, v23, h21))))) else (
k17 v9 h19)))))))
def F_X10_isStalled (h : Hp) (a0 : Nat) (vp1 : Int32) (vp2 : Int32) : Option (Int32 × Hp) :=
(cO h a0 10 (F_X10_processesBelow h a0 vp1)).bind (un fun v1 h2 =>
(loopF (fun x => F_X10_isStalled_L15 a0 vp2 v1 x.1 x.2.1 x.2.2.1 x.2.2.2) 6000 (0, 0, 0, h2)).bind fun q3 =>
bl q3.1 fun v44 =>
bl q3.2.1 fun v45 =>
bl q3.2.2 fun h46 =>
if vp2 = 2 then (
if v45 = 0 then (
some (0, h46)) else (
some (1, h46))) else (
if v44 = 0 then (
some (0, h46)) else (
if vp2 = 0 then (
some (1, h46)) else (
if v44 = v1 then (
some (1, h46)) else (
some (0, h46))))))
set_option maxRecDepth 100000 in
set_option maxHeartbeats 4000000 in
theorem c_X10_isStalled (l : Launch) (G : GG) (B : Nat) (h : Hp) (a0 : Nat) (vp1 : Int32) (vp2 : Int32) (r0 : Int32) (hr : Hp) (hF : F_X10_isStalled h a0 vp1 vp2 = some (r0, hr)) : CI l yX10_isStalled cX10_isStalled 7 .boolean 4 90 0 0 G B h [.ref (B + a0), .int vp1, .int vp2] r0 hr := by
  refine ent_i rfl (Nat.le_of_ble_eq_true rfl) ?_
  intro p e s m args below meth c ls Q CX hnm hret P hl
  have CX : Cxt p m c cX10_isStalled 7 s args RX10 G B := CX
  obtain ⟨⟨hx, hb, hml, hown, hts⟩, -, -⟩ := id CX
  replace hl : lv_has ls 7 [(0, .ref (B + a0)), (1, .int vp1), (2, .int vp2)] := hl
  generalize s.heap = H at P ⊢
  generalize ([] : List Loc) = locs at P ⊢
  unfold F_X10_isStalled at hF
  refine lv_aload_n (pc := 0) hx hb dX10_isStalled_0 rfl (lv_at hl 0 rfl) ?_
  refine lv_iload_n (pc := 1) hx hb dX10_isStalled_1 rfl (lv_at hl 1 rfl) ?_
  refine r_cVi (pc := 2) (As := [.int vp1]) (rest := []) CX P hl.1 hF kv_X10_171 (fun r h1 q => c_X10_processesBelow l G B _ _ _ _ _ q) rfl rfl ⟨Nat.le_of_ble_eq_true rfl, Nat.le_of_ble_eq_true rfl⟩ (Nat.le_of_ble_eq_true rfl) ⟨Nat.le_of_ble_eq_true rfl, Nat.le_of_ble_eq_true rfl⟩ dX10_isStalled_2 (fun v1 h2 H locs P hF => ?_)
  replace hF := un_i hF
  refine lv_istore_n (pc := 5) hx hb dX10_isStalled_5 rfl hl (by decide) rfl (fun ls hl => ?_)
  replace hl : lv_has ls 7 [(3, .int v1), (0, .ref (B + a0)), (1, .int vp1), (2, .int vp2)] := hl
  refine lv_iconst (pc := 6) (v := 0) hx hb dX10_isStalled_6 (by decide) ?_
  refine lv_istore (pc := 7) hx hb dX10_isStalled_7 hl (by decide) rfl (fun ls hl => ?_)
  replace hl : lv_has ls 7 [(4, .int 0), (3, .int v1), (0, .ref (B + a0)), (1, .int vp1), (2, .int vp2)] := hl
  refine lv_iconst (pc := 9) (v := 0) hx hb dX10_isStalled_9 (by decide) ?_
  refine lv_istore (pc := 10) hx hb dX10_isStalled_10 hl (by decide) rfl (fun ls hl => ?_)
  replace hl : lv_has ls 7 [(5, .int 0), (4, .int 0), (3, .int v1), (0, .ref (B + a0)), (1, .int vp1), (2, .int vp2)] := hl
  refine lv_iconst (pc := 12) (v := 0) hx hb dX10_isStalled_12 (by decide) ?_
  refine lv_istore (pc := 13) hx hb dX10_isStalled_13 hl (by decide) rfl (fun ls hl => ?_)
  replace hl : lv_has ls 7 [(6, .int 0), (5, .int 0), (4, .int 0), (3, .int v1), (0, .ref (B + a0)), (1, .int vp1), (2, .int vp2)] := hl
  obtain ⟨r3, hLp3, hK3⟩ := bd_some hF
  have hX3 : ∀ (v44 : Int32) (v45 : Int32) (h46 : Hp) (H : Heap) (locs : List Loc) (ls : Array Slot), Pic G B h46 s H locs → lv_has ls 7 [(2, .int vp2), (3, .int v1), (4, .int v44), (5, .int v45)] → (v44, v45, h46) = r3 → W p l e (rmM 4 90 0 0) s m args below meth c H locs 0 0 Q (F0 m 106 ls []) := by
    intro v44 v45 h46 H locs ls P hl er
    subst er
    have hF := hK3
    replace hF := bl_i hF
    replace hF := bl_i hF
    replace hF := bl_i hF
    dsimp only at hF
    refine lv_iload_n (pc := 106) hx hb dX10_isStalled_106 rfl (lv_at hl 0 rfl) ?_
    refine lv_iconst (pc := 107) (v := 2) hx hb dX10_isStalled_107 (by decide) ?_
    refine lv_icmp_ne (pc := 108) (tgt := 122) hx hb dX10_isStalled_108 (by decide) (fun hc => ?_) (fun hc => ?_)
    · rw [if_neg hc] at hF
      refine lv_iload (pc := 122) hx hb dX10_isStalled_122 (lv_at hl 2 rfl) ?_
      refine lv_if_eq (pc := 124) (tgt := 141) hx hb dX10_isStalled_124 (by decide) (fun hc => ?_) (fun hc => ?_)
      · rw [if_pos hc] at hF
        refine lv_iconst (pc := 141) (v := 0) hx hb dX10_isStalled_141 (by decide) ?_
        cases hF
        exact hret _ _ _ _ P rfl dX10_isStalled_142
      · rw [if_neg hc] at hF
        refine lv_iload_n (pc := 127) hx hb dX10_isStalled_127 rfl (lv_at hl 0 rfl) ?_
        refine lv_if_eq (pc := 128) (tgt := 137) hx hb dX10_isStalled_128 (by decide) (fun hc => ?_) (fun hc => ?_)
        · rw [if_pos hc] at hF
          refine lv_iconst (pc := 137) (v := 1) hx hb dX10_isStalled_137 (by decide) ?_
          refine lv_goto (pc := 138) (tgt := 142) hx hb dX10_isStalled_138 (by decide) ?_
          cases hF
          exact hret _ _ _ _ P rfl dX10_isStalled_142
        · rw [if_neg hc] at hF
          refine lv_iload (pc := 131) hx hb dX10_isStalled_131 (lv_at hl 2 rfl) ?_
          refine lv_iload_n (pc := 133) hx hb dX10_isStalled_133 rfl (lv_at hl 1 rfl) ?_
          refine lv_icmp_ne (pc := 134) (tgt := 141) hx hb dX10_isStalled_134 (by decide) (fun hc => ?_) (fun hc => ?_)
          · rw [if_neg hc] at hF
            refine lv_iconst (pc := 141) (v := 0) hx hb dX10_isStalled_141 (by decide) ?_
            cases hF
            exact hret _ _ _ _ P rfl dX10_isStalled_142
          · rw [if_pos hc] at hF
            refine lv_iconst (pc := 137) (v := 1) hx hb dX10_isStalled_137 (by decide) ?_
            refine lv_goto (pc := 138) (tgt := 142) hx hb dX10_isStalled_138 (by decide) ?_
            cases hF
            exact hret _ _ _ _ P rfl dX10_isStalled_142
    · rw [if_pos hc] at hF
      refine lv_iload (pc := 111) hx hb dX10_isStalled_111 (lv_at hl 3 rfl) ?_
      refine lv_if_eq (pc := 113) (tgt := 120) hx hb dX10_isStalled_113 (by decide) (fun hc => ?_) (fun hc => ?_)
      · rw [if_pos hc] at hF
        refine lv_iconst (pc := 120) (v := 0) hx hb dX10_isStalled_120 (by decide) ?_
        cases hF
        exact hret _ _ _ _ P rfl dX10_isStalled_121
      · rw [if_neg hc] at hF
        refine lv_iconst (pc := 116) (v := 1) hx hb dX10_isStalled_116 (by decide) ?_
        refine lv_goto (pc := 117) (tgt := 121) hx hb dX10_isStalled_117 (by decide) ?_
        cases hF
        exact hret _ _ _ _ P rfl dX10_isStalled_121
  have hL3 : ∀ (n : Nat) (v7 : Int32) (v8 : Int32) (v9 : Int32) (h10 : Hp) (H : Heap) (locs : List Loc) (ls : Array Slot), Pic G B h10 s H locs → lv_has ls 7 [(0, .ref (B + a0)), (2, .int vp2), (3, .int v1), (4, .int v7), (5, .int v8), (6, .int v9)] → loopF (fun x => F_X10_isStalled_L15 a0 vp2 v1 x.1 x.2.1 x.2.2.1 x.2.2.2) n (v7, v8, v9, h10) = some r3 → W p l e (rmM 4 90 0 0) s m args below meth c H locs 0 0 Q (F0 m 15 ls []) := by
    intro n
    induction n with
    | zero => intro v7 v8 v9 h10 H locs ls P hl hq; cases hq
    | succ n ih =>
      intro v7 v8 v9 h10 H locs ls P hl hq
      obtain ⟨z3, hS3, hI3, hR3⟩ := loop_some hq
      have hF : F_X10_isStalled_L15 a0 vp2 v1 v7 v8 v9 h10 = some z3 := hS3
      unfold F_X10_isStalled_L15 at hF
      refine lv_iload (pc := 15) hx hb dX10_isStalled_15 (lv_at hl 5 rfl) ?_
      refine lv_bipush (pc := 17) (v := 16) hx hb dX10_isStalled_17 (by decide) ?_
      refine lv_icmp_ge (pc := 19) (tgt := 106) hx hb dX10_isStalled_19 (by decide) (fun hc => ?_) (fun hc => ?_)
      · rw [if_pos hc] at hF
        exact hX3 _ _ _ _ _ _ P (lv_sub hl [1, 2, 3, 4] rfl) (hR3 _ (Option.some.inj hF).symm)
      · rw [if_neg hc] at hF
        refine lv_iload (pc := 22) hx hb dX10_isStalled_22 (lv_at hl 3 rfl) ?_
        refine lv_iload_n (pc := 24) hx hb dX10_isStalled_24 rfl (lv_at hl 2 rfl) ?_
        refine lv_iload (pc := 25) hx hb dX10_isStalled_25 (lv_at hl 5 rfl) ?_
        refine r_cSp (pc := 27) (As := [.int v1, .int v9]) (rest := [.int v7]) CX P hl.1 hF ks_X10_89 (fun r q => c_X10_has l G B _ _ _ _ q) rfl rfl ⟨Nat.le_of_ble_eq_true rfl, Nat.le_of_ble_eq_true rfl⟩ (Nat.le_of_ble_eq_true rfl) ⟨Nat.le_of_ble_eq_true rfl, Nat.le_of_ble_eq_true rfl⟩ dX10_isStalled_27 (fun v11 H locs P hF => ?_)
        obtain ⟨k12, ek12, hF⟩ := bl_o hF
        have hJ12 : ∀ (v28 : Int32) (v29 : Int32) (h30 : Hp) (H : Heap) (locs : List Loc) (ls : Array Slot), Pic G B h30 s H locs → lv_has ls 7 [(0, .ref (B + a0)), (2, .int vp2), (3, .int v1), (5, .int v28), (6, .int v29)] → k12 v28 v29 h30 = some z3 → W p l e (rmM 4 90 0 0) s m args below meth c H locs 0 0 Q (F0 m 51 ls [.int v7]) := by
          intro v28 v29 h30 H locs ls P hl hF
          rw [← ek12] at hF
          dsimp only at hF
          refine lv_iconst (pc := 51) (v := 0) hx hb dX10_isStalled_51 (by decide) ?_
          refine lv_ior (pc := 52) hx hb dX10_isStalled_52 ?_
          refine lv_topi (fun v31 ev31 => ?_)
          replace hF := bl_e hF ev31
          refine lv_istore (pc := 53) hx hb dX10_isStalled_53 hl (by decide) rfl (fun ls hl => ?_)
          replace hl : lv_has ls 7 [(4, .int v31), (0, .ref (B + a0)), (2, .int vp2), (3, .int v1), (5, .int v28), (6, .int v29)] := hl
          refine lv_iload (pc := 55) hx hb dX10_isStalled_55 (lv_at hl 4 rfl) ?_
          refine lv_iload_n (pc := 57) hx hb dX10_isStalled_57 rfl (lv_at hl 3 rfl) ?_
          refine lv_iload (pc := 58) hx hb dX10_isStalled_58 (lv_at hl 5 rfl) ?_
          refine r_cSp (pc := 60) (As := [.int v1, .int v29]) (rest := [.int v28]) CX P hl.1 hF ks_X10_89 (fun r q => c_X10_has l G B _ _ _ _ q) rfl rfl ⟨Nat.le_of_ble_eq_true rfl, Nat.le_of_ble_eq_true rfl⟩ (Nat.le_of_ble_eq_true rfl) ⟨Nat.le_of_ble_eq_true rfl, Nat.le_of_ble_eq_true rfl⟩ dX10_isStalled_60 (fun v32 H locs P hF => ?_)
          obtain ⟨k33, ek33, hF⟩ := bl_o hF
          have hJ33 : ∀ (v40 : Int32) (h41 : Hp) (H : Heap) (locs : List Loc) (ls : Array Slot), Pic G B h41 s H locs → lv_has ls 7 [(0, .ref (B + a0)), (2, .int vp2), (3, .int v1), (4, .int v31), (6, .int v40)] → k33 v40 h41 = some z3 → W p l e (rmM 4 90 0 0) s m args below meth c H locs 0 0 Q (F0 m 96 ls [.int v28]) := by
            intro v40 h41 H locs ls P hl hF
            rw [← ek33] at hF
            dsimp only at hF
            refine lv_iconst (pc := 96) (v := 0) hx hb dX10_isStalled_96 (by decide) ?_
            refine lv_ior (pc := 97) hx hb dX10_isStalled_97 ?_
            refine lv_topi (fun v42 ev42 => ?_)
            replace hF := bl_e hF ev42
            refine lv_istore (pc := 98) hx hb dX10_isStalled_98 hl (by decide) rfl (fun ls hl => ?_)
            replace hl : lv_has ls 7 [(5, .int v42), (0, .ref (B + a0)), (2, .int vp2), (3, .int v1), (4, .int v31), (6, .int v40)] := hl
            obtain ⟨v43, ev43, hF⟩ := bl_o hF
            refine lv_iinc (pc := 100) (k := 5) (v := v43) hx hb dX10_isStalled_100 hl rfl ev43 (by decide) rfl (fun ls hl => ?_)
            replace hl : lv_has ls 7 [(6, .int v43), (5, .int v42), (0, .ref (B + a0)), (2, .int vp2), (3, .int v1), (4, .int v31)] := hl
            refine lv_goto (pc := 103) (tgt := 15) hx hb dX10_isStalled_103 (by decide) ?_
            exact ih _ _ _ _ _ _ _ P (lv_sub hl [2, 3, 4, 5, 1, 0] rfl) (hI3 _ (Option.some.inj hF).symm)
          refine lv_if_eq (pc := 63) (tgt := 96) hx hb dX10_isStalled_63 (by decide) (fun hc => ?_) (fun hc => ?_)
          · rw [if_pos hc] at hF
            exact hJ33 _ _ _ _ _ P (lv_sub hl [1, 2, 3, 0, 5] rfl) hF
          · rw [if_neg hc] at hF
            refine lv_aload_n (pc := 66) hx hb dX10_isStalled_66 rfl (lv_at hl 1 rfl) ?_
            refine lv_iload (pc := 67) hx hb dX10_isStalled_67 (lv_at hl 5 rfl) ?_
            refine lv_iconst (pc := 69) (v := 4) hx hb dX10_isStalled_69 (by decide) ?_
            refine lv_iconst (pc := 70) (v := 0) hx hb dX10_isStalled_70 (by decide) ?_
            refine r_cVi (pc := 71) (As := [.int v29, .int 4, .int 0]) (rest := [.int v28]) CX P hl.1 hF kv_X10_114 (fun r h1 q => c_X10_ofProcess l G B _ _ _ _ _ _ _ q) rfl rfl ⟨Nat.le_of_ble_eq_true rfl, Nat.le_of_ble_eq_true rfl⟩ (Nat.le_of_ble_eq_true rfl) ⟨Nat.le_of_ble_eq_true rfl, Nat.le_of_ble_eq_true rfl⟩ dX10_isStalled_71 (fun v34 h35 H locs P hF => ?_)
            replace hF := un_i hF
            refine lv_if_ne (pc := 74) (tgt := 96) hx hb dX10_isStalled_74 (by decide) (fun hc => ?_) (fun hc => ?_)
            · rw [if_neg hc] at hF
              exact hJ33 _ _ _ _ _ P (lv_sub hl [1, 2, 3, 0, 5] rfl) hF
            · rw [if_pos hc] at hF
              refine lv_aload_n (pc := 77) hx hb dX10_isStalled_77 rfl (lv_at hl 1 rfl) ?_
              refine lv_iload (pc := 78) hx hb dX10_isStalled_78 (lv_at hl 5 rfl) ?_
              refine lv_bipush (pc := 80) (v := 6) hx hb dX10_isStalled_80 (by decide) ?_
              refine lv_iconst (pc := 82) (v := 0) hx hb dX10_isStalled_82 (by decide) ?_
              refine r_cVi (pc := 83) (As := [.int v29, .int 6, .int 0]) (rest := [.int v28]) CX P hl.1 hF kv_X10_114 (fun r h1 q => c_X10_ofProcess l G B _ _ _ _ _ _ _ q) rfl rfl ⟨Nat.le_of_ble_eq_true rfl, Nat.le_of_ble_eq_true rfl⟩ (Nat.le_of_ble_eq_true rfl) ⟨Nat.le_of_ble_eq_true rfl, Nat.le_of_ble_eq_true rfl⟩ dX10_isStalled_83 (fun v36 h37 H locs P hF => ?_)
              replace hF := un_i hF
              refine lv_if_le (pc := 86) (tgt := 96) hx hb dX10_isStalled_86 (by decide) (fun hc => ?_) (fun hc => ?_)
              · rw [if_pos hc] at hF
                exact hJ33 _ _ _ _ _ P (lv_sub hl [1, 2, 3, 0, 5] rfl) hF
              · rw [if_neg hc] at hF
                refine lv_iconst (pc := 89) (v := 1) hx hb dX10_isStalled_89 (by decide) ?_
                refine lv_iload (pc := 90) hx hb dX10_isStalled_90 (lv_at hl 5 rfl) ?_
                refine lv_ishl (pc := 92) hx hb dX10_isStalled_92 ?_
                refine lv_goto (pc := 93) (tgt := 97) hx hb dX10_isStalled_93 (by decide) ?_
                refine lv_ior (pc := 97) hx hb dX10_isStalled_97 ?_
                refine lv_topi (fun v38 ev38 => ?_)
                replace hF := bl_e hF ev38
                refine lv_istore (pc := 98) hx hb dX10_isStalled_98 hl (by decide) rfl (fun ls hl => ?_)
                replace hl : lv_has ls 7 [(5, .int v38), (4, .int v31), (0, .ref (B + a0)), (2, .int vp2), (3, .int v1), (6, .int v29)] := hl
                obtain ⟨v39, ev39, hF⟩ := bl_o hF
                refine lv_iinc (pc := 100) (k := 5) (v := v39) hx hb dX10_isStalled_100 hl rfl ev39 (by decide) rfl (fun ls hl => ?_)
                replace hl : lv_has ls 7 [(6, .int v39), (5, .int v38), (4, .int v31), (0, .ref (B + a0)), (2, .int vp2), (3, .int v1)] := hl
                refine lv_goto (pc := 103) (tgt := 15) hx hb dX10_isStalled_103 (by decide) ?_
                exact ih _ _ _ _ _ _ _ P (lv_sub hl [3, 4, 5, 2, 1, 0] rfl) (hI3 _ (Option.some.inj hF).symm)
        refine lv_if_eq (pc := 30) (tgt := 51) hx hb dX10_isStalled_30 (by decide) (fun hc => ?_) (fun hc => ?_)
        · rw [if_pos hc] at hF
          exact hJ12 _ _ _ _ _ _ P (lv_sub hl [0, 1, 2, 4, 5] rfl) hF
        · rw [if_neg hc] at hF
          refine lv_aload_n (pc := 33) hx hb dX10_isStalled_33 rfl (lv_at hl 0 rfl) ?_
          refine lv_iload (pc := 34) hx hb dX10_isStalled_34 (lv_at hl 5 rfl) ?_
          refine lv_iconst (pc := 36) (v := 4) hx hb dX10_isStalled_36 (by decide) ?_
          refine lv_iconst (pc := 37) (v := 0) hx hb dX10_isStalled_37 (by decide) ?_
          refine r_cVi (pc := 38) (As := [.int v9, .int 4, .int 0]) (rest := [.int v7]) CX P hl.1 hF kv_X10_114 (fun r h1 q => c_X10_ofProcess l G B _ _ _ _ _ _ _ q) rfl rfl ⟨Nat.le_of_ble_eq_true rfl, Nat.le_of_ble_eq_true rfl⟩ (Nat.le_of_ble_eq_true rfl) ⟨Nat.le_of_ble_eq_true rfl, Nat.le_of_ble_eq_true rfl⟩ dX10_isStalled_38 (fun v13 h14 H locs P hF => ?_)
          replace hF := un_i hF
          refine lv_if_le (pc := 41) (tgt := 51) hx hb dX10_isStalled_41 (by decide) (fun hc => ?_) (fun hc => ?_)
          · rw [if_pos hc] at hF
            exact hJ12 _ _ _ _ _ _ P (lv_sub hl [0, 1, 2, 4, 5] rfl) hF
          · rw [if_neg hc] at hF
            refine lv_iconst (pc := 44) (v := 1) hx hb dX10_isStalled_44 (by decide) ?_
            refine lv_iload (pc := 45) hx hb dX10_isStalled_45 (lv_at hl 5 rfl) ?_
            refine lv_ishl (pc := 47) hx hb dX10_isStalled_47 ?_
            refine lv_goto (pc := 48) (tgt := 52) hx hb dX10_isStalled_48 (by decide) ?_
            refine lv_ior (pc := 52) hx hb dX10_isStalled_52 ?_
            refine lv_topi (fun v15 ev15 => ?_)
            replace hF := bl_e hF ev15
            refine lv_istore (pc := 53) hx hb dX10_isStalled_53 hl (by decide) rfl (fun ls hl => ?_)
            replace hl : lv_has ls 7 [(4, .int v15), (0, .ref (B + a0)), (2, .int vp2), (3, .int v1), (5, .int v8), (6, .int v9)] := hl
            refine lv_iload (pc := 55) hx hb dX10_isStalled_55 (lv_at hl 4 rfl) ?_
            refine lv_iload_n (pc := 57) hx hb dX10_isStalled_57 rfl (lv_at hl 3 rfl) ?_
            refine lv_iload (pc := 58) hx hb dX10_isStalled_58 (lv_at hl 5 rfl) ?_
            refine r_cSp (pc := 60) (As := [.int v1, .int v9]) (rest := [.int v8]) CX P hl.1 hF ks_X10_89 (fun r q => c_X10_has l G B _ _ _ _ q) rfl rfl ⟨Nat.le_of_ble_eq_true rfl, Nat.le_of_ble_eq_true rfl⟩ (Nat.le_of_ble_eq_true rfl) ⟨Nat.le_of_ble_eq_true rfl, Nat.le_of_ble_eq_true rfl⟩ dX10_isStalled_60 (fun v16 H locs P hF => ?_)
            obtain ⟨k17, ek17, hF⟩ := bl_o hF
            have hJ17 : ∀ (v24 : Int32) (h25 : Hp) (H : Heap) (locs : List Loc) (ls : Array Slot), Pic G B h25 s H locs → lv_has ls 7 [(0, .ref (B + a0)), (2, .int vp2), (3, .int v1), (4, .int v15), (6, .int v24)] → k17 v24 h25 = some z3 → W p l e (rmM 4 90 0 0) s m args below meth c H locs 0 0 Q (F0 m 96 ls [.int v8]) := by
              intro v24 h25 H locs ls P hl hF
              rw [← ek17] at hF
              dsimp only at hF
              refine lv_iconst (pc := 96) (v := 0) hx hb dX10_isStalled_96 (by decide) ?_
              refine lv_ior (pc := 97) hx hb dX10_isStalled_97 ?_
              refine lv_topi (fun v26 ev26 => ?_)
              replace hF := bl_e hF ev26
              refine lv_istore (pc := 98) hx hb dX10_isStalled_98 hl (by decide) rfl (fun ls hl => ?_)
              replace hl : lv_has ls 7 [(5, .int v26), (0, .ref (B + a0)), (2, .int vp2), (3, .int v1), (4, .int v15), (6, .int v24)] := hl
              obtain ⟨v27, ev27, hF⟩ := bl_o hF
              refine lv_iinc (pc := 100) (k := 5) (v := v27) hx hb dX10_isStalled_100 hl rfl ev27 (by decide) rfl (fun ls hl => ?_)
              replace hl : lv_has ls 7 [(6, .int v27), (5, .int v26), (0, .ref (B + a0)), (2, .int vp2), (3, .int v1), (4, .int v15)] := hl
              refine lv_goto (pc := 103) (tgt := 15) hx hb dX10_isStalled_103 (by decide) ?_
              exact ih _ _ _ _ _ _ _ P (lv_sub hl [2, 3, 4, 5, 1, 0] rfl) (hI3 _ (Option.some.inj hF).symm)
            refine lv_if_eq (pc := 63) (tgt := 96) hx hb dX10_isStalled_63 (by decide) (fun hc => ?_) (fun hc => ?_)
            · rw [if_pos hc] at hF
              exact hJ17 _ _ _ _ _ P (lv_sub hl [1, 2, 3, 0, 5] rfl) hF
            · rw [if_neg hc] at hF
              refine lv_aload_n (pc := 66) hx hb dX10_isStalled_66 rfl (lv_at hl 1 rfl) ?_
              refine lv_iload (pc := 67) hx hb dX10_isStalled_67 (lv_at hl 5 rfl) ?_
              refine lv_iconst (pc := 69) (v := 4) hx hb dX10_isStalled_69 (by decide) ?_
              refine lv_iconst (pc := 70) (v := 0) hx hb dX10_isStalled_70 (by decide) ?_
              refine r_cVi (pc := 71) (As := [.int v9, .int 4, .int 0]) (rest := [.int v8]) CX P hl.1 hF kv_X10_114 (fun r h1 q => c_X10_ofProcess l G B _ _ _ _ _ _ _ q) rfl rfl ⟨Nat.le_of_ble_eq_true rfl, Nat.le_of_ble_eq_true rfl⟩ (Nat.le_of_ble_eq_true rfl) ⟨Nat.le_of_ble_eq_true rfl, Nat.le_of_ble_eq_true rfl⟩ dX10_isStalled_71 (fun v18 h19 H locs P hF => ?_)
              replace hF := un_i hF
              refine lv_if_ne (pc := 74) (tgt := 96) hx hb dX10_isStalled_74 (by decide) (fun hc => ?_) (fun hc => ?_)
              · rw [if_neg hc] at hF
                exact hJ17 _ _ _ _ _ P (lv_sub hl [1, 2, 3, 0, 5] rfl) hF
              · rw [if_pos hc] at hF
                refine lv_aload_n (pc := 77) hx hb dX10_isStalled_77 rfl (lv_at hl 1 rfl) ?_
                refine lv_iload (pc := 78) hx hb dX10_isStalled_78 (lv_at hl 5 rfl) ?_
                refine lv_bipush (pc := 80) (v := 6) hx hb dX10_isStalled_80 (by decide) ?_
                refine lv_iconst (pc := 82) (v := 0) hx hb dX10_isStalled_82 (by decide) ?_
                refine r_cVi (pc := 83) (As := [.int v9, .int 6, .int 0]) (rest := [.int v8]) CX P hl.1 hF kv_X10_114 (fun r h1 q => c_X10_ofProcess l G B _ _ _ _ _ _ _ q) rfl rfl ⟨Nat.le_of_ble_eq_true rfl, Nat.le_of_ble_eq_true rfl⟩ (Nat.le_of_ble_eq_true rfl) ⟨Nat.le_of_ble_eq_true rfl, Nat.le_of_ble_eq_true rfl⟩ dX10_isStalled_83 (fun v20 h21 H locs P hF => ?_)
                replace hF := un_i hF
                refine lv_if_le (pc := 86) (tgt := 96) hx hb dX10_isStalled_86 (by decide) (fun hc => ?_) (fun hc => ?_)
                · rw [if_pos hc] at hF
                  exact hJ17 _ _ _ _ _ P (lv_sub hl [1, 2, 3, 0, 5] rfl) hF
                · rw [if_neg hc] at hF
                  refine lv_iconst (pc := 89) (v := 1) hx hb dX10_isStalled_89 (by decide) ?_
                  refine lv_iload (pc := 90) hx hb dX10_isStalled_90 (lv_at hl 5 rfl) ?_
                  refine lv_ishl (pc := 92) hx hb dX10_isStalled_92 ?_
                  refine lv_goto (pc := 93) (tgt := 97) hx hb dX10_isStalled_93 (by decide) ?_
                  refine lv_ior (pc := 97) hx hb dX10_isStalled_97 ?_
                  refine lv_topi (fun v22 ev22 => ?_)
                  replace hF := bl_e hF ev22
                  refine lv_istore (pc := 98) hx hb dX10_isStalled_98 hl (by decide) rfl (fun ls hl => ?_)
                  replace hl : lv_has ls 7 [(5, .int v22), (4, .int v15), (0, .ref (B + a0)), (2, .int vp2), (3, .int v1), (6, .int v9)] := hl
                  obtain ⟨v23, ev23, hF⟩ := bl_o hF
                  refine lv_iinc (pc := 100) (k := 5) (v := v23) hx hb dX10_isStalled_100 hl rfl ev23 (by decide) rfl (fun ls hl => ?_)
                  replace hl : lv_has ls 7 [(6, .int v23), (5, .int v22), (4, .int v15), (0, .ref (B + a0)), (2, .int vp2), (3, .int v1)] := hl
                  refine lv_goto (pc := 103) (tgt := 15) hx hb dX10_isStalled_103 (by decide) ?_
                  exact ih _ _ _ _ _ _ _ P (lv_sub hl [3, 4, 5, 2, 1, 0] rfl) (hI3 _ (Option.some.inj hF).symm)
  exact hL3 _ _ _ _ _ _ _ _ P (lv_sub hl [4, 6, 3, 2, 1, 0] rfl) hLp3
def F_X10_averages_L3 (a2 : Nat) (v3 : Int32) (v4 : Int32) (v5 : Int32) (v6 : Int32) (h7 : Hp) : Option ((Int32 × Hp) ⊕ (Hp)) :=
if 3 ≤ v6 then (
some (.inr h7)) else (
bl ((25 + (3 * v4)) + v6) fun v8 =>
(gR h7 a2 10 7).bind fun a9 =>
(aI h7 a9 v6).bind fun v10 =>
(cO h7 a2 10 (F_X10_of h7 a2 v3 v8 0)).bind (un fun v11 h12 =>
(if v5 = 0 then (
some 0) else (
some 1000)).bind fun v14 =>
(gR h12 a2 10 7).bind fun a15 =>
(aI h12 a15 v6).bind fun v16 =>
(dvI (((v10 - 1) * v11) + v14) v16).bind fun v17 =>
(cO h12 a2 10 (F_X10_lays h12 a2 v3 v8 v17)).bind fun h18 =>
bl (v6 + 1) fun v19 =>
some (.inl (v19, h18))))
def F_X10_averages (h : Hp) (a0 : Nat) (vp1 : Int32) (vp2 : Int32) (vp3 : Int32) : Option (Hp) :=
(loopF (fun x => F_X10_averages_L3 a0 vp1 vp2 vp3 x.1 x.2) 6000 (0, h)).bind fun h20 =>
some h20
set_option maxRecDepth 100000 in
set_option maxHeartbeats 4000000 in
theorem c_X10_averages (l : Launch) (G : GG) (B : Nat) (h : Hp) (a0 : Nat) (vp1 : Int32) (vp2 : Int32) (vp3 : Int32) (hr : Hp) (hF : F_X10_averages h a0 vp1 vp2 vp3 = some hr) : CV l yX10_averages cX10_averages 6 1 23 0 0 G B h [.ref (B + a0), .int vp1, .int vp2, .int vp3] hr := by
  refine ent_v rfl (Nat.le_of_ble_eq_true rfl) ?_
  intro p e s m args below meth c ls Q CX hnm hret P hl
  have CX : Cxt p m c cX10_averages 6 s args RX10 G B := CX
  obtain ⟨⟨hx, hb, hml, hown, hts⟩, -, -⟩ := id CX
  replace hl : lv_has ls 6 [(0, .ref (B + a0)), (1, .int vp1), (2, .int vp2), (3, .int vp3)] := hl
  generalize s.heap = H at P ⊢
  generalize ([] : List Loc) = locs at P ⊢
  unfold F_X10_averages at hF
  refine lv_iconst (pc := 0) (v := 0) hx hb dX10_averages_0 (by decide) ?_
  refine lv_istore (pc := 1) hx hb dX10_averages_1 hl (by decide) rfl (fun ls hl => ?_)
  replace hl : lv_has ls 6 [(4, .int 0), (0, .ref (B + a0)), (1, .int vp1), (2, .int vp2), (3, .int vp3)] := hl
  obtain ⟨r1, hLp1, hK1⟩ := bd_some hF
  have hX1 : ∀ (h20 : Hp) (H : Heap) (locs : List Loc) (ls : Array Slot), Pic G B h20 s H locs → lv_has ls 6 [] → h20 = r1 → W p l e (rmM 1 23 0 0) s m args below meth c H locs 0 0 Q (F0 m 71 ls []) := by
    intro h20 H locs ls P hl er
    subst er
    have hF := hK1
    cases hF
    exact hret _ _ _ _ P dX10_averages_71
  have hL1 : ∀ (n : Nat) (v6 : Int32) (h7 : Hp) (H : Heap) (locs : List Loc) (ls : Array Slot), Pic G B h7 s H locs → lv_has ls 6 [(0, .ref (B + a0)), (1, .int vp1), (2, .int vp2), (3, .int vp3), (4, .int v6)] → loopF (fun x => F_X10_averages_L3 a0 vp1 vp2 vp3 x.1 x.2) n (v6, h7) = some r1 → W p l e (rmM 1 23 0 0) s m args below meth c H locs 0 0 Q (F0 m 3 ls []) := by
    intro n
    induction n with
    | zero => intro v6 h7 H locs ls P hl hq; cases hq
    | succ n ih =>
      intro v6 h7 H locs ls P hl hq
      obtain ⟨z1, hS1, hI1, hR1⟩ := loop_some hq
      have hF : F_X10_averages_L3 a0 vp1 vp2 vp3 v6 h7 = some z1 := hS1
      unfold F_X10_averages_L3 at hF
      refine lv_iload (pc := 3) hx hb dX10_averages_3 (lv_at hl 4 rfl) ?_
      refine lv_iconst (pc := 5) (v := 3) hx hb dX10_averages_5 (by decide) ?_
      refine lv_icmp_ge (pc := 6) (tgt := 71) hx hb dX10_averages_6 (by decide) (fun hc => ?_) (fun hc => ?_)
      · rw [if_pos hc] at hF
        exact hX1 _ _ _ _ P (lv_sub hl [] rfl) (hR1 _ (Option.some.inj hF).symm)
      · rw [if_neg hc] at hF
        refine lv_bipush (pc := 9) (v := 25) hx hb dX10_averages_9 (by decide) ?_
        refine lv_iconst (pc := 11) (v := 3) hx hb dX10_averages_11 (by decide) ?_
        refine lv_iload_n (pc := 12) hx hb dX10_averages_12 rfl (lv_at hl 2 rfl) ?_
        refine lv_imul (pc := 13) hx hb dX10_averages_13 ?_
        refine lv_iadd (pc := 14) hx hb dX10_averages_14 ?_
        refine lv_iload (pc := 15) hx hb dX10_averages_15 (lv_at hl 4 rfl) ?_
        refine lv_iadd (pc := 17) hx hb dX10_averages_17 ?_
        refine lv_topi (fun v8 ev8 => ?_)
        replace hF := bl_e hF ev8
        refine lv_istore (pc := 18) hx hb dX10_averages_18 hl (by decide) rfl (fun ls hl => ?_)
        replace hl : lv_has ls 6 [(5, .int v8), (0, .ref (B + a0)), (1, .int vp1), (2, .int vp2), (3, .int vp3), (4, .int v6)] := hl
        refine lv_aload_n (pc := 20) hx hb dX10_averages_20 rfl (lv_at hl 1 rfl) ?_
        refine lv_iload_n (pc := 21) hx hb dX10_averages_21 rfl (lv_at hl 2 rfl) ?_
        refine lv_iload (pc := 22) hx hb dX10_averages_22 (lv_at hl 0 rfl) ?_
        refine lv_aload_n (pc := 24) hx hb dX10_averages_24 rfl (lv_at hl 1 rfl) ?_
        refine r_gR (pc := 25) CX P hF fl_X10_32 dX10_averages_25 (fun a9 hF => ?_)
        refine lv_iload (pc := 28) hx hb dX10_averages_28 (lv_at hl 5 rfl) ?_
        refine r_aI (pc := 30) CX P hF dX10_averages_30 (fun v10 hF => ?_)
        refine lv_iconst (pc := 31) (v := 1) hx hb dX10_averages_31 (by decide) ?_
        refine lv_isub (pc := 32) hx hb dX10_averages_32 ?_
        refine lv_aload_n (pc := 33) hx hb dX10_averages_33 rfl (lv_at hl 1 rfl) ?_
        refine lv_iload_n (pc := 34) hx hb dX10_averages_34 rfl (lv_at hl 2 rfl) ?_
        refine lv_iload (pc := 35) hx hb dX10_averages_35 (lv_at hl 0 rfl) ?_
        refine lv_iconst (pc := 37) (v := 0) hx hb dX10_averages_37 (by decide) ?_
        refine r_cVi (pc := 38) (As := [.int vp1, .int v8, .int 0]) (rest := [.int (v10 - 1), .int v8, .int vp1, .ref (B + a0)]) CX P hl.1 hF kv_X10_99 (fun r h1 q => c_X10_of l G B _ _ _ _ _ _ _ q) rfl rfl ⟨Nat.le_of_ble_eq_true rfl, Nat.le_of_ble_eq_true rfl⟩ (Nat.le_of_ble_eq_true rfl) ⟨Nat.le_of_ble_eq_true rfl, Nat.le_of_ble_eq_true rfl⟩ dX10_averages_38 (fun v11 h12 H locs P hF => ?_)
        replace hF := un_i hF
        refine lv_imul (pc := 41) hx hb dX10_averages_41 ?_
        refine lv_iload_n (pc := 42) hx hb dX10_averages_42 rfl (lv_at hl 4 rfl) ?_
        obtain ⟨j13, hA13, hK13⟩ := bd_some hF
        have hJ13 : ∀ (v14 : Int32) (H : Heap) (locs : List Loc) (ls : Array Slot), Pic G B h12 s H locs → lv_has ls 6 [(0, .ref (B + a0)), (1, .int vp1), (2, .int vp2), (3, .int vp3), (4, .int v6)] → v14 = j13 → W p l e (rmM 1 23 0 0) s m args below meth c H locs 0 0 Q (F0 m 53 ls [.int v14, .int ((v10 - 1) * v11), .int v8, .int vp1, .ref (B + a0)]) := by
          intro v14 H locs ls P hl ej
          subst ej
          have hF := hK13
          refine lv_iadd (pc := 53) hx hb dX10_averages_53 ?_
          refine lv_aload_n (pc := 54) hx hb dX10_averages_54 rfl (lv_at hl 0 rfl) ?_
          refine r_gR (pc := 55) CX P hF fl_X10_32 dX10_averages_55 (fun a15 hF => ?_)
          refine lv_iload (pc := 58) hx hb dX10_averages_58 (lv_at hl 4 rfl) ?_
          refine r_aI (pc := 60) CX P hF dX10_averages_60 (fun v16 hF => ?_)
          refine r_dv (pc := 61) hx hb hF dX10_averages_61 (fun v17 hF => ?_)
          refine r_cVv (pc := 62) (As := [.int vp1, .int v8, .int v17]) (rest := []) CX P hl.1 hF kv_X10_95 (fun h1 q => c_X10_lays l G B _ _ _ _ _ _ q) rfl rfl ⟨Nat.le_of_ble_eq_true rfl, Nat.le_of_ble_eq_true rfl⟩ (Nat.le_of_ble_eq_true rfl) ⟨Nat.le_of_ble_eq_true rfl, Nat.le_of_ble_eq_true rfl⟩ dX10_averages_62 (fun h18 H locs P hF => ?_)
          obtain ⟨v19, ev19, hF⟩ := bl_o hF
          refine lv_iinc (pc := 65) (k := 4) (v := v19) hx hb dX10_averages_65 hl rfl ev19 (by decide) rfl (fun ls hl => ?_)
          replace hl : lv_has ls 6 [(4, .int v19), (0, .ref (B + a0)), (1, .int vp1), (2, .int vp2), (3, .int vp3)] := hl
          refine lv_goto (pc := 68) (tgt := 3) hx hb dX10_averages_68 (by decide) ?_
          exact ih _ _ _ _ _ P (lv_sub hl [1, 2, 3, 4, 0] rfl) (hI1 _ (Option.some.inj hF).symm)
        replace hF := hA13
        refine lv_if_eq (pc := 43) (tgt := 52) hx hb dX10_averages_43 (by decide) (fun hc => ?_) (fun hc => ?_)
        · rw [if_pos hc] at hF
          refine lv_iconst (pc := 52) (v := 0) hx hb dX10_averages_52 (by decide) ?_
          exact hJ13 _ _ _ _ P (lv_sub hl [1, 2, 3, 4, 5] rfl) (Option.some.inj hF)
        · rw [if_neg hc] at hF
          refine lv_sipush (pc := 46) (v := 1000) hx hb dX10_averages_46 (by decide) ?_
          refine lv_goto (pc := 49) (tgt := 53) hx hb dX10_averages_49 (by decide) ?_
          exact hJ13 _ _ _ _ P (lv_sub hl [1, 2, 3, 4, 5] rfl) (Option.some.inj hF)
  exact hL1 _ _ _ _ _ _ P (lv_sub hl [1, 2, 3, 4, 0] rfl) hLp1
def F_X10_isOver (h : Hp) (a0 : Nat) (vp1 : Int32) : Option (Int32 × Hp) :=
bl (543 + (4 * vp1)) fun v1 =>
(gR h a0 10 1).bind fun a2 =>
(aI h a2 (v1 + 0)).bind fun v3 =>
(gR h a0 10 1).bind fun a4 =>
(aI h a4 (v1 + 1)).bind fun v5 =>
(cO h a0 10 (F_X10_pressureOf h a0 v3 0 v5)).bind (un fun v6 h7 =>
(gR h7 a0 10 1).bind fun a8 =>
(aI h7 a8 (v1 + 2)).bind fun v9 =>
if v6 < v9 then (
some (0, h7)) else (
some (1, h7)))
set_option maxRecDepth 100000 in
set_option maxHeartbeats 4000000 in
theorem c_X10_isOver (l : Launch) (G : GG) (B : Nat) (h : Hp) (a0 : Nat) (vp1 : Int32) (r0 : Int32) (hr : Hp) (hF : F_X10_isOver h a0 vp1 = some (r0, hr)) : CI l yX10_isOver cX10_isOver 3 .boolean 3 72 0 0 G B h [.ref (B + a0), .int vp1] r0 hr := by
  refine ent_i rfl (Nat.le_of_ble_eq_true rfl) ?_
  intro p e s m args below meth c ls Q CX hnm hret P hl
  have CX : Cxt p m c cX10_isOver 3 s args RX10 G B := CX
  obtain ⟨⟨hx, hb, hml, hown, hts⟩, -, -⟩ := id CX
  replace hl : lv_has ls 3 [(0, .ref (B + a0)), (1, .int vp1)] := hl
  generalize s.heap = H at P ⊢
  generalize ([] : List Loc) = locs at P ⊢
  unfold F_X10_isOver at hF
  refine lv_sipush (pc := 0) (v := 543) hx hb dX10_isOver_0 (by decide) ?_
  refine lv_iconst (pc := 3) (v := 4) hx hb dX10_isOver_3 (by decide) ?_
  refine lv_iload_n (pc := 4) hx hb dX10_isOver_4 rfl (lv_at hl 1 rfl) ?_
  refine lv_imul (pc := 5) hx hb dX10_isOver_5 ?_
  refine lv_iadd (pc := 6) hx hb dX10_isOver_6 ?_
  refine lv_topi (fun v1 ev1 => ?_)
  replace hF := bl_e hF ev1
  refine lv_istore_n (pc := 7) hx hb dX10_isOver_7 rfl hl (by decide) rfl (fun ls hl => ?_)
  replace hl : lv_has ls 3 [(2, .int v1), (0, .ref (B + a0)), (1, .int vp1)] := hl
  refine lv_aload_n (pc := 8) hx hb dX10_isOver_8 rfl (lv_at hl 1 rfl) ?_
  refine lv_aload_n (pc := 9) hx hb dX10_isOver_9 rfl (lv_at hl 1 rfl) ?_
  refine r_gR (pc := 10) CX P hF fl_X10_13 dX10_isOver_10 (fun a2 hF => ?_)
  refine lv_iload_n (pc := 13) hx hb dX10_isOver_13 rfl (lv_at hl 0 rfl) ?_
  refine lv_iconst (pc := 14) (v := 0) hx hb dX10_isOver_14 (by decide) ?_
  refine lv_iadd (pc := 15) hx hb dX10_isOver_15 ?_
  refine r_aI (pc := 16) CX P hF dX10_isOver_16 (fun v3 hF => ?_)
  refine lv_iconst (pc := 17) (v := 0) hx hb dX10_isOver_17 (by decide) ?_
  refine lv_aload_n (pc := 18) hx hb dX10_isOver_18 rfl (lv_at hl 1 rfl) ?_
  refine r_gR (pc := 19) CX P hF fl_X10_13 dX10_isOver_19 (fun a4 hF => ?_)
  refine lv_iload_n (pc := 22) hx hb dX10_isOver_22 rfl (lv_at hl 0 rfl) ?_
  refine lv_iconst (pc := 23) (v := 1) hx hb dX10_isOver_23 (by decide) ?_
  refine lv_iadd (pc := 24) hx hb dX10_isOver_24 ?_
  refine r_aI (pc := 25) CX P hF dX10_isOver_25 (fun v5 hF => ?_)
  refine r_cVi (pc := 26) (As := [.int v3, .int 0, .int v5]) (rest := []) CX P hl.1 hF kv_X10_285 (fun r h1 q => c_X10_pressureOf l G B _ _ _ _ _ _ _ q) rfl rfl ⟨Nat.le_of_ble_eq_true rfl, Nat.le_of_ble_eq_true rfl⟩ (Nat.le_of_ble_eq_true rfl) ⟨Nat.le_of_ble_eq_true rfl, Nat.le_of_ble_eq_true rfl⟩ dX10_isOver_26 (fun v6 h7 H locs P hF => ?_)
  replace hF := un_i hF
  refine lv_aload_n (pc := 29) hx hb dX10_isOver_29 rfl (lv_at hl 1 rfl) ?_
  refine r_gR (pc := 30) CX P hF fl_X10_13 dX10_isOver_30 (fun a8 hF => ?_)
  refine lv_iload_n (pc := 33) hx hb dX10_isOver_33 rfl (lv_at hl 0 rfl) ?_
  refine lv_iconst (pc := 34) (v := 2) hx hb dX10_isOver_34 (by decide) ?_
  refine lv_iadd (pc := 35) hx hb dX10_isOver_35 ?_
  refine r_aI (pc := 36) CX P hF dX10_isOver_36 (fun v9 hF => ?_)
  refine lv_icmp_lt (pc := 37) (tgt := 44) hx hb dX10_isOver_37 (by decide) (fun hc => ?_) (fun hc => ?_)
  · rw [if_pos hc] at hF
    refine lv_iconst (pc := 44) (v := 0) hx hb dX10_isOver_44 (by decide) ?_
    cases hF
    exact hret _ _ _ _ P rfl dX10_isOver_45
  · rw [if_neg hc] at hF
    refine lv_iconst (pc := 40) (v := 1) hx hb dX10_isOver_40 (by decide) ?_
    refine lv_goto (pc := 41) (tgt := 45) hx hb dX10_isOver_41 (by decide) ?_
    cases hF
    exact hret _ _ _ _ P rfl dX10_isOver_45
