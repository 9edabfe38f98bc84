def F_X10_move_L44 (a7 : Nat) (v8 : Int32) (v9 : Int32) (v10 : Int32) (v11 : Int32) (v12 : Int32) (h13 : Hp) : Option ((Int32 × Int32 × Hp) ⊕ (Int32 × Hp)) :=
if v12 = (-1) then (
some (.inr (v11, h13))) else (
(cO h13 a7 10 (F_X10_isBelow h13 a7 v10 v12)).bind (un fun v14 h15 =>
if v14 = 0 then (
(cO h15 a7 10 (F_X10_hasRoomFor h15 a7 v12 v8)).bind (un fun v16 h17 =>
bl (v11 &&& v16) fun v18 =>
(cO h17 a7 10 (F_X10_parentOf h17 a7 v12)).bind (un fun v19 h20 =>
some (.inl (v18, v19, h20))))) else (
some (.inr (v11, h15)))))
def F_X10_move_L105 (a27 : Nat) (v28 : Int32) (v29 : Int32) (v30 : Int32) (v31 : Int32) (v32 : Int32) (v33 : Int32) (h34 : Hp) : Option ((Int32 × Int32 × Hp) ⊕ (Int32 × Hp)) :=
if v33 = (-1) then (
some (.inr (v32, h34))) else (
(cO h34 a27 10 (F_X10_isBelow h34 a27 v30 v33)).bind (un fun v35 h36 =>
if v35 = 0 then (
(cO h36 a27 10 (F_X10_totalOf h36 a27 v33)).bind (un fun v37 h38 =>
(cO h38 a27 10 (F_X10_of h38 a27 v33 3 0)).bind (un fun v39 h40 =>
bl ((v37 + v31) - v39) fun v41 =>
(if 0 < v41 then (
(cO h40 a27 10 (F_X10_of h40 a27 v33 13 1)).bind (un fun v43 h44 =>
(cO h44 a27 10 (F_X10_takes h44 a27 v33 v41)).bind (un fun v45 h46 =>
(cO h46 a27 10 (F_X10_totalOf h46 a27 v33)).bind (un fun v47 h48 =>
(cO h48 a27 10 (F_X10_of h48 a27 v33 3 0)).bind (un fun v49 h50 =>
if v49 < (v47 + v31) then (
bl (v32 &&& 0) fun v51 =>
some (v51, h50)) else (
bl (v32 &&& 1) fun v52 =>
some (v52, h50))))))) else (
some (v32, h40))).bind fun q42 =>
bl q42.1 fun v53 =>
bl q42.2 fun h54 =>
(cO h54 a27 10 (F_X10_parentOf h54 a27 v33)).bind (un fun v55 h56 =>
some (.inl (v53, v55, h56)))))) else (
some (.inr (v32, h36)))))
def F_X10_move (h : Hp) (a0 : Nat) (vp1 : Int32) (vp2 : Int32) : Option (Int32 × Hp) :=
(pI h a0 10 0 0).bind fun h1 =>
(cO h1 a0 10 (F_X10_isProcess h1 a0 vp1)).bind fun v2 =>
if v2 = 0 then (
some ((-2), h1)) else (
(cO h1 a0 10 (F_X10_isGroup h1 a0 vp2)).bind fun v3 =>
if v3 = 0 then (
some ((-2), h1)) else (
(cO h1 a0 10 (F_X10_groupOf h1 a0 vp1)).bind (un fun v4 h5 =>
if v4 = vp2 then (
some ((-5), h5)) else (
(loopF (fun x => F_X10_move_L44 a0 vp1 vp2 v4 x.1 x.2.1 x.2.2) 6000 (1, vp2, h5)).bind fun q6 =>
bl q6.1 fun v21 =>
bl q6.2 fun h22 =>
if v21 = 0 then (
some ((-4), h22)) else (
(cO h22 a0 10 (F_X10_begins h22 a0)).bind fun h23 =>
(cO h23 a0 10 (F_X10_pagesOf h23 a0 vp1)).bind (un fun v24 h25 =>
(loopF (fun x => F_X10_move_L105 a0 vp1 vp2 v4 v24 x.1 x.2.1 x.2.2) 6000 (v21, vp2, h25)).bind fun q26 =>
bl q26.1 fun v57 =>
bl q26.2 fun h58 =>
if v57 = 0 then (
(cO h58 a0 10 (F_X10_ends h58 a0 (-4) 0)).bind (un fun v62 h63 =>
some (v62, h63))) else (
(cO h58 a0 10 (F_X10_laysProcess h58 a0 vp1 0 vp2)).bind fun h59 =>
(cO h59 a0 10 (F_X10_ends h59 a0 v4 1)).bind (un fun v60 h61 =>
some (v60, h61)))))))))
set_option maxRecDepth 100000 in
set_option maxHeartbeats 4000000 in
theorem c_X10_move (l : Launch) (G : GG) (B : Nat) (h : Hp) (a0 : Nat) (vp1 : Int32) (vp2 : Int32) (r0 : Int32) (hr : Hp) (hF : F_X10_move h a0 vp1 vp2 = some (r0, hr)) : CI l yX10_move cX10_move 9 .int 8 191 0 0 G B h [.ref (B + a0), .int vp1, .int vp2] r0 hr := by
  refine ent_i rfl (Nat.le_of_ble_eq_true rfl) ?_
  intro p e s m args below meth c ls Q CX hnm hret P hl
  have CX : Cxt p m c cX10_move 9 s args RX10 G B := CX
  obtain ⟨⟨hx, hb, hml, hown, hts⟩, -, -⟩ := id CX
  replace hl : lv_has ls 9 [(0, .ref (B + a0)), (1, .int vp1), (2, .int vp2)] := hl
  generalize s.heap = H at P ⊢
  generalize ([] : List Loc) = locs at P ⊢
  unfold F_X10_move at hF
  refine lv_aload_n (pc := 0) hx hb dX10_move_0 rfl (lv_at hl 0 rfl) ?_
  refine lv_iconst (pc := 1) (v := 0) hx hb dX10_move_1 (by decide) ?_
  refine r_pI (pc := 2) CX P hF fl_X10_1 dX10_move_2 (fun h1 H locs P hF => ?_)
  refine lv_aload_n (pc := 5) hx hb dX10_move_5 rfl (lv_at hl 0 rfl) ?_
  refine lv_iload_n (pc := 6) hx hb dX10_move_6 rfl (lv_at hl 1 rfl) ?_
  refine r_cVp (pc := 7) (As := [.int vp1]) (rest := []) CX P hl.1 hF kv_X10_117 (fun r q => c_X10_isProcess l G B _ _ _ _ q) rfl rfl ⟨Nat.le_of_ble_eq_true rfl, Nat.le_of_ble_eq_true rfl⟩ (Nat.le_of_ble_eq_true rfl) ⟨Nat.le_of_ble_eq_true rfl, Nat.le_of_ble_eq_true rfl⟩ dX10_move_7 (fun v2 H locs P hF => ?_)
  refine lv_if_eq (pc := 10) (tgt := 21) hx hb dX10_move_10 (by decide) (fun hc => ?_) (fun hc => ?_)
  · rw [if_pos hc] at hF
    refine lv_bipush (pc := 21) (v := (-2)) hx hb dX10_move_21 (by decide) ?_
    cases hF
    exact hret _ _ _ _ P rfl dX10_move_23
  · rw [if_neg hc] at hF
    refine lv_aload_n (pc := 13) hx hb dX10_move_13 rfl (lv_at hl 0 rfl) ?_
    refine lv_iload_n (pc := 14) hx hb dX10_move_14 rfl (lv_at hl 2 rfl) ?_
    refine r_cVp (pc := 15) (As := [.int vp2]) (rest := []) CX P hl.1 hF kv_X10_107 (fun r q => c_X10_isGroup l G B _ _ _ _ q) rfl rfl ⟨Nat.le_of_ble_eq_true rfl, Nat.le_of_ble_eq_true rfl⟩ (Nat.le_of_ble_eq_true rfl) ⟨Nat.le_of_ble_eq_true rfl, Nat.le_of_ble_eq_true rfl⟩ dX10_move_15 (fun v3 H locs P hF => ?_)
    refine lv_if_ne (pc := 18) (tgt := 24) hx hb dX10_move_18 (by decide) (fun hc => ?_) (fun hc => ?_)
    · rw [if_neg hc] at hF
      refine lv_aload_n (pc := 24) hx hb dX10_move_24 rfl (lv_at hl 0 rfl) ?_
      refine lv_iload_n (pc := 25) hx hb dX10_move_25 rfl (lv_at hl 1 rfl) ?_
      refine r_cVi (pc := 26) (As := [.int vp1]) (rest := []) CX P hl.1 hF kv_X10_120 (fun r h1 q => c_X10_groupOf l G B _ _ _ _ _ q) rfl rfl ⟨Nat.le_of_ble_eq_true rfl, Nat.le_of_ble_eq_true rfl⟩ (Nat.le_of_ble_eq_true rfl) ⟨Nat.le_of_ble_eq_true rfl, Nat.le_of_ble_eq_true rfl⟩ dX10_move_26 (fun v4 h5 H locs P hF => ?_)
      replace hF := un_i hF
      refine lv_istore_n (pc := 29) hx hb dX10_move_29 rfl hl (by decide) rfl (fun ls hl => ?_)
      replace hl : lv_has ls 9 [(3, .int v4), (0, .ref (B + a0)), (1, .int vp1), (2, .int vp2)] := hl
      refine lv_iload_n (pc := 30) hx hb dX10_move_30 rfl (lv_at hl 0 rfl) ?_
      refine lv_iload_n (pc := 31) hx hb dX10_move_31 rfl (lv_at hl 3 rfl) ?_
      refine lv_icmp_ne (pc := 32) (tgt := 38) hx hb dX10_move_32 (by decide) (fun hc => ?_) (fun hc => ?_)
      · rw [if_neg hc] at hF
        refine lv_iconst (pc := 38) (v := 1) hx hb dX10_move_38 (by decide) ?_
        refine lv_istore (pc := 39) hx hb dX10_move_39 hl (by decide) rfl (fun ls hl => ?_)
        replace hl : lv_has ls 9 [(4, .int 1), (3, .int v4), (0, .ref (B + a0)), (1, .int vp1), (2, .int vp2)] := hl
        refine lv_iload_n (pc := 41) hx hb dX10_move_41 rfl (lv_at hl 4 rfl) ?_
        refine lv_istore (pc := 42) hx hb dX10_move_42 hl (by decide) rfl (fun ls hl => ?_)
        replace hl : lv_has ls 9 [(5, .int vp2), (4, .int 1), (3, .int v4), (0, .ref (B + a0)), (1, .int vp1), (2, .int vp2)] := hl
        obtain ⟨r6, hLp6, hK6⟩ := bd_some hF
        have hX6 : ∀ (v21 : Int32) (h22 : Hp) (H : Heap) (locs : List Loc) (ls : Array Slot), Pic G B h22 s H locs → lv_has ls 9 [(0, .ref (B + a0)), (1, .int vp1), (2, .int vp2), (3, .int v4), (4, .int v21)] → (v21, h22) = r6 → W p l e (rmM 8 191 0 0) s m args below meth c H locs 0 0 Q (F0 m 83 ls []) := by
          intro v21 h22 H locs ls P hl er
          subst er
          have hF := hK6
          replace hF := bl_i hF
          replace hF := bl_i hF
          dsimp only at hF
          refine lv_iload (pc := 83) hx hb dX10_move_83 (lv_at hl 4 rfl) ?_
          refine lv_if_ne (pc := 85) (tgt := 91) hx hb dX10_move_85 (by decide) (fun hc => ?_) (fun hc => ?_)
          · rw [if_neg hc] at hF
            refine lv_aload_n (pc := 91) hx hb dX10_move_91 rfl (lv_at hl 0 rfl) ?_
            refine r_cVv (pc := 92) (As := []) (rest := []) CX P hl.1 hF kv_X10_211 (fun h1 q => c_X10_begins l G B _ _ _ q) rfl rfl ⟨Nat.le_of_ble_eq_true rfl, Nat.le_of_ble_eq_true rfl⟩ (Nat.le_of_ble_eq_true rfl) ⟨Nat.le_of_ble_eq_true rfl, Nat.le_of_ble_eq_true rfl⟩ dX10_move_92 (fun h23 H locs P hF => ?_)
            refine lv_aload_n (pc := 95) hx hb dX10_move_95 rfl (lv_at hl 0 rfl) ?_
            refine lv_iload_n (pc := 96) hx hb dX10_move_96 rfl (lv_at hl 1 rfl) ?_
            refine r_cVi (pc := 97) (As := [.int vp1]) (rest := []) CX P hl.1 hF kv_X10_134 (fun r h1 q => c_X10_pagesOf l G B _ _ _ _ _ q) rfl rfl ⟨Nat.le_of_ble_eq_true rfl, Nat.le_of_ble_eq_true rfl⟩ (Nat.le_of_ble_eq_true rfl) ⟨Nat.le_of_ble_eq_true rfl, Nat.le_of_ble_eq_true rfl⟩ dX10_move_97 (fun v24 h25 H locs P hF => ?_)
            replace hF := un_i hF
            refine lv_istore (pc := 100) hx hb dX10_move_100 hl (by decide) rfl (fun ls hl => ?_)
            replace hl : lv_has ls 9 [(5, .int v24), (0, .ref (B + a0)), (1, .int vp1), (2, .int vp2), (3, .int v4), (4, .int v21)] := hl
            refine lv_iload_n (pc := 102) hx hb dX10_move_102 rfl (lv_at hl 3 rfl) ?_
            refine lv_istore (pc := 103) hx hb dX10_move_103 hl (by decide) rfl (fun ls hl => ?_)
            replace hl : lv_has ls 9 [(6, .int vp2), (5, .int v24), (0, .ref (B + a0)), (1, .int vp1), (2, .int vp2), (3, .int v4), (4, .int v21)] := hl
            obtain ⟨r26, hLp26, hK26⟩ := bd_some hF
            have hX26 : ∀ (v57 : Int32) (h58 : Hp) (H : Heap) (locs : List Loc) (ls : Array Slot), Pic G B h58 s H locs → lv_has ls 9 [(0, .ref (B + a0)), (1, .int vp1), (2, .int vp2), (3, .int v4), (4, .int v57)] → (v57, h58) = r26 → W p l e (rmM 8 191 0 0) s m args below meth c H locs 0 0 Q (F0 m 210 ls []) := by
              intro v57 h58 H locs ls P hl er
              subst er
              have hF := hK26
              replace hF := bl_i hF
              replace hF := bl_i hF
              dsimp only at hF
              refine lv_iload (pc := 210) hx hb dX10_move_210 (lv_at hl 4 rfl) ?_
              refine lv_if_ne (pc := 212) (tgt := 223) hx hb dX10_move_212 (by decide) (fun hc => ?_) (fun hc => ?_)
              · rw [if_neg hc] at hF
                refine lv_aload_n (pc := 223) hx hb dX10_move_223 rfl (lv_at hl 0 rfl) ?_
                refine lv_iload_n (pc := 224) hx hb dX10_move_224 rfl (lv_at hl 1 rfl) ?_
                refine lv_iconst (pc := 225) (v := 0) hx hb dX10_move_225 (by decide) ?_
                refine lv_iload_n (pc := 226) hx hb dX10_move_226 rfl (lv_at hl 2 rfl) ?_
                refine r_cVv (pc := 227) (As := [.int vp1, .int 0, .int vp2]) (rest := []) CX P hl.1 hF kv_X10_174 (fun h1 q => c_X10_laysProcess l G B _ _ _ _ _ _ q) rfl rfl ⟨Nat.le_of_ble_eq_true rfl, Nat.le_of_ble_eq_true rfl⟩ (Nat.le_of_ble_eq_true rfl) ⟨Nat.le_of_ble_eq_true rfl, Nat.le_of_ble_eq_true rfl⟩ dX10_move_227 (fun h59 H locs P hF => ?_)
                refine lv_aload_n (pc := 230) hx hb dX10_move_230 rfl (lv_at hl 0 rfl) ?_
                refine lv_iload_n (pc := 231) hx hb dX10_move_231 rfl (lv_at hl 3 rfl) ?_
                refine lv_iconst (pc := 232) (v := 1) hx hb dX10_move_232 (by decide) ?_
                refine r_cVi (pc := 233) (As := [.int v4, .int 1]) (rest := []) CX P hl.1 hF kv_X10_214 (fun r h1 q => c_X10_ends l G B _ _ _ _ _ _ q) rfl rfl ⟨Nat.le_of_ble_eq_true rfl, Nat.le_of_ble_eq_true rfl⟩ (Nat.le_of_ble_eq_true rfl) ⟨Nat.le_of_ble_eq_true rfl, Nat.le_of_ble_eq_true rfl⟩ dX10_move_233 (fun v60 h61 H locs P hF => ?_)
                replace hF := un_i hF
                cases hF
                exact hret _ _ _ _ P rfl dX10_move_236
              · rw [if_pos hc] at hF
                refine lv_aload_n (pc := 215) hx hb dX10_move_215 rfl (lv_at hl 0 rfl) ?_
                refine lv_bipush (pc := 216) (v := (-4)) hx hb dX10_move_216 (by decide) ?_
                refine lv_iconst (pc := 218) (v := 0) hx hb dX10_move_218 (by decide) ?_
                refine r_cVi (pc := 219) (As := [.int (-4), .int 0]) (rest := []) CX P hl.1 hF kv_X10_214 (fun r h1 q => c_X10_ends l G B _ _ _ _ _ _ q) rfl rfl ⟨Nat.le_of_ble_eq_true rfl, Nat.le_of_ble_eq_true rfl⟩ (Nat.le_of_ble_eq_true rfl) ⟨Nat.le_of_ble_eq_true rfl, Nat.le_of_ble_eq_true rfl⟩ dX10_move_219 (fun v62 h63 H locs P hF => ?_)
                replace hF := un_i hF
                cases hF
                exact hret _ _ _ _ P rfl dX10_move_222
            have hL26 : ∀ (n : Nat) (v32 : Int32) (v33 : Int32) (h34 : Hp) (H : Heap) (locs : List Loc) (ls : Array Slot), Pic G B h34 s H locs → lv_has ls 9 [(0, .ref (B + a0)), (1, .int vp1), (2, .int vp2), (3, .int v4), (4, .int v32), (5, .int v24), (6, .int v33)] → loopF (fun x => F_X10_move_L105 a0 vp1 vp2 v4 v24 x.1 x.2.1 x.2.2) n (v32, v33, h34) = some r26 → W p l e (rmM 8 191 0 0) s m args below meth c H locs 0 0 Q (F0 m 105 ls []) := by
              intro n
              induction n with
              | zero => intro v32 v33 h34 H locs ls P hl hq; cases hq
              | succ n ih =>
                intro v32 v33 h34 H locs ls P hl hq
                obtain ⟨z26, hS26, hI26, hR26⟩ := loop_some hq
                have hF : F_X10_move_L105 a0 vp1 vp2 v4 v24 v32 v33 h34 = some z26 := hS26
                unfold F_X10_move_L105 at hF
                refine lv_iload (pc := 105) hx hb dX10_move_105 (lv_at hl 6 rfl) ?_
                refine lv_iconst (pc := 107) (v := (-1)) hx hb dX10_move_107 (by decide) ?_
                refine lv_icmp_eq (pc := 108) (tgt := 210) hx hb dX10_move_108 (by decide) (fun hc => ?_) (fun hc => ?_)
                · rw [if_pos hc] at hF
                  exact hX26 _ _ _ _ _ P (lv_sub hl [0, 1, 2, 3, 4] rfl) (hR26 _ (Option.some.inj hF).symm)
                · rw [if_neg hc] at hF
                  refine lv_aload_n (pc := 111) hx hb dX10_move_111 rfl (lv_at hl 0 rfl) ?_
                  refine lv_iload_n (pc := 112) hx hb dX10_move_112 rfl (lv_at hl 3 rfl) ?_
                  refine lv_iload (pc := 113) hx hb dX10_move_113 (lv_at hl 6 rfl) ?_
                  refine r_cVi (pc := 115) (As := [.int v4, .int v33]) (rest := []) CX P hl.1 hF kv_X10_111 (fun r h1 q => c_X10_isBelow l G B _ _ _ _ _ _ q) rfl rfl ⟨Nat.le_of_ble_eq_true rfl, Nat.le_of_ble_eq_true rfl⟩ (Nat.le_of_ble_eq_true rfl) ⟨Nat.le_of_ble_eq_true rfl, Nat.le_of_ble_eq_true rfl⟩ dX10_move_115 (fun v35 h36 H locs P hF => ?_)
                  replace hF := un_i hF
                  refine lv_if_ne (pc := 118) (tgt := 210) hx hb dX10_move_118 (by decide) (fun hc => ?_) (fun hc => ?_)
                  · rw [if_neg hc] at hF
                    exact hX26 _ _ _ _ _ P (lv_sub hl [0, 1, 2, 3, 4] rfl) (hR26 _ (Option.some.inj hF).symm)
                  · rw [if_pos hc] at hF
                    refine lv_aload_n (pc := 121) hx hb dX10_move_121 rfl (lv_at hl 0 rfl) ?_
                    refine lv_iload (pc := 122) hx hb dX10_move_122 (lv_at hl 6 rfl) ?_
                    refine r_cVi (pc := 124) (As := [.int v33]) (rest := []) CX P hl.1 hF kv_X10_184 (fun r h1 q => c_X10_totalOf l G B _ _ _ _ _ q) rfl rfl ⟨Nat.le_of_ble_eq_true rfl, Nat.le_of_ble_eq_true rfl⟩ (Nat.le_of_ble_eq_true rfl) ⟨Nat.le_of_ble_eq_true rfl, Nat.le_of_ble_eq_true rfl⟩ dX10_move_124 (fun v37 h38 H locs P hF => ?_)
                    replace hF := un_i hF
                    refine lv_iload (pc := 127) hx hb dX10_move_127 (lv_at hl 5 rfl) ?_
                    refine lv_iadd (pc := 129) hx hb dX10_move_129 ?_
                    refine lv_aload_n (pc := 130) hx hb dX10_move_130 rfl (lv_at hl 0 rfl) ?_
                    refine lv_iload (pc := 131) hx hb dX10_move_131 (lv_at hl 6 rfl) ?_
                    refine lv_iconst (pc := 133) (v := 3) hx hb dX10_move_133 (by decide) ?_
                    refine lv_iconst (pc := 134) (v := 0) hx hb dX10_move_134 (by decide) ?_
                    refine r_cVi (pc := 135) (As := [.int v33, .int 3, .int 0]) (rest := [.int (v37 + v24)]) CX P hl.1 hF kv_X10_99 (fun r h1 q => c_X10_of l G B _ _ _ _ _ _ _ q) rfl rfl ⟨Nat.le_of_ble_eq_true rfl, Nat.le_of_ble_eq_true rfl⟩ (Nat.le_of_ble_eq_true rfl) ⟨Nat.le_of_ble_eq_true rfl, Nat.le_of_ble_eq_true rfl⟩ dX10_move_135 (fun v39 h40 H locs P hF => ?_)
                    replace hF := un_i hF
                    refine lv_isub (pc := 138) hx hb dX10_move_138 ?_
                    refine lv_topi (fun v41 ev41 => ?_)
                    replace hF := bl_e hF ev41
                    refine lv_istore (pc := 139) hx hb dX10_move_139 hl (by decide) rfl (fun ls hl => ?_)
                    replace hl : lv_has ls 9 [(7, .int v41), (0, .ref (B + a0)), (1, .int vp1), (2, .int vp2), (3, .int v4), (4, .int v32), (5, .int v24), (6, .int v33)] := hl
                    refine lv_iload (pc := 141) hx hb dX10_move_141 (lv_at hl 0 rfl) ?_
                    obtain ⟨j42, hA42, hK42⟩ := bd_some hF
                    have hJ42 : ∀ (v53 : Int32) (h54 : Hp) (H : Heap) (locs : List Loc) (ls : Array Slot), Pic G B h54 s H locs → lv_has ls 9 [(0, .ref (B + a0)), (1, .int vp1), (2, .int vp2), (3, .int v4), (4, .int v53), (5, .int v24), (6, .int v33)] → (v53, h54) = j42 → W p l e (rmM 8 191 0 0) s m args below meth c H locs 0 0 Q (F0 m 199 ls []) := by
                      intro v53 h54 H locs ls P hl ej
                      subst ej
                      have hF := hK42
                      replace hF := bl_i hF
                      replace hF := bl_i hF
                      dsimp only at hF
                      refine lv_aload_n (pc := 199) hx hb dX10_move_199 rfl (lv_at hl 0 rfl) ?_
                      refine lv_iload (pc := 200) hx hb dX10_move_200 (lv_at hl 6 rfl) ?_
                      refine r_cVi (pc := 202) (As := [.int v33]) (rest := []) CX P hl.1 hF kv_X10_103 (fun r h1 q => c_X10_parentOf l G B _ _ _ _ _ q) rfl rfl ⟨Nat.le_of_ble_eq_true rfl, Nat.le_of_ble_eq_true rfl⟩ (Nat.le_of_ble_eq_true rfl) ⟨Nat.le_of_ble_eq_true rfl, Nat.le_of_ble_eq_true rfl⟩ dX10_move_202 (fun v55 h56 H locs P hF => ?_)
                      replace hF := un_i hF
                      refine lv_istore (pc := 205) hx hb dX10_move_205 hl (by decide) rfl (fun ls hl => ?_)
                      replace hl : lv_has ls 9 [(6, .int v55), (0, .ref (B + a0)), (1, .int vp1), (2, .int vp2), (3, .int v4), (4, .int v53), (5, .int v24)] := hl
                      refine lv_goto (pc := 207) (tgt := 105) hx hb dX10_move_207 (by decide) ?_
                      exact ih _ _ _ _ _ _ P (lv_sub hl [1, 2, 3, 4, 5, 6, 0] rfl) (hI26 _ (Option.some.inj hF).symm)
                    replace hF := hA42
                    refine lv_if_gt (pc := 143) (tgt := 149) hx hb dX10_move_143 (by decide) (fun hc => ?_) (fun hc => ?_)
                    · rw [if_pos hc] at hF
                      refine lv_aload_n (pc := 149) hx hb dX10_move_149 rfl (lv_at hl 1 rfl) ?_
                      refine lv_iload (pc := 150) hx hb dX10_move_150 (lv_at hl 7 rfl) ?_
                      refine lv_bipush (pc := 152) (v := 13) hx hb dX10_move_152 (by decide) ?_
                      refine lv_iconst (pc := 154) (v := 1) hx hb dX10_move_154 (by decide) ?_
                      refine r_cVi (pc := 155) (As := [.int v33, .int 13, .int 1]) (rest := []) CX P hl.1 hF kv_X10_99 (fun r h1 q => c_X10_of l G B _ _ _ _ _ _ _ q) rfl rfl ⟨Nat.le_of_ble_eq_true rfl, Nat.le_of_ble_eq_true rfl⟩ (Nat.le_of_ble_eq_true rfl) ⟨Nat.le_of_ble_eq_true rfl, Nat.le_of_ble_eq_true rfl⟩ dX10_move_155 (fun v43 h44 H locs P hF => ?_)
                      replace hF := un_i hF
                      refine lv_pop (pc := 158) hx hb dX10_move_158 rfl ?_
                      refine lv_aload_n (pc := 159) hx hb dX10_move_159 rfl (lv_at hl 1 rfl) ?_
                      refine lv_iload (pc := 160) hx hb dX10_move_160 (lv_at hl 7 rfl) ?_
                      refine lv_iload (pc := 162) hx hb dX10_move_162 (lv_at hl 0 rfl) ?_
                      refine r_cVi (pc := 164) (As := [.int v33, .int v41]) (rest := []) CX P hl.1 hF kv_X10_190 (fun r h1 q => c_X10_takes l G B _ _ _ _ _ _ q) rfl rfl ⟨Nat.le_of_ble_eq_true rfl, Nat.le_of_ble_eq_true rfl⟩ (Nat.le_of_ble_eq_true rfl) ⟨Nat.le_of_ble_eq_true rfl, Nat.le_of_ble_eq_true rfl⟩ dX10_move_164 (fun v45 h46 H locs P hF => ?_)
                      replace hF := un_i hF
                      refine lv_istore (pc := 167) hx hb dX10_move_167 hl (by decide) rfl (fun ls hl => ?_)
                      replace hl : lv_has ls 9 [(8, .int v45), (7, .int v41), (0, .ref (B + a0)), (1, .int vp1), (2, .int vp2), (3, .int v4), (4, .int v32), (5, .int v24), (6, .int v33)] := hl
                      refine lv_iload (pc := 169) hx hb dX10_move_169 (lv_at hl 6 rfl) ?_
                      refine lv_aload_n (pc := 171) hx hb dX10_move_171 rfl (lv_at hl 2 rfl) ?_
                      refine lv_iload (pc := 172) hx hb dX10_move_172 (lv_at hl 8 rfl) ?_
                      refine r_cVi (pc := 174) (As := [.int v33]) (rest := [.int v32]) CX P hl.1 hF kv_X10_184 (fun r h1 q => c_X10_totalOf l G B _ _ _ _ _ q) rfl rfl ⟨Nat.le_of_ble_eq_true rfl, Nat.le_of_ble_eq_true rfl⟩ (Nat.le_of_ble_eq_true rfl) ⟨Nat.le_of_ble_eq_true rfl, Nat.le_of_ble_eq_true rfl⟩ dX10_move_174 (fun v47 h48 H locs P hF => ?_)
                      replace hF := un_i hF
                      refine lv_iload (pc := 177) hx hb dX10_move_177 (lv_at hl 7 rfl) ?_
                      refine lv_iadd (pc := 179) hx hb dX10_move_179 ?_
                      refine lv_aload_n (pc := 180) hx hb dX10_move_180 rfl (lv_at hl 2 rfl) ?_
                      refine lv_iload (pc := 181) hx hb dX10_move_181 (lv_at hl 8 rfl) ?_
                      refine lv_iconst (pc := 183) (v := 3) hx hb dX10_move_183 (by decide) ?_
                      refine lv_iconst (pc := 184) (v := 0) hx hb dX10_move_184 (by decide) ?_
                      refine r_cVi (pc := 185) (As := [.int v33, .int 3, .int 0]) (rest := [.int (v47 + v24), .int v32]) CX P hl.1 hF kv_X10_99 (fun r h1 q => c_X10_of l G B _ _ _ _ _ _ _ q) rfl rfl ⟨Nat.le_of_ble_eq_true rfl, Nat.le_of_ble_eq_true rfl⟩ (Nat.le_of_ble_eq_true rfl) ⟨Nat.le_of_ble_eq_true rfl, Nat.le_of_ble_eq_true rfl⟩ dX10_move_185 (fun v49 h50 H locs P hF => ?_)
                      replace hF := un_i hF
                      refine lv_icmp_gt (pc := 188) (tgt := 195) hx hb dX10_move_188 (by decide) (fun hc => ?_) (fun hc => ?_)
                      · rw [if_pos hc] at hF
                        refine lv_iconst (pc := 195) (v := 0) hx hb dX10_move_195 (by decide) ?_
                        refine lv_iand (pc := 196) hx hb dX10_move_196 ?_
                        refine lv_topi (fun v51 ev51 => ?_)
                        replace hF := bl_e hF ev51
                        refine lv_istore (pc := 197) hx hb dX10_move_197 hl (by decide) rfl (fun ls hl => ?_)
                        replace hl : lv_has ls 9 [(4, .int v51), (8, .int v45), (7, .int v41), (0, .ref (B + a0)), (1, .int vp1), (2, .int vp2), (3, .int v4), (5, .int v24), (6, .int v33)] := hl
                        exact hJ42 _ _ _ _ _ P (lv_sub hl [3, 4, 5, 6, 0, 7, 8] rfl) (Option.some.inj hF)
                      · rw [if_neg hc] at hF
                        refine lv_iconst (pc := 191) (v := 1) hx hb dX10_move_191 (by decide) ?_
                        refine lv_goto (pc := 192) (tgt := 196) hx hb dX10_move_192 (by decide) ?_
                        refine lv_iand (pc := 196) hx hb dX10_move_196 ?_
                        refine lv_topi (fun v52 ev52 => ?_)
                        replace hF := bl_e hF ev52
                        refine lv_istore (pc := 197) hx hb dX10_move_197 hl (by decide) rfl (fun ls hl => ?_)
                        replace hl : lv_has ls 9 [(4, .int v52), (8, .int v45), (7, .int v41), (0, .ref (B + a0)), (1, .int vp1), (2, .int vp2), (3, .int v4), (5, .int v24), (6, .int v33)] := hl
                        exact hJ42 _ _ _ _ _ P (lv_sub hl [3, 4, 5, 6, 0, 7, 8] rfl) (Option.some.inj hF)
                    · rw [if_neg hc] at hF
                      refine lv_goto (pc := 146) (tgt := 199) hx hb dX10_move_146 (by decide) ?_
                      exact hJ42 _ _ _ _ _ P (lv_sub hl [1, 2, 3, 4, 5, 6, 7] rfl) (Option.some.inj hF)
            exact hL26 _ _ _ _ _ _ _ P (lv_sub hl [2, 3, 4, 5, 6, 1, 0] rfl) hLp26
          · rw [if_pos hc] at hF
            refine lv_bipush (pc := 88) (v := (-4)) hx hb dX10_move_88 (by decide) ?_
            cases hF
            exact hret _ _ _ _ P rfl dX10_move_90
        have hL6 : ∀ (n : Nat) (v11 : Int32) (v12 : Int32) (h13 : Hp) (H : Heap) (locs : List Loc) (ls : Array Slot), Pic G B h13 s H locs → lv_has ls 9 [(0, .ref (B + a0)), (1, .int vp1), (2, .int vp2), (3, .int v4), (4, .int v11), (5, .int v12)] → loopF (fun x => F_X10_move_L44 a0 vp1 vp2 v4 x.1 x.2.1 x.2.2) n (v11, v12, h13) = some r6 → W p l e (rmM 8 191 0 0) s m args below meth c H locs 0 0 Q (F0 m 44 ls []) := by
          intro n
          induction n with
          | zero => intro v11 v12 h13 H locs ls P hl hq; cases hq
          | succ n ih =>
            intro v11 v12 h13 H locs ls P hl hq
            obtain ⟨z6, hS6, hI6, hR6⟩ := loop_some hq
            have hF : F_X10_move_L44 a0 vp1 vp2 v4 v11 v12 h13 = some z6 := hS6
            unfold F_X10_move_L44 at hF
            refine lv_iload (pc := 44) hx hb dX10_move_44 (lv_at hl 5 rfl) ?_
            refine lv_iconst (pc := 46) (v := (-1)) hx hb dX10_move_46 (by decide) ?_
            refine lv_icmp_eq (pc := 47) (tgt := 83) hx hb dX10_move_47 (by decide) (fun hc => ?_) (fun hc => ?_)
            · rw [if_pos hc] at hF
              exact hX6 _ _ _ _ _ P (lv_sub hl [0, 1, 2, 3, 4] rfl) (hR6 _ (Option.some.inj hF).symm)
            · rw [if_neg hc] at hF
              refine lv_aload_n (pc := 50) hx hb dX10_move_50 rfl (lv_at hl 0 rfl) ?_
              refine lv_iload_n (pc := 51) hx hb dX10_move_51 rfl (lv_at hl 3 rfl) ?_
              refine lv_iload (pc := 52) hx hb dX10_move_52 (lv_at hl 5 rfl) ?_
              refine r_cVi (pc := 54) (As := [.int v4, .int v12]) (rest := []) CX P hl.1 hF kv_X10_111 (fun r h1 q => c_X10_isBelow l G B _ _ _ _ _ _ q) rfl rfl ⟨Nat.le_of_ble_eq_true rfl, Nat.le_of_ble_eq_true rfl⟩ (Nat.le_of_ble_eq_true rfl) ⟨Nat.le_of_ble_eq_true rfl, Nat.le_of_ble_eq_true rfl⟩ dX10_move_54 (fun v14 h15 H locs P hF => ?_)
              replace hF := un_i hF
              refine lv_if_ne (pc := 57) (tgt := 83) hx hb dX10_move_57 (by decide) (fun hc => ?_) (fun hc => ?_)
              · rw [if_neg hc] at hF
                exact hX6 _ _ _ _ _ P (lv_sub hl [0, 1, 2, 3, 4] rfl) (hR6 _ (Option.some.inj hF).symm)
              · rw [if_pos hc] at hF
                refine lv_iload (pc := 60) hx hb dX10_move_60 (lv_at hl 4 rfl) ?_
                refine lv_aload_n (pc := 62) hx hb dX10_move_62 rfl (lv_at hl 0 rfl) ?_
                refine lv_iload (pc := 63) hx hb dX10_move_63 (lv_at hl 5 rfl) ?_
                refine lv_iload_n (pc := 65) hx hb dX10_move_65 rfl (lv_at hl 1 rfl) ?_
                refine r_cVi (pc := 66) (As := [.int v12, .int vp1]) (rest := [.int v11]) CX P hl.1 hF kv_X10_255 (fun r h1 q => c_X10_hasRoomFor l G B _ _ _ _ _ _ q) rfl rfl ⟨Nat.le_of_ble_eq_true rfl, Nat.le_of_ble_eq_true rfl⟩ (Nat.le_of_ble_eq_true rfl) ⟨Nat.le_of_ble_eq_true rfl, Nat.le_of_ble_eq_true rfl⟩ dX10_move_66 (fun v16 h17 H locs P hF => ?_)
                replace hF := un_i hF
                refine lv_iand (pc := 69) hx hb dX10_move_69 ?_
                refine lv_topi (fun v18 ev18 => ?_)
                replace hF := bl_e hF ev18
                refine lv_istore (pc := 70) hx hb dX10_move_70 hl (by decide) rfl (fun ls hl => ?_)
                replace hl : lv_has ls 9 [(4, .int v18), (0, .ref (B + a0)), (1, .int vp1), (2, .int vp2), (3, .int v4), (5, .int v12)] := hl
                refine lv_aload_n (pc := 72) hx hb dX10_move_72 rfl (lv_at hl 1 rfl) ?_
                refine lv_iload (pc := 73) hx hb dX10_move_73 (lv_at hl 5 rfl) ?_
                refine r_cVi (pc := 75) (As := [.int v12]) (rest := []) CX P hl.1 hF kv_X10_103 (fun r h1 q => c_X10_parentOf l G B _ _ _ _ _ q) rfl rfl ⟨Nat.le_of_ble_eq_true rfl, Nat.le_of_ble_eq_true rfl⟩ (Nat.le_of_ble_eq_true rfl) ⟨Nat.le_of_ble_eq_true rfl, Nat.le_of_ble_eq_true rfl⟩ dX10_move_75 (fun v19 h20 H locs P hF => ?_)
                replace hF := un_i hF
                refine lv_istore (pc := 78) hx hb dX10_move_78 hl (by decide) rfl (fun ls hl => ?_)
                replace hl : lv_has ls 9 [(5, .int v19), (4, .int v18), (0, .ref (B + a0)), (1, .int vp1), (2, .int vp2), (3, .int v4)] := hl
                refine lv_goto (pc := 80) (tgt := 44) hx hb dX10_move_80 (by decide) ?_
                exact ih _ _ _ _ _ _ P (lv_sub hl [2, 3, 4, 5, 1, 0] rfl) (hI6 _ (Option.some.inj hF).symm)
        exact hL6 _ _ _ _ _ _ _ P (lv_sub hl [3, 4, 5, 2, 1, 0] rfl) hLp6
      · rw [if_pos hc] at hF
        refine lv_bipush (pc := 35) (v := (-5)) hx hb dX10_move_35 (by decide) ?_
        cases hF
        exact hret _ _ _ _ P rfl dX10_move_37
    · rw [if_pos hc] at hF
      refine lv_bipush (pc := 21) (v := (-2)) hx hb dX10_move_21 (by decide) ?_
      cases hF
      exact hret _ _ _ _ P rfl dX10_move_23
def F_X10_kill (h : Hp) (a0 : Nat) (vp1 : Int32) : Option (Int32 × Hp) :=
(pI h a0 10 0 0).bind fun h1 =>
(cO h1 a0 10 (F_X10_isProcess h1 a0 vp1)).bind fun v2 =>
if v2 = 0 then (
some ((-2), h1)) else (
(cO h1 a0 10 (F_X10_begins h1 a0)).bind fun h3 =>
(cO h3 a0 10 (F_X10_pagesOf h3 a0 vp1)).bind (un fun v4 h5 =>
(cO h5 a0 10 (F_X10_dies h5 a0 vp1)).bind fun h6 =>
(cO h6 a0 10 (F_X10_ends h6 a0 v4 1)).bind (un fun v7 h8 =>
some (v7, h8))))
set_option maxRecDepth 100000 in
set_option maxHeartbeats 4000000 in
theorem c_X10_kill (l : Launch) (G : GG) (B : Nat) (h : Hp) (a0 : Nat) (vp1 : Int32) (r0 : Int32) (hr : Hp) (hF : F_X10_kill h a0 vp1 = some (r0, hr)) : CI l yX10_kill cX10_kill 3 .int 3 67 0 0 G B h [.ref (B + a0), .int vp1] r0 hr := by
  refine ent_i rfl (Nat.le_of_ble_eq_true rfl) ?_
  intro p e s m args below meth c ls Q CX hnm hret P hl
  have CX : Cxt p m c cX10_kill 3 s args RX10 G B := CX
  obtain ⟨⟨hx, hb, hml, hown, hts⟩, -, -⟩ := id CX
  replace hl : lv_has ls 3 [(0, .ref (B + a0)), (1, .int vp1)] := hl
  generalize s.heap = H at P ⊢
  generalize ([] : List Loc) = locs at P ⊢
  unfold F_X10_kill at hF
  refine lv_aload_n (pc := 0) hx hb dX10_kill_0 rfl (lv_at hl 0 rfl) ?_
  refine lv_iconst (pc := 1) (v := 0) hx hb dX10_kill_1 (by decide) ?_
  refine r_pI (pc := 2) CX P hF fl_X10_1 dX10_kill_2 (fun h1 H locs P hF => ?_)
  refine lv_aload_n (pc := 5) hx hb dX10_kill_5 rfl (lv_at hl 0 rfl) ?_
  refine lv_iload_n (pc := 6) hx hb dX10_kill_6 rfl (lv_at hl 1 rfl) ?_
  refine r_cVp (pc := 7) (As := [.int vp1]) (rest := []) CX P hl.1 hF kv_X10_117 (fun r q => c_X10_isProcess l G B _ _ _ _ q) rfl rfl ⟨Nat.le_of_ble_eq_true rfl, Nat.le_of_ble_eq_true rfl⟩ (Nat.le_of_ble_eq_true rfl) ⟨Nat.le_of_ble_eq_true rfl, Nat.le_of_ble_eq_true rfl⟩ dX10_kill_7 (fun v2 H locs P hF => ?_)
  refine lv_if_ne (pc := 10) (tgt := 16) hx hb dX10_kill_10 (by decide) (fun hc => ?_) (fun hc => ?_)
  · rw [if_neg hc] at hF
    refine lv_aload_n (pc := 16) hx hb dX10_kill_16 rfl (lv_at hl 0 rfl) ?_
    refine r_cVv (pc := 17) (As := []) (rest := []) CX P hl.1 hF kv_X10_211 (fun h1 q => c_X10_begins l G B _ _ _ q) rfl rfl ⟨Nat.le_of_ble_eq_true rfl, Nat.le_of_ble_eq_true rfl⟩ (Nat.le_of_ble_eq_true rfl) ⟨Nat.le_of_ble_eq_true rfl, Nat.le_of_ble_eq_true rfl⟩ dX10_kill_17 (fun h3 H locs P hF => ?_)
    refine lv_aload_n (pc := 20) hx hb dX10_kill_20 rfl (lv_at hl 0 rfl) ?_
    refine lv_iload_n (pc := 21) hx hb dX10_kill_21 rfl (lv_at hl 1 rfl) ?_
    refine r_cVi (pc := 22) (As := [.int vp1]) (rest := []) CX P hl.1 hF kv_X10_134 (fun r h1 q => c_X10_pagesOf l G B _ _ _ _ _ q) rfl rfl ⟨Nat.le_of_ble_eq_true rfl, Nat.le_of_ble_eq_true rfl⟩ (Nat.le_of_ble_eq_true rfl) ⟨Nat.le_of_ble_eq_true rfl, Nat.le_of_ble_eq_true rfl⟩ dX10_kill_22 (fun v4 h5 H locs P hF => ?_)
    replace hF := un_i hF
    refine lv_istore_n (pc := 25) hx hb dX10_kill_25 rfl hl (by decide) rfl (fun ls hl => ?_)
    replace hl : lv_has ls 3 [(2, .int v4), (0, .ref (B + a0)), (1, .int vp1)] := hl
    refine lv_aload_n (pc := 26) hx hb dX10_kill_26 rfl (lv_at hl 1 rfl) ?_
    refine lv_iload_n (pc := 27) hx hb dX10_kill_27 rfl (lv_at hl 2 rfl) ?_
    refine r_cVv (pc := 28) (As := [.int vp1]) (rest := []) CX P hl.1 hF kv_X10_180 (fun h1 q => c_X10_dies l G B _ _ _ _ q) rfl rfl ⟨Nat.le_of_ble_eq_true rfl, Nat.le_of_ble_eq_true rfl⟩ (Nat.le_of_ble_eq_true rfl) ⟨Nat.le_of_ble_eq_true rfl, Nat.le_of_ble_eq_true rfl⟩ dX10_kill_28 (fun h6 H locs P hF => ?_)
    refine lv_aload_n (pc := 31) hx hb dX10_kill_31 rfl (lv_at hl 1 rfl) ?_
    refine lv_iload_n (pc := 32) hx hb dX10_kill_32 rfl (lv_at hl 0 rfl) ?_
    refine lv_iconst (pc := 33) (v := 1) hx hb dX10_kill_33 (by decide) ?_
    refine r_cVi (pc := 34) (As := [.int v4, .int 1]) (rest := []) CX P hl.1 hF kv_X10_214 (fun r h1 q => c_X10_ends l G B _ _ _ _ _ _ q) rfl rfl ⟨Nat.le_of_ble_eq_true rfl, Nat.le_of_ble_eq_true rfl⟩ (Nat.le_of_ble_eq_true rfl) ⟨Nat.le_of_ble_eq_true rfl, Nat.le_of_ble_eq_true rfl⟩ dX10_kill_34 (fun v7 h8 H locs P hF => ?_)
    replace hF := un_i hF
    cases hF
    exact hret _ _ _ _ P rfl dX10_kill_37
  · rw [if_pos hc] at hF
    refine lv_bipush (pc := 13) (v := (-2)) hx hb dX10_kill_13 (by decide) ?_
    cases hF
    exact hret _ _ _ _ P rfl dX10_kill_15
def F_X10_take (h : Hp) (a0 : Nat) (vp1 : Int32) (vp2 : Int32) : Option (Int32 × Hp) :=
(pI h a0 10 0 0).bind fun h1 =>
(cO h1 a0 10 (F_X10_isGroup h1 a0 vp1)).bind fun v2 =>
if v2 = 0 then (
some ((-2), h1)) else (
(F_X10_within h1 (Int32.toInt64 vp2) 1 999).bind fun v3 =>
if v3 = 0 then (
some ((-3), h1)) else (
(cO h1 a0 10 (F_X10_begins h1 a0)).bind fun h4 =>
(cO h4 a0 10 (F_X10_takes h4 a0 vp1 vp2)).bind (un fun v5 h6 =>
(cO h6 a0 10 (F_X10_ends h6 a0 v5 1)).bind (un fun v7 h8 =>
some (v7, h8)))))
set_option maxRecDepth 100000 in
set_option maxHeartbeats 4000000 in
theorem c_X10_take (l : Launch) (G : GG) (B : Nat) (h : Hp) (a0 : Nat) (vp1 : Int32) (vp2 : Int32) (r0 : Int32) (hr : Hp) (hF : F_X10_take h a0 vp1 vp2 = some (r0, hr)) : CI l yX10_take cX10_take 3 .int 8 191 0 0 G B h [.ref (B + a0), .int vp1, .int vp2] r0 hr := by
  refine ent_i rfl (Nat.le_of_ble_eq_true rfl) ?_
  intro p e s m args below meth c ls Q CX hnm hret P hl
  have CX : Cxt p m c cX10_take 3 s args RX10 G B := CX
  obtain ⟨⟨hx, hb, hml, hown, hts⟩, -, -⟩ := id CX
  replace hl : lv_has ls 3 [(0, .ref (B + a0)), (1, .int vp1), (2, .int vp2)] := hl
  generalize s.heap = H at P ⊢
  generalize ([] : List Loc) = locs at P ⊢
  unfold F_X10_take at hF
  refine lv_aload_n (pc := 0) hx hb dX10_take_0 rfl (lv_at hl 0 rfl) ?_
  refine lv_iconst (pc := 1) (v := 0) hx hb dX10_take_1 (by decide) ?_
  refine r_pI (pc := 2) CX P hF fl_X10_1 dX10_take_2 (fun h1 H locs P hF => ?_)
  refine lv_aload_n (pc := 5) hx hb dX10_take_5 rfl (lv_at hl 0 rfl) ?_
  refine lv_iload_n (pc := 6) hx hb dX10_take_6 rfl (lv_at hl 1 rfl) ?_
  refine r_cVp (pc := 7) (As := [.int vp1]) (rest := []) CX P hl.1 hF kv_X10_107 (fun r q => c_X10_isGroup l G B _ _ _ _ q) rfl rfl ⟨Nat.le_of_ble_eq_true rfl, Nat.le_of_ble_eq_true rfl⟩ (Nat.le_of_ble_eq_true rfl) ⟨Nat.le_of_ble_eq_true rfl, Nat.le_of_ble_eq_true rfl⟩ dX10_take_7 (fun v2 H locs P hF => ?_)
  refine lv_if_ne (pc := 10) (tgt := 16) hx hb dX10_take_10 (by decide) (fun hc => ?_) (fun hc => ?_)
  · rw [if_neg hc] at hF
    refine lv_iload_n (pc := 16) hx hb dX10_take_16 rfl (lv_at hl 2 rfl) ?_
    refine lv_i2l (pc := 17) hx hb dX10_take_17 rfl ?_
    refine lv_lconst (pc := 18) (v := 1) hx hb dX10_take_18 (by decide) ?_
    refine lv_ldc2 (pc := 19) (v := 999) hx hb hown (hts _ tw_1255) dX10_take_19 ?_
    refine r_cSp (pc := 22) (As := [.long (Int32.toInt64 vp2), .long 1, .long 999]) (rest := []) CX P hl.1 hF ks_X10_85 (fun r q => c_X10_within l G B _ _ _ _ _ q) rfl rfl ⟨Nat.le_of_ble_eq_true rfl, Nat.le_of_ble_eq_true rfl⟩ (Nat.le_of_ble_eq_true rfl) ⟨Nat.le_of_ble_eq_true rfl, Nat.le_of_ble_eq_true rfl⟩ dX10_take_22 (fun v3 H locs P hF => ?_)
    refine lv_if_ne (pc := 25) (tgt := 31) hx hb dX10_take_25 (by decide) (fun hc => ?_) (fun hc => ?_)
    · rw [if_neg hc] at hF
      refine lv_aload_n (pc := 31) hx hb dX10_take_31 rfl (lv_at hl 0 rfl) ?_
      refine r_cVv (pc := 32) (As := []) (rest := []) CX P hl.1 hF kv_X10_211 (fun h1 q => c_X10_begins l G B _ _ _ q) rfl rfl ⟨Nat.le_of_ble_eq_true rfl, Nat.le_of_ble_eq_true rfl⟩ (Nat.le_of_ble_eq_true rfl) ⟨Nat.le_of_ble_eq_true rfl, Nat.le_of_ble_eq_true rfl⟩ dX10_take_32 (fun h4 H locs P hF => ?_)
      refine lv_aload_n (pc := 35) hx hb dX10_take_35 rfl (lv_at hl 0 rfl) ?_
      refine lv_aload_n (pc := 36) hx hb dX10_take_36 rfl (lv_at hl 0 rfl) ?_
      refine lv_iload_n (pc := 37) hx hb dX10_take_37 rfl (lv_at hl 1 rfl) ?_
      refine lv_iload_n (pc := 38) hx hb dX10_take_38 rfl (lv_at hl 2 rfl) ?_
      refine r_cVi (pc := 39) (As := [.int vp1, .int vp2]) (rest := [.ref (B + a0)]) CX P hl.1 hF kv_X10_190 (fun r h1 q => c_X10_takes l G B _ _ _ _ _ _ q) rfl rfl ⟨Nat.le_of_ble_eq_true rfl, Nat.le_of_ble_eq_true rfl⟩ (Nat.le_of_ble_eq_true rfl) ⟨Nat.le_of_ble_eq_true rfl, Nat.le_of_ble_eq_true rfl⟩ dX10_take_39 (fun v5 h6 H locs P hF => ?_)
      replace hF := un_i hF
      refine lv_iconst (pc := 42) (v := 1) hx hb dX10_take_42 (by decide) ?_
      refine r_cVi (pc := 43) (As := [.int v5, .int 1]) (rest := []) CX P hl.1 hF kv_X10_214 (fun r h1 q => c_X10_ends l G B _ _ _ _ _ _ q) rfl rfl ⟨Nat.le_of_ble_eq_true rfl, Nat.le_of_ble_eq_true rfl⟩ (Nat.le_of_ble_eq_true rfl) ⟨Nat.le_of_ble_eq_true rfl, Nat.le_of_ble_eq_true rfl⟩ dX10_take_43 (fun v7 h8 H locs P hF => ?_)
      replace hF := un_i hF
      cases hF
      exact hret _ _ _ _ P rfl dX10_take_46
    · rw [if_pos hc] at hF
      refine lv_bipush (pc := 28) (v := (-3)) hx hb dX10_take_28 (by decide) ?_
      cases hF
      exact hret _ _ _ _ P rfl dX10_take_30
  · rw [if_pos hc] at hF
    refine lv_bipush (pc := 13) (v := (-2)) hx hb dX10_take_13 (by decide) ?_
    cases hF
    exact hret _ _ _ _ P rfl dX10_take_15
def F_X10_drain (h : Hp) (a0 : Nat) (vp1 : Int32) : Option (Int32 × Hp) :=
(pI h a0 10 0 0).bind fun h1 =>
(cO h1 a0 10 (F_X10_isGroup h1 a0 vp1)).bind fun v2 =>
if v2 = 0 then (
some ((-2), h1)) else (
(cO h1 a0 10 (F_X10_begins h1 a0)).bind fun h3 =>
(cO h3 a0 10 (F_X10_drains h3 a0 vp1)).bind (un fun v4 h5 =>
(cO h5 a0 10 (F_X10_ends h5 a0 v4 1)).bind (un fun v6 h7 =>
some (v6, h7))))
set_option maxRecDepth 100000 in
set_option maxHeartbeats 4000000 in
theorem c_X10_drain (l : Launch) (G : GG) (B : Nat) (h : Hp) (a0 : Nat) (vp1 : Int32) (r0 : Int32) (hr : Hp) (hF : F_X10_drain h a0 vp1 = some (r0, hr)) : CI l yX10_drain cX10_drain 2 .int 4 90 0 0 G B h [.ref (B + a0), .int vp1] r0 hr := by
  refine ent_i rfl (Nat.le_of_ble_eq_true rfl) ?_
  intro p e s m args below meth c ls Q CX hnm hret P hl
  have CX : Cxt p m c cX10_drain 2 s args RX10 G B := CX
  obtain ⟨⟨hx, hb, hml, hown, hts⟩, -, -⟩ := id CX
  replace hl : lv_has ls 2 [(0, .ref (B + a0)), (1, .int vp1)] := hl
  generalize s.heap = H at P ⊢
  generalize ([] : List Loc) = locs at P ⊢
  unfold F_X10_drain at hF
  refine lv_aload_n (pc := 0) hx hb dX10_drain_0 rfl (lv_at hl 0 rfl) ?_
  refine lv_iconst (pc := 1) (v := 0) hx hb dX10_drain_1 (by decide) ?_
  refine r_pI (pc := 2) CX P hF fl_X10_1 dX10_drain_2 (fun h1 H locs P hF => ?_)
  refine lv_aload_n (pc := 5) hx hb dX10_drain_5 rfl (lv_at hl 0 rfl) ?_
  refine lv_iload_n (pc := 6) hx hb dX10_drain_6 rfl (lv_at hl 1 rfl) ?_
  refine r_cVp (pc := 7) (As := [.int vp1]) (rest := []) CX P hl.1 hF kv_X10_107 (fun r q => c_X10_isGroup l G B _ _ _ _ q) rfl rfl ⟨Nat.le_of_ble_eq_true rfl, Nat.le_of_ble_eq_true rfl⟩ (Nat.le_of_ble_eq_true rfl) ⟨Nat.le_of_ble_eq_true rfl, Nat.le_of_ble_eq_true rfl⟩ dX10_drain_7 (fun v2 H locs P hF => ?_)
  refine lv_if_ne (pc := 10) (tgt := 16) hx hb dX10_drain_10 (by decide) (fun hc => ?_) (fun hc => ?_)
  · rw [if_neg hc] at hF
    refine lv_aload_n (pc := 16) hx hb dX10_drain_16 rfl (lv_at hl 0 rfl) ?_
    refine r_cVv (pc := 17) (As := []) (rest := []) CX P hl.1 hF kv_X10_211 (fun h1 q => c_X10_begins l G B _ _ _ q) rfl rfl ⟨Nat.le_of_ble_eq_true rfl, Nat.le_of_ble_eq_true rfl⟩ (Nat.le_of_ble_eq_true rfl) ⟨Nat.le_of_ble_eq_true rfl, Nat.le_of_ble_eq_true rfl⟩ dX10_drain_17 (fun h3 H locs P hF => ?_)
    refine lv_aload_n (pc := 20) hx hb dX10_drain_20 rfl (lv_at hl 0 rfl) ?_
    refine lv_aload_n (pc := 21) hx hb dX10_drain_21 rfl (lv_at hl 0 rfl) ?_
    refine lv_iload_n (pc := 22) hx hb dX10_drain_22 rfl (lv_at hl 1 rfl) ?_
    refine r_cVi (pc := 23) (As := [.int vp1]) (rest := [.ref (B + a0)]) CX P hl.1 hF kv_X10_152 (fun r h1 q => c_X10_drains l G B _ _ _ _ _ q) rfl rfl ⟨Nat.le_of_ble_eq_true rfl, Nat.le_of_ble_eq_true rfl⟩ (Nat.le_of_ble_eq_true rfl) ⟨Nat.le_of_ble_eq_true rfl, Nat.le_of_ble_eq_true rfl⟩ dX10_drain_23 (fun v4 h5 H locs P hF => ?_)
    replace hF := un_i hF
    refine lv_iconst (pc := 26) (v := 1) hx hb dX10_drain_26 (by decide) ?_
    refine r_cVi (pc := 27) (As := [.int v4, .int 1]) (rest := []) CX P hl.1 hF kv_X10_214 (fun r h1 q => c_X10_ends l G B _ _ _ _ _ _ q) rfl rfl ⟨Nat.le_of_ble_eq_true rfl, Nat.le_of_ble_eq_true rfl⟩ (Nat.le_of_ble_eq_true rfl) ⟨Nat.le_of_ble_eq_true rfl, Nat.le_of_ble_eq_true rfl⟩ dX10_drain_27 (fun v6 h7 H locs P hF => ?_)
    replace hF := un_i hF
    cases hF
    exact hret _ _ _ _ P rfl dX10_drain_30
  · rw [if_pos hc] at hF
    refine lv_bipush (pc := 13) (v := (-2)) hx hb dX10_drain_13 (by decide) ?_
    cases hF
    exact hret _ _ _ _ P rfl dX10_drain_15
def F_X10_batch (h : Hp) (a0 : Nat) (vp1 : Int32) : Option (Int32 × Hp) :=
(pI h a0 10 0 0).bind fun h1 =>
(F_X10_within h1 (Int32.toInt64 vp1) 1 8).bind fun v2 =>
if v2 = 0 then (
some ((-3), h1)) else (
(cO h1 a0 10 (F_X10_begins h1 a0)).bind fun h3 =>
(gR h3 a0 10 1).bind fun a4 =>
(aI h3 a4 3).bind fun v5 =>
(gR h3 a0 10 1).bind fun a6 =>
(sI h3 a6 3 vp1).bind fun h7 =>
(cO h7 a0 10 (F_X10_ends h7 a0 v5 1)).bind (un fun v8 h9 =>
some (v8, h9)))
set_option maxRecDepth 100000 in
set_option maxHeartbeats 4000000 in
theorem c_X10_batch (l : Launch) (G : GG) (B : Nat) (h : Hp) (a0 : Nat) (vp1 : Int32) (r0 : Int32) (hr : Hp) (hF : F_X10_batch h a0 vp1 = some (r0, hr)) : CI l yX10_batch cX10_batch 3 .int 3 67 0 0 G B h [.ref (B + a0), .int vp1] r0 hr := by
  refine ent_i rfl (Nat.le_of_ble_eq_true rfl) ?_
  intro p e s m args below meth c ls Q CX hnm hret P hl
  have CX : Cxt p m c cX10_batch 3 s args RX10 G B := CX
  obtain ⟨⟨hx, hb, hml, hown, hts⟩, -, -⟩ := id CX
  replace hl : lv_has ls 3 [(0, .ref (B + a0)), (1, .int vp1)] := hl
  generalize s.heap = H at P ⊢
  generalize ([] : List Loc) = locs at P ⊢
  unfold F_X10_batch at hF
  refine lv_aload_n (pc := 0) hx hb dX10_batch_0 rfl (lv_at hl 0 rfl) ?_
  refine lv_iconst (pc := 1) (v := 0) hx hb dX10_batch_1 (by decide) ?_
  refine r_pI (pc := 2) CX P hF fl_X10_1 dX10_batch_2 (fun h1 H locs P hF => ?_)
  refine lv_iload_n (pc := 5) hx hb dX10_batch_5 rfl (lv_at hl 1 rfl) ?_
  refine lv_i2l (pc := 6) hx hb dX10_batch_6 rfl ?_
  refine lv_lconst (pc := 7) (v := 1) hx hb dX10_batch_7 (by decide) ?_
  refine lv_ldc2 (pc := 8) (v := 8) hx hb hown (hts _ tw_1093) dX10_batch_8 ?_
  refine r_cSp (pc := 11) (As := [.long (Int32.toInt64 vp1), .long 1, .long 8]) (rest := []) CX P hl.1 hF ks_X10_85 (fun r q => c_X10_within l G B _ _ _ _ _ q) rfl rfl ⟨Nat.le_of_ble_eq_true rfl, Nat.le_of_ble_eq_true rfl⟩ (Nat.le_of_ble_eq_true rfl) ⟨Nat.le_of_ble_eq_true rfl, Nat.le_of_ble_eq_true rfl⟩ dX10_batch_11 (fun v2 H locs P hF => ?_)
  refine lv_if_ne (pc := 14) (tgt := 20) hx hb dX10_batch_14 (by decide) (fun hc => ?_) (fun hc => ?_)
  · rw [if_neg hc] at hF
    refine lv_aload_n (pc := 20) hx hb dX10_batch_20 rfl (lv_at hl 0 rfl) ?_
    refine r_cVv (pc := 21) (As := []) (rest := []) CX P hl.1 hF kv_X10_211 (fun h1 q => c_X10_begins l G B _ _ _ q) rfl rfl ⟨Nat.le_of_ble_eq_true rfl, Nat.le_of_ble_eq_true rfl⟩ (Nat.le_of_ble_eq_true rfl) ⟨Nat.le_of_ble_eq_true rfl, Nat.le_of_ble_eq_true rfl⟩ dX10_batch_21 (fun h3 H locs P hF => ?_)
    refine lv_aload_n (pc := 24) hx hb dX10_batch_24 rfl (lv_at hl 0 rfl) ?_
    refine r_gR (pc := 25) CX P hF fl_X10_13 dX10_batch_25 (fun a4 hF => ?_)
    refine lv_iconst (pc := 28) (v := 3) hx hb dX10_batch_28 (by decide) ?_
    refine r_aI (pc := 29) CX P hF dX10_batch_29 (fun v5 hF => ?_)
    refine lv_istore_n (pc := 30) hx hb dX10_batch_30 rfl hl (by decide) rfl (fun ls hl => ?_)
    replace hl : lv_has ls 3 [(2, .int v5), (0, .ref (B + a0)), (1, .int vp1)] := hl
    refine lv_aload_n (pc := 31) hx hb dX10_batch_31 rfl (lv_at hl 1 rfl) ?_
    refine r_gR (pc := 32) CX P hF fl_X10_13 dX10_batch_32 (fun a6 hF => ?_)
    refine lv_iconst (pc := 35) (v := 3) hx hb dX10_batch_35 (by decide) ?_
    refine lv_iload_n (pc := 36) hx hb dX10_batch_36 rfl (lv_at hl 2 rfl) ?_
    refine r_sI (pc := 37) CX P hF dX10_batch_37 (fun h7 H locs P hF => ?_)
    refine lv_aload_n (pc := 38) hx hb dX10_batch_38 rfl (lv_at hl 1 rfl) ?_
    refine lv_iload_n (pc := 39) hx hb dX10_batch_39 rfl (lv_at hl 0 rfl) ?_
    refine lv_iconst (pc := 40) (v := 1) hx hb dX10_batch_40 (by decide) ?_
    refine r_cVi (pc := 41) (As := [.int v5, .int 1]) (rest := []) CX P hl.1 hF kv_X10_214 (fun r h1 q => c_X10_ends l G B _ _ _ _ _ _ q) rfl rfl ⟨Nat.le_of_ble_eq_true rfl, Nat.le_of_ble_eq_true rfl⟩ (Nat.le_of_ble_eq_true rfl) ⟨Nat.le_of_ble_eq_true rfl, Nat.le_of_ble_eq_true rfl⟩ dX10_batch_41 (fun v8 h9 H locs P hF => ?_)
    replace hF := un_i hF
    cases hF
    exact hret _ _ _ _ P rfl dX10_batch_44
  · rw [if_pos hc] at hF
    refine lv_bipush (pc := 17) (v := (-3)) hx hb dX10_batch_17 (by decide) ?_
    cases hF
    exact hret _ _ _ _ P rfl dX10_batch_19
def F_X10_outOf (h : Hp) (a0 : Nat) (vp1 : Int32) : Option (Int32 × Hp) :=
(cO h a0 10 (F_X10_laysTotals h a0)).bind fun h1 =>
(gR h1 a0 10 13).bind fun a2 =>
(aI h1 a2 vp1).bind fun v3 =>
some (v3, h1)
set_option maxRecDepth 100000 in
set_option maxHeartbeats 4000000 in
theorem c_X10_outOf (l : Launch) (G : GG) (B : Nat) (h : Hp) (a0 : Nat) (vp1 : Int32) (r0 : Int32) (hr : Hp) (hF : F_X10_outOf h a0 vp1 = some (r0, hr)) : CI l yX10_outOf cX10_outOf 2 .int 4 89 0 0 G B h [.ref (B + a0), .int vp1] r0 hr := by
  refine ent_i rfl (Nat.le_of_ble_eq_true rfl) ?_
  intro p e s m args below meth c ls Q CX hnm hret P hl
  have CX : Cxt p m c cX10_outOf 2 s args RX10 G B := CX
  obtain ⟨⟨hx, hb, hml, hown, hts⟩, -, -⟩ := id CX
  replace hl : lv_has ls 2 [(0, .ref (B + a0)), (1, .int vp1)] := hl
  generalize s.heap = H at P ⊢
  generalize ([] : List Loc) = locs at P ⊢
  unfold F_X10_outOf at hF
  refine lv_aload_n (pc := 0) hx hb dX10_outOf_0 rfl (lv_at hl 0 rfl) ?_
  refine r_cVv (pc := 1) (As := []) (rest := []) CX P hl.1 hF kv_X10_127 (fun h1 q => c_X10_laysTotals l G B _ _ _ q) rfl rfl ⟨Nat.le_of_ble_eq_true rfl, Nat.le_of_ble_eq_true rfl⟩ (Nat.le_of_ble_eq_true rfl) ⟨Nat.le_of_ble_eq_true rfl, Nat.le_of_ble_eq_true rfl⟩ dX10_outOf_1 (fun h1 H locs P hF => ?_)
  refine lv_aload_n (pc := 4) hx hb dX10_outOf_4 rfl (lv_at hl 0 rfl) ?_
  refine r_gR (pc := 5) CX P hF fl_X10_48 dX10_outOf_5 (fun a2 hF => ?_)
  refine lv_iload_n (pc := 8) hx hb dX10_outOf_8 rfl (lv_at hl 1 rfl) ?_
  refine r_aI (pc := 9) CX P hF dX10_outOf_9 (fun v3 hF => ?_)
  cases hF
  exact hret _ _ _ _ P rfl dX10_outOf_10
def F_X10_swap (h : Hp) (a0 : Nat) (vp1 : Int32) : Option (Int32 × Hp) :=
(pI h a0 10 0 0).bind fun h1 =>
(F_X10_within h1 (Int32.toInt64 vp1) 0 999).bind fun v2 =>
if v2 = 0 then (
some ((-3), h1)) else (
(cO h1 a0 10 (F_X10_outOf h1 a0 0)).bind (un fun v3 h4 =>
if v3 ≤ vp1 then (
(cO h4 a0 10 (F_X10_begins h4 a0)).bind fun h5 =>
(gR h5 a0 10 1).bind fun a6 =>
(aI h5 a6 5).bind fun v7 =>
(gR h5 a0 10 1).bind fun a8 =>
(sI h5 a8 5 vp1).bind fun h9 =>
(cO h9 a0 10 (F_X10_ends h9 a0 v7 1)).bind (un fun v10 h11 =>
some (v10, h11))) else (
some ((-4), h4))))
set_option maxRecDepth 100000 in
set_option maxHeartbeats 4000000 in
theorem c_X10_swap (l : Launch) (G : GG) (B : Nat) (h : Hp) (a0 : Nat) (vp1 : Int32) (r0 : Int32) (hr : Hp) (hF : F_X10_swap h a0 vp1 = some (r0, hr)) : CI l yX10_swap cX10_swap 3 .int 5 110 0 0 G B h [.ref (B + a0), .int vp1] r0 hr := by
  refine ent_i rfl (Nat.le_of_ble_eq_true rfl) ?_
  intro p e s m args below meth c ls Q CX hnm hret P hl
  have CX : Cxt p m c cX10_swap 3 s args RX10 G B := CX
  obtain ⟨⟨hx, hb, hml, hown, hts⟩, -, -⟩ := id CX
  replace hl : lv_has ls 3 [(0, .ref (B + a0)), (1, .int vp1)] := hl
  generalize s.heap = H at P ⊢
  generalize ([] : List Loc) = locs at P ⊢
  unfold F_X10_swap at hF
  refine lv_aload_n (pc := 0) hx hb dX10_swap_0 rfl (lv_at hl 0 rfl) ?_
  refine lv_iconst (pc := 1) (v := 0) hx hb dX10_swap_1 (by decide) ?_
  refine r_pI (pc := 2) CX P hF fl_X10_1 dX10_swap_2 (fun h1 H locs P hF => ?_)
  refine lv_iload_n (pc := 5) hx hb dX10_swap_5 rfl (lv_at hl 1 rfl) ?_
  refine lv_i2l (pc := 6) hx hb dX10_swap_6 rfl ?_
  refine lv_lconst (pc := 7) (v := 0) hx hb dX10_swap_7 (by decide) ?_
  refine lv_ldc2 (pc := 8) (v := 999) hx hb hown (hts _ tw_1255) dX10_swap_8 ?_
  refine r_cSp (pc := 11) (As := [.long (Int32.toInt64 vp1), .long 0, .long 999]) (rest := []) CX P hl.1 hF ks_X10_85 (fun r q => c_X10_within l G B _ _ _ _ _ q) rfl rfl ⟨Nat.le_of_ble_eq_true rfl, Nat.le_of_ble_eq_true rfl⟩ (Nat.le_of_ble_eq_true rfl) ⟨Nat.le_of_ble_eq_true rfl, Nat.le_of_ble_eq_true rfl⟩ dX10_swap_11 (fun v2 H locs P hF => ?_)
  refine lv_if_ne (pc := 14) (tgt := 20) hx hb dX10_swap_14 (by decide) (fun hc => ?_) (fun hc => ?_)
  · rw [if_neg hc] at hF
    refine lv_aload_n (pc := 20) hx hb dX10_swap_20 rfl (lv_at hl 0 rfl) ?_
    refine lv_iconst (pc := 21) (v := 0) hx hb dX10_swap_21 (by decide) ?_
    refine r_cVi (pc := 22) (As := [.int 0]) (rest := []) CX P hl.1 hF kv_X10_258 (fun r h1 q => c_X10_outOf l G B _ _ _ _ _ q) rfl rfl ⟨Nat.le_of_ble_eq_true rfl, Nat.le_of_ble_eq_true rfl⟩ (Nat.le_of_ble_eq_true rfl) ⟨Nat.le_of_ble_eq_true rfl, Nat.le_of_ble_eq_true rfl⟩ dX10_swap_22 (fun v3 h4 H locs P hF => ?_)
    replace hF := un_i hF
    refine lv_iload_n (pc := 25) hx hb dX10_swap_25 rfl (lv_at hl 1 rfl) ?_
    refine lv_icmp_le (pc := 26) (tgt := 32) hx hb dX10_swap_26 (by decide) (fun hc => ?_) (fun hc => ?_)
    · rw [if_pos hc] at hF
      refine lv_aload_n (pc := 32) hx hb dX10_swap_32 rfl (lv_at hl 0 rfl) ?_
      refine r_cVv (pc := 33) (As := []) (rest := []) CX P hl.1 hF kv_X10_211 (fun h1 q => c_X10_begins l G B _ _ _ q) rfl rfl ⟨Nat.le_of_ble_eq_true rfl, Nat.le_of_ble_eq_true rfl⟩ (Nat.le_of_ble_eq_true rfl) ⟨Nat.le_of_ble_eq_true rfl, Nat.le_of_ble_eq_true rfl⟩ dX10_swap_33 (fun h5 H locs P hF => ?_)
      refine lv_aload_n (pc := 36) hx hb dX10_swap_36 rfl (lv_at hl 0 rfl) ?_
      refine r_gR (pc := 37) CX P hF fl_X10_13 dX10_swap_37 (fun a6 hF => ?_)
      refine lv_iconst (pc := 40) (v := 5) hx hb dX10_swap_40 (by decide) ?_
      refine r_aI (pc := 41) CX P hF dX10_swap_41 (fun v7 hF => ?_)
      refine lv_istore_n (pc := 42) hx hb dX10_swap_42 rfl hl (by decide) rfl (fun ls hl => ?_)
      replace hl : lv_has ls 3 [(2, .int v7), (0, .ref (B + a0)), (1, .int vp1)] := hl
      refine lv_aload_n (pc := 43) hx hb dX10_swap_43 rfl (lv_at hl 1 rfl) ?_
      refine r_gR (pc := 44) CX P hF fl_X10_13 dX10_swap_44 (fun a8 hF => ?_)
      refine lv_iconst (pc := 47) (v := 5) hx hb dX10_swap_47 (by decide) ?_
      refine lv_iload_n (pc := 48) hx hb dX10_swap_48 rfl (lv_at hl 2 rfl) ?_
      refine r_sI (pc := 49) CX P hF dX10_swap_49 (fun h9 H locs P hF => ?_)
      refine lv_aload_n (pc := 50) hx hb dX10_swap_50 rfl (lv_at hl 1 rfl) ?_
      refine lv_iload_n (pc := 51) hx hb dX10_swap_51 rfl (lv_at hl 0 rfl) ?_
      refine lv_iconst (pc := 52) (v := 1) hx hb dX10_swap_52 (by decide) ?_
      refine r_cVi (pc := 53) (As := [.int v7, .int 1]) (rest := []) CX P hl.1 hF kv_X10_214 (fun r h1 q => c_X10_ends l G B _ _ _ _ _ _ q) rfl rfl ⟨Nat.le_of_ble_eq_true rfl, Nat.le_of_ble_eq_true rfl⟩ (Nat.le_of_ble_eq_true rfl) ⟨Nat.le_of_ble_eq_true rfl, Nat.le_of_ble_eq_true rfl⟩ dX10_swap_53 (fun v10 h11 H locs P hF => ?_)
      replace hF := un_i hF
      cases hF
      exact hret _ _ _ _ P rfl dX10_swap_56
    · rw [if_neg hc] at hF
      refine lv_bipush (pc := 29) (v := (-4)) hx hb dX10_swap_29 (by decide) ?_
      cases hF
      exact hret _ _ _ _ P rfl dX10_swap_31
  · rw [if_pos hc] at hF
    refine lv_bipush (pc := 17) (v := (-3)) hx hb dX10_swap_17 (by decide) ?_
    cases hF
    exact hret _ _ _ _ P rfl dX10_swap_19
def F_X10_cap (h : Hp) (a0 : Nat) (vp1 : Int32) : Option (Int32 × Hp) :=
(pI h a0 10 0 0).bind fun h1 =>
(F_X10_within h1 (Int32.toInt64 vp1) 0 99).bind fun v2 =>
if v2 = 0 then (
some ((-3), h1)) else (
(cO h1 a0 10 (F_X10_begins h1 a0)).bind fun h3 =>
(gR h3 a0 10 1).bind fun a4 =>
(aI h3 a4 6).bind fun v5 =>
(gR h3 a0 10 1).bind fun a6 =>
(sI h3 a6 6 vp1).bind fun h7 =>
(cO h7 a0 10 (F_X10_ends h7 a0 v5 1)).bind (un fun v8 h9 =>
some (v8, h9)))
set_option maxRecDepth 100000 in
set_option maxHeartbeats 4000000 in
theorem c_X10_cap (l : Launch) (G : GG) (B : Nat) (h : Hp) (a0 : Nat) (vp1 : Int32) (r0 : Int32) (hr : Hp) (hF : F_X10_cap h a0 vp1 = some (r0, hr)) : CI l yX10_cap cX10_cap 3 .int 3 67 0 0 G B h [.ref (B + a0), .int vp1] r0 hr := by
  refine ent_i rfl (Nat.le_of_ble_eq_true rfl) ?_
  intro p e s m args below meth c ls Q CX hnm hret P hl
  have CX : Cxt p m c cX10_cap 3 s args RX10 G B := CX
  obtain ⟨⟨hx, hb, hml, hown, hts⟩, -, -⟩ := id CX
  replace hl : lv_has ls 3 [(0, .ref (B + a0)), (1, .int vp1)] := hl
  generalize s.heap = H at P ⊢
  generalize ([] : List Loc) = locs at P ⊢
  unfold F_X10_cap at hF
  refine lv_aload_n (pc := 0) hx hb dX10_cap_0 rfl (lv_at hl 0 rfl) ?_
  refine lv_iconst (pc := 1) (v := 0) hx hb dX10_cap_1 (by decide) ?_
  refine r_pI (pc := 2) CX P hF fl_X10_1 dX10_cap_2 (fun h1 H locs P hF => ?_)
  refine lv_iload_n (pc := 5) hx hb dX10_cap_5 rfl (lv_at hl 1 rfl) ?_
  refine lv_i2l (pc := 6) hx hb dX10_cap_6 rfl ?_
  refine lv_lconst (pc := 7) (v := 0) hx hb dX10_cap_7 (by decide) ?_
  refine lv_ldc2 (pc := 8) (v := 99) hx hb hown (hts _ tw_1213) dX10_cap_8 ?_
  refine r_cSp (pc := 11) (As := [.long (Int32.toInt64 vp1), .long 0, .long 99]) (rest := []) CX P hl.1 hF ks_X10_85 (fun r q => c_X10_within l G B _ _ _ _ _ q) rfl rfl ⟨Nat.le_of_ble_eq_true rfl, Nat.le_of_ble_eq_true rfl⟩ (Nat.le_of_ble_eq_true rfl) ⟨Nat.le_of_ble_eq_true rfl, Nat.le_of_ble_eq_true rfl⟩ dX10_cap_11 (fun v2 H locs P hF => ?_)
  refine lv_if_ne (pc := 14) (tgt := 20) hx hb dX10_cap_14 (by decide) (fun hc => ?_) (fun hc => ?_)
  · rw [if_neg hc] at hF
    refine lv_aload_n (pc := 20) hx hb dX10_cap_20 rfl (lv_at hl 0 rfl) ?_
    refine r_cVv (pc := 21) (As := []) (rest := []) CX P hl.1 hF kv_X10_211 (fun h1 q => c_X10_begins l G B _ _ _ q) rfl rfl ⟨Nat.le_of_ble_eq_true rfl, Nat.le_of_ble_eq_true rfl⟩ (Nat.le_of_ble_eq_true rfl) ⟨Nat.le_of_ble_eq_true rfl, Nat.le_of_ble_eq_true rfl⟩ dX10_cap_21 (fun h3 H locs P hF => ?_)
    refine lv_aload_n (pc := 24) hx hb dX10_cap_24 rfl (lv_at hl 0 rfl) ?_
    refine r_gR (pc := 25) CX P hF fl_X10_13 dX10_cap_25 (fun a4 hF => ?_)
    refine lv_bipush (pc := 28) (v := 6) hx hb dX10_cap_28 (by decide) ?_
    refine r_aI (pc := 30) CX P hF dX10_cap_30 (fun v5 hF => ?_)
    refine lv_istore_n (pc := 31) hx hb dX10_cap_31 rfl hl (by decide) rfl (fun ls hl => ?_)
    replace hl : lv_has ls 3 [(2, .int v5), (0, .ref (B + a0)), (1, .int vp1)] := hl
    refine lv_aload_n (pc := 32) hx hb dX10_cap_32 rfl (lv_at hl 1 rfl) ?_
    refine r_gR (pc := 33) CX P hF fl_X10_13 dX10_cap_33 (fun a6 hF => ?_)
    refine lv_bipush (pc := 36) (v := 6) hx hb dX10_cap_36 (by decide) ?_
    refine lv_iload_n (pc := 38) hx hb dX10_cap_38 rfl (lv_at hl 2 rfl) ?_
    refine r_sI (pc := 39) CX P hF dX10_cap_39 (fun h7 H locs P hF => ?_)
    refine lv_aload_n (pc := 40) hx hb dX10_cap_40 rfl (lv_at hl 1 rfl) ?_
    refine lv_iload_n (pc := 41) hx hb dX10_cap_41 rfl (lv_at hl 0 rfl) ?_
    refine lv_iconst (pc := 42) (v := 1) hx hb dX10_cap_42 (by decide) ?_
    refine r_cVi (pc := 43) (As := [.int v5, .int 1]) (rest := []) CX P hl.1 hF kv_X10_214 (fun r h1 q => c_X10_ends l G B _ _ _ _ _ _ q) rfl rfl ⟨Nat.le_of_ble_eq_true rfl, Nat.le_of_ble_eq_true rfl⟩ (Nat.le_of_ble_eq_true rfl) ⟨Nat.le_of_ble_eq_true rfl, Nat.le_of_ble_eq_true rfl⟩ dX10_cap_43 (fun v8 h9 H locs P hF => ?_)
    replace hF := un_i hF
    cases hF
    exact hret _ _ _ _ P rfl dX10_cap_46
  · rw [if_pos hc] at hF
    refine lv_bipush (pc := 17) (v := (-3)) hx hb dX10_cap_17 (by decide) ?_
    cases hF
    exact hret _ _ _ _ P rfl dX10_cap_19
