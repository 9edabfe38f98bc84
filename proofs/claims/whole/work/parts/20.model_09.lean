def F_X10_round_L8 (a2 : Nat) (v3 : Int32) (v4 : Int32) (v5 : Int32) (v6 : Int32) (v7 : Int32) (h8 : Hp) : Option ((Int32 × Int32 × Int32 × Hp) ⊕ (Int32 × Int32 × Hp)) :=
if 28 ≤ v7 then (
some (.inr (v5, v6, h8))) else (
(gR h8 a2 10 19).bind fun a9 =>
(cO h8 a2 10 (F_X10_isOf h8 a2 v7 v3)).bind (un fun v10 h11 =>
(if v10 = 0 then (
some (0 : Int32)) else (
(gR h11 a2 10 18).bind fun a13 =>
(aI h11 a13 v7).bind fun v14 =>
(gR h11 a2 10 17).bind fun a15 =>
(aI h11 a15 v7).bind fun v16 =>
if v16 ≤ v14 then (
some (0 : Int32)) else (
some (1 : Int32)))).bind fun v17 =>
(sB h11 a9 v7 v17).bind fun h18 =>
(gR h18 a2 10 19).bind fun a19 =>
(aB h18 a19 v7).bind fun v20 =>
if v20 = 0 then (
bl (v7 + 1) fun v33 =>
some (.inl (v5, v6, v33, h18))) else (
(cO h18 a2 10 (F_X10_weightOf h18 a2 v7)).bind (un fun v21 h22 =>
bl (v5 + v21) fun v23 =>
bl (fun (v30 : Int32) (h31 : Hp) =>
bl (v30 + 1) fun v32 =>
some (.inl (v23, v30, v32, h31))) fun k24 =>
if v6 = (-1) then (
k24 (v7 : Int32) h22) else (
(cO h22 a2 10 (F_X10_weightOf h22 a2 v7)).bind (un fun v25 h26 =>
(cO h26 a2 10 (F_X10_weightOf h26 a2 v6)).bind (un fun v27 h28 =>
if v25 ≤ v27 then (
bl (v7 + 1) fun v29 =>
some (.inl (v23, v6, v29, h28))) else (
k24 (v7 : Int32) h28))))))))
def F_X10_round_L121 (a38 : Nat) (v39 : Int32) (v40 : Int32) (v41 : Int32) (v42 : Int32) (v43 : Int32) (h44 : Hp) : Option ((Int32 × Int32 × Hp) ⊕ (Int32 × Hp)) :=
if 28 ≤ v43 then (
some (.inr (v42, h44))) else (
(gR h44 a38 10 19).bind fun a45 =>
(aB h44 a45 v43).bind fun v46 =>
if v46 = 0 then (
bl (v43 + 1) fun v60 =>
some (.inl (v42, v60, h44))) else (
(cO h44 a38 10 (F_X10_weightOf h44 a38 v43)).bind (un fun v47 h48 =>
(dvI (v39 * v47) v40).bind fun v49 =>
(gR h48 a38 10 17).bind fun a50 =>
(aI h48 a50 v43).bind fun v51 =>
(gR h48 a38 10 18).bind fun a52 =>
(aI h48 a52 v43).bind fun v53 =>
(F_X10_lesser h48 v49 (v51 - v53)).bind fun v54 =>
(gR h48 a38 10 18).bind fun a55 =>
(aI h48 a55 v43).bind fun v56 =>
(sI h48 a55 v43 (v56 + v54)).bind fun h57 =>
bl (v42 + v54) fun v58 =>
bl (v43 + 1) fun v59 =>
some (.inl (v58, v59, h57)))))
def F_X10_round (h : Hp) (a0 : Nat) (vp1 : Int32) (vp2 : Int32) : Option (Int32 × Hp) :=
(loopF (fun x => F_X10_round_L8 a0 vp1 vp2 x.1 x.2.1 x.2.2.1 x.2.2.2) 6000 (0, (-1), 0, h)).bind fun q1 =>
bl q1.1 fun v34 =>
bl q1.2.1 fun v35 =>
bl q1.2.2 fun h36 =>
if v35 = (-1) then (
some (0, h36)) else (
(loopF (fun x => F_X10_round_L121 a0 vp2 v34 v35 x.1 x.2.1 x.2.2) 6000 (0, 0, h36)).bind fun q37 =>
bl q37.1 fun v61 =>
bl q37.2 fun h62 =>
if v61 ≤ 0 then (
(gR h62 a0 10 18).bind fun a63 =>
(aI h62 a63 v35).bind fun v64 =>
(sI h62 a63 v35 (v64 + 1)).bind fun h65 =>
some (1, h65)) else (
some (v61, h62)))
set_option maxRecDepth 100000 in
set_option maxHeartbeats 4000000 in
theorem c_X10_round (l : Launch) (G : GG) (B : Nat) (h : Hp) (a0 : Nat) (vp1 : Int32) (vp2 : Int32) (r0 : Int32) (hr : Hp) (hF : F_X10_round h a0 vp1 vp2 = some (r0, hr)) : CI l yX10_round cX10_round 8 .int 3 68 0 0 G B h [.ref (B + a0), .int vp1, .int vp2] r0 hr := by
  refine ent_i rfl (Nat.le_of_ble_eq_true rfl) ?_
  intro p e s m args below meth c ls Q CX hnm hret P hl
  have CX : Cxt p m c cX10_round 8 s args RX10 G B := CX
  obtain ⟨⟨hx, hb, hml, hown, hts⟩, -, -⟩ := id CX
  replace hl : lv_has ls 8 [(0, .ref (B + a0)), (1, .int vp1), (2, .int vp2)] := hl
  generalize s.heap = H at P ⊢
  generalize ([] : List Loc) = locs at P ⊢
  unfold F_X10_round at hF
  refine lv_iconst (pc := 0) (v := 0) hx hb dX10_round_0 (by decide) ?_
  refine lv_istore_n (pc := 1) hx hb dX10_round_1 rfl hl (by decide) rfl (fun ls hl => ?_)
  replace hl : lv_has ls 8 [(3, .int 0), (0, .ref (B + a0)), (1, .int vp1), (2, .int vp2)] := hl
  refine lv_iconst (pc := 2) (v := (-1)) hx hb dX10_round_2 (by decide) ?_
  refine lv_istore (pc := 3) hx hb dX10_round_3 hl (by decide) rfl (fun ls hl => ?_)
  replace hl : lv_has ls 8 [(4, .int (-1)), (3, .int 0), (0, .ref (B + a0)), (1, .int vp1), (2, .int vp2)] := hl
  refine lv_iconst (pc := 5) (v := 0) hx hb dX10_round_5 (by decide) ?_
  refine lv_istore (pc := 6) hx hb dX10_round_6 hl (by decide) rfl (fun ls hl => ?_)
  replace hl : lv_has ls 8 [(5, .int 0), (4, .int (-1)), (3, .int 0), (0, .ref (B + a0)), (1, .int vp1), (2, .int vp2)] := hl
  obtain ⟨r1, hLp1, hK1⟩ := bd_some hF
  have hX1 : ∀ (v34 : Int32) (v35 : Int32) (h36 : Hp) (H : Heap) (locs : List Loc) (ls : Array Slot), Pic G B h36 s H locs → lv_has ls 8 [(0, .ref (B + a0)), (2, .int vp2), (3, .int v34), (4, .int v35)] → (v34, v35, h36) = r1 → W p l e (rmM 3 68 0 0) s m args below meth c H locs 0 0 Q (F0 m 107 ls []) := by
    intro v34 v35 h36 H locs ls P hl er
    subst er
    have hF := hK1
    replace hF := bl_i hF
    replace hF := bl_i hF
    replace hF := bl_i hF
    try dsimp only at hF
    refine lv_iload (pc := 107) hx hb dX10_round_107 (lv_at hl 3 rfl) ?_
    refine lv_iconst (pc := 109) (v := (-1)) hx hb dX10_round_109 (by decide) ?_
    refine lv_icmp_ne (pc := 110) (tgt := 115) hx hb dX10_round_110 (by decide) (fun hc => ?_) (fun hc => ?_)
    · rw [if_neg hc] at hF
      refine lv_iconst (pc := 115) (v := 0) hx hb dX10_round_115 (by decide) ?_
      refine lv_istore (pc := 116) hx hb dX10_round_116 hl (by decide) rfl (fun ls hl => ?_)
      replace hl : lv_has ls 8 [(5, .int 0), (0, .ref (B + a0)), (2, .int vp2), (3, .int v34), (4, .int v35)] := hl
      refine lv_iconst (pc := 118) (v := 0) hx hb dX10_round_118 (by decide) ?_
      refine lv_istore (pc := 119) hx hb dX10_round_119 hl (by decide) rfl (fun ls hl => ?_)
      replace hl : lv_has ls 8 [(6, .int 0), (5, .int 0), (0, .ref (B + a0)), (2, .int vp2), (3, .int v34), (4, .int v35)] := hl
      obtain ⟨r37, hLp37, hK37⟩ := bd_some hF
      have hX37 : ∀ (v61 : Int32) (h62 : Hp) (H : Heap) (locs : List Loc) (ls : Array Slot), Pic G B h62 s H locs → lv_has ls 8 [(0, .ref (B + a0)), (4, .int v35), (5, .int v61)] → (v61, h62) = r37 → W p l e (rmM 3 68 0 0) s m args below meth c H locs 0 0 Q (F0 m 196 ls []) := by
        intro v61 h62 H locs ls P hl er
        subst er
        have hF := hK37
        replace hF := bl_i hF
        replace hF := bl_i hF
        try dsimp only at hF
        refine lv_iload (pc := 196) hx hb dX10_round_196 (lv_at hl 2 rfl) ?_
        refine lv_if_le (pc := 198) (tgt := 204) hx hb dX10_round_198 (by decide) (fun hc => ?_) (fun hc => ?_)
        · rw [if_pos hc] at hF
          refine lv_aload_n (pc := 204) hx hb dX10_round_204 rfl (lv_at hl 0 rfl) ?_
          refine r_gR (pc := 205) CX P hF fl_X10_63 dX10_round_205 (fun a63 hF => ?_)
          refine lv_iload (pc := 208) hx hb dX10_round_208 (lv_at hl 1 rfl) ?_
          refine lv_dup2_11 (pc := 210) hx hb dX10_round_210 rfl rfl ?_
          refine r_aI (pc := 211) CX P hF dX10_round_211 (fun v64 hF => ?_)
          refine lv_iconst (pc := 212) (v := 1) hx hb dX10_round_212 (by decide) ?_
          refine lv_iadd (pc := 213) hx hb dX10_round_213 ?_
          refine r_sI (pc := 214) CX P hF dX10_round_214 (fun h65 H locs P hF => ?_)
          refine lv_iconst (pc := 215) (v := 1) hx hb dX10_round_215 (by decide) ?_
          cases hF
          exact hret _ _ _ _ P rfl dX10_round_216
        · rw [if_neg hc] at hF
          refine lv_iload (pc := 201) hx hb dX10_round_201 (lv_at hl 2 rfl) ?_
          cases hF
          exact hret _ _ _ _ P rfl dX10_round_203
      have hL37 : ∀ (n : Nat) (v42 : Int32) (v43 : Int32) (h44 : Hp) (H : Heap) (locs : List Loc) (ls : Array Slot), Pic G B h44 s H locs → lv_has ls 8 [(0, .ref (B + a0)), (2, .int vp2), (3, .int v34), (4, .int v35), (5, .int v42), (6, .int v43)] → loopF (fun x => F_X10_round_L121 a0 vp2 v34 v35 x.1 x.2.1 x.2.2) n (v42, v43, h44) = some r37 → W p l e (rmM 3 68 0 0) s m args below meth c H locs 0 0 Q (F0 m 121 ls []) := by
        intro n
        induction n with
        | zero => intro v42 v43 h44 H locs ls P hl hq; cases hq
        | succ n ih =>
          intro v42 v43 h44 H locs ls P hl hq
          obtain ⟨z37, hS37, hI37, hR37⟩ := loop_some hq
          have hF : F_X10_round_L121 a0 vp2 v34 v35 v42 v43 h44 = some z37 := hS37
          unfold F_X10_round_L121 at hF
          refine lv_iload (pc := 121) hx hb dX10_round_121 (lv_at hl 5 rfl) ?_
          refine lv_bipush (pc := 123) (v := 28) hx hb dX10_round_123 (by decide) ?_
          refine lv_icmp_ge (pc := 125) (tgt := 196) hx hb dX10_round_125 (by decide) (fun hc => ?_) (fun hc => ?_)
          · rw [if_pos hc] at hF
            exact hX37 _ _ _ _ _ P (lv_sub hl [0, 3, 4] rfl) (hR37 _ (Option.some.inj hF).symm)
          · rw [if_neg hc] at hF
            refine lv_aload_n (pc := 128) hx hb dX10_round_128 rfl (lv_at hl 0 rfl) ?_
            refine r_gR (pc := 129) CX P hF fl_X10_66 dX10_round_129 (fun a45 hF => ?_)
            refine lv_iload (pc := 132) hx hb dX10_round_132 (lv_at hl 5 rfl) ?_
            refine r_aB (pc := 134) CX P hF dX10_round_134 (fun v46 hF => ?_)
            refine lv_if_ne (pc := 135) (tgt := 141) hx hb dX10_round_135 (by decide) (fun hc => ?_) (fun hc => ?_)
            · rw [if_neg hc] at hF
              refine lv_iload_n (pc := 141) hx hb dX10_round_141 rfl (lv_at hl 1 rfl) ?_
              refine lv_aload_n (pc := 142) hx hb dX10_round_142 rfl (lv_at hl 0 rfl) ?_
              refine lv_iload (pc := 143) hx hb dX10_round_143 (lv_at hl 5 rfl) ?_
              refine r_cVi (pc := 145) (As := [.int v43]) (rest := [.int vp2]) CX P hl.1 hF kv_X10_267 (fun r h1 q => c_X10_weightOf l G B _ _ _ _ _ q) rfl rfl ⟨Nat.le_of_ble_eq_true rfl, Nat.le_of_ble_eq_true rfl⟩ (Nat.le_of_ble_eq_true rfl) ⟨Nat.le_of_ble_eq_true rfl, Nat.le_of_ble_eq_true rfl⟩ dX10_round_145 (fun v47 h48 H locs P hF => ?_)
              replace hF := un_i hF
              refine lv_imul (pc := 148) hx hb dX10_round_148 ?_
              refine lv_iload_n (pc := 149) hx hb dX10_round_149 rfl (lv_at hl 2 rfl) ?_
              refine r_dv (pc := 150) hx hb hF dX10_round_150 (fun v49 hF => ?_)
              refine lv_aload_n (pc := 151) hx hb dX10_round_151 rfl (lv_at hl 0 rfl) ?_
              refine r_gR (pc := 152) CX P hF fl_X10_60 dX10_round_152 (fun a50 hF => ?_)
              refine lv_iload (pc := 155) hx hb dX10_round_155 (lv_at hl 5 rfl) ?_
              refine r_aI (pc := 157) CX P hF dX10_round_157 (fun v51 hF => ?_)
              refine lv_aload_n (pc := 158) hx hb dX10_round_158 rfl (lv_at hl 0 rfl) ?_
              refine r_gR (pc := 159) CX P hF fl_X10_63 dX10_round_159 (fun a52 hF => ?_)
              refine lv_iload (pc := 162) hx hb dX10_round_162 (lv_at hl 5 rfl) ?_
              refine r_aI (pc := 164) CX P hF dX10_round_164 (fun v53 hF => ?_)
              refine lv_isub (pc := 165) hx hb dX10_round_165 ?_
              refine r_cSp (pc := 166) (As := [.int v49, .int (v51 - v53)]) (rest := []) CX P hl.1 hF ks_X10_137 (fun r q => c_X10_lesser l G B _ _ _ _ q) rfl rfl ⟨Nat.le_of_ble_eq_true rfl, Nat.le_of_ble_eq_true rfl⟩ (Nat.le_of_ble_eq_true rfl) ⟨Nat.le_of_ble_eq_true rfl, Nat.le_of_ble_eq_true rfl⟩ dX10_round_166 (fun v54 H locs P hF => ?_)
              refine lv_istore (pc := 169) hx hb dX10_round_169 hl (by decide) rfl (fun ls hl => ?_)
              replace hl : lv_has ls 8 [(7, .int v54), (0, .ref (B + a0)), (2, .int vp2), (3, .int v34), (4, .int v35), (5, .int v42), (6, .int v43)] := hl
              refine lv_aload_n (pc := 171) hx hb dX10_round_171 rfl (lv_at hl 1 rfl) ?_
              refine r_gR (pc := 172) CX P hF fl_X10_63 dX10_round_172 (fun a55 hF => ?_)
              refine lv_iload (pc := 175) hx hb dX10_round_175 (lv_at hl 6 rfl) ?_
              refine lv_dup2_11 (pc := 177) hx hb dX10_round_177 rfl rfl ?_
              refine r_aI (pc := 178) CX P hF dX10_round_178 (fun v56 hF => ?_)
              refine lv_iload (pc := 179) hx hb dX10_round_179 (lv_at hl 0 rfl) ?_
              refine lv_iadd (pc := 181) hx hb dX10_round_181 ?_
              refine r_sI (pc := 182) CX P hF dX10_round_182 (fun h57 H locs P hF => ?_)
              refine lv_iload (pc := 183) hx hb dX10_round_183 (lv_at hl 5 rfl) ?_
              refine lv_iload (pc := 185) hx hb dX10_round_185 (lv_at hl 0 rfl) ?_
              refine lv_iadd (pc := 187) hx hb dX10_round_187 ?_
              refine lv_topi (fun v58 ev58 => ?_)
              replace hF := bl_e hF ev58
              refine lv_istore (pc := 188) hx hb dX10_round_188 hl (by decide) rfl (fun ls hl => ?_)
              replace hl : lv_has ls 8 [(5, .int v58), (7, .int v54), (0, .ref (B + a0)), (2, .int vp2), (3, .int v34), (4, .int v35), (6, .int v43)] := hl
              obtain ⟨v59, ev59, hF⟩ := bl_o hF
              refine lv_iinc (pc := 190) (k := 6) (v := v59) hx hb dX10_round_190 hl rfl ev59 (by decide) rfl (fun ls hl => ?_)
              replace hl : lv_has ls 8 [(6, .int v59), (5, .int v58), (7, .int v54), (0, .ref (B + a0)), (2, .int vp2), (3, .int v34), (4, .int v35)] := hl
              refine lv_goto (pc := 193) (tgt := 121) hx hb dX10_round_193 (by decide) ?_
              exact ih _ _ _ _ _ _ P (lv_sub hl [3, 4, 5, 6, 1, 0] rfl) (hI37 _ (Option.some.inj hF).symm)
            · rw [if_pos hc] at hF
              refine lv_goto (pc := 138) (tgt := 190) hx hb dX10_round_138 (by decide) ?_
              obtain ⟨v60, ev60, hF⟩ := bl_o hF
              refine lv_iinc (pc := 190) (k := 5) (v := v60) hx hb dX10_round_190 hl rfl ev60 (by decide) rfl (fun ls hl => ?_)
              replace hl : lv_has ls 8 [(6, .int v60), (0, .ref (B + a0)), (2, .int vp2), (3, .int v34), (4, .int v35), (5, .int v42)] := hl
              refine lv_goto (pc := 193) (tgt := 121) hx hb dX10_round_193 (by decide) ?_
              exact ih _ _ _ _ _ _ P (lv_sub hl [1, 2, 3, 4, 5, 0] rfl) (hI37 _ (Option.some.inj hF).symm)
      exact hL37 _ _ _ _ _ _ _ P (lv_sub hl [2, 3, 4, 5, 1, 0] rfl) hLp37
    · rw [if_pos hc] at hF
      refine lv_iconst (pc := 113) (v := 0) hx hb dX10_round_113 (by decide) ?_
      cases hF
      exact hret _ _ _ _ P rfl dX10_round_114
  have hL1 : ∀ (n : Nat) (v5 : Int32) (v6 : Int32) (v7 : Int32) (h8 : Hp) (H : Heap) (locs : List Loc) (ls : Array Slot), Pic G B h8 s H locs → lv_has ls 8 [(0, .ref (B + a0)), (1, .int vp1), (2, .int vp2), (3, .int v5), (4, .int v6), (5, .int v7)] → loopF (fun x => F_X10_round_L8 a0 vp1 vp2 x.1 x.2.1 x.2.2.1 x.2.2.2) n (v5, v6, v7, h8) = some r1 → W p l e (rmM 3 68 0 0) s m args below meth c H locs 0 0 Q (F0 m 8 ls []) := by
    intro n
    induction n with
    | zero => intro v5 v6 v7 h8 H locs ls P hl hq; cases hq
    | succ n ih =>
      intro v5 v6 v7 h8 H locs ls P hl hq
      obtain ⟨z1, hS1, hI1, hR1⟩ := loop_some hq
      have hF : F_X10_round_L8 a0 vp1 vp2 v5 v6 v7 h8 = some z1 := hS1
      unfold F_X10_round_L8 at hF
      refine lv_iload (pc := 8) hx hb dX10_round_8 (lv_at hl 5 rfl) ?_
      refine lv_bipush (pc := 10) (v := 28) hx hb dX10_round_10 (by decide) ?_
      refine lv_icmp_ge (pc := 12) (tgt := 107) hx hb dX10_round_12 (by decide) (fun hc => ?_) (fun hc => ?_)
      · rw [if_pos hc] at hF
        exact hX1 _ _ _ _ _ _ P (lv_sub hl [0, 2, 3, 4] rfl) (hR1 _ (Option.some.inj hF).symm)
      · rw [if_neg hc] at hF
        refine lv_aload_n (pc := 15) hx hb dX10_round_15 rfl (lv_at hl 0 rfl) ?_
        refine r_gR (pc := 16) CX P hF fl_X10_66 dX10_round_16 (fun a9 hF => ?_)
        refine lv_iload (pc := 19) hx hb dX10_round_19 (lv_at hl 5 rfl) ?_
        refine lv_aload_n (pc := 21) hx hb dX10_round_21 rfl (lv_at hl 0 rfl) ?_
        refine lv_iload (pc := 22) hx hb dX10_round_22 (lv_at hl 5 rfl) ?_
        refine lv_iload_n (pc := 24) hx hb dX10_round_24 rfl (lv_at hl 1 rfl) ?_
        refine r_cVi (pc := 25) (As := [.int v7, .int vp1]) (rest := [.int v7, .ref (B + a9)]) CX P hl.1 hF kv_X10_264 (fun r h1 q => c_X10_isOf l G B _ _ _ _ _ _ q) rfl rfl ⟨Nat.le_of_ble_eq_true rfl, Nat.le_of_ble_eq_true rfl⟩ (Nat.le_of_ble_eq_true rfl) ⟨Nat.le_of_ble_eq_true rfl, Nat.le_of_ble_eq_true rfl⟩ dX10_round_25 (fun v10 h11 H locs P hF => ?_)
        replace hF := un_i hF
        obtain ⟨j12, hA12, hK12⟩ := bd_some hF
        have hJ12 : ∀ (v17 : Int32) (H : Heap) (locs : List Loc) (ls : Array Slot), Pic G B h11 s H locs → lv_has ls 8 [(0, .ref (B + a0)), (1, .int vp1), (2, .int vp2), (3, .int v5), (4, .int v6), (5, .int v7)] → v17 = j12 → W p l e (rmM 3 68 0 0) s m args below meth c H locs 0 0 Q (F0 m 53 ls [.int v17, .int v7, .ref (B + a9)]) := by
          intro v17 H locs ls P hl ej
          subst ej
          have hF := hK12
          refine r_sB (pc := 53) CX P hF dX10_round_53 (fun h18 H locs P hF => ?_)
          refine lv_aload_n (pc := 54) hx hb dX10_round_54 rfl (lv_at hl 0 rfl) ?_
          refine r_gR (pc := 55) CX P hF fl_X10_66 dX10_round_55 (fun a19 hF => ?_)
          refine lv_iload (pc := 58) hx hb dX10_round_58 (lv_at hl 5 rfl) ?_
          refine r_aB (pc := 60) CX P hF dX10_round_60 (fun v20 hF => ?_)
          refine lv_if_ne (pc := 61) (tgt := 67) hx hb dX10_round_61 (by decide) (fun hc => ?_) (fun hc => ?_)
          · rw [if_neg hc] at hF
            refine lv_iload_n (pc := 67) hx hb dX10_round_67 rfl (lv_at hl 3 rfl) ?_
            refine lv_aload_n (pc := 68) hx hb dX10_round_68 rfl (lv_at hl 0 rfl) ?_
            refine lv_iload (pc := 69) hx hb dX10_round_69 (lv_at hl 5 rfl) ?_
            refine r_cVi (pc := 71) (As := [.int v7]) (rest := [.int v5]) CX P hl.1 hF kv_X10_267 (fun r h1 q => c_X10_weightOf l G B _ _ _ _ _ q) rfl rfl ⟨Nat.le_of_ble_eq_true rfl, Nat.le_of_ble_eq_true rfl⟩ (Nat.le_of_ble_eq_true rfl) ⟨Nat.le_of_ble_eq_true rfl, Nat.le_of_ble_eq_true rfl⟩ dX10_round_71 (fun v21 h22 H locs P hF => ?_)
            replace hF := un_i hF
            refine lv_iadd (pc := 74) hx hb dX10_round_74 ?_
            refine lv_topi (fun v23 ev23 => ?_)
            replace hF := bl_e hF ev23
            refine lv_istore_n (pc := 75) hx hb dX10_round_75 rfl hl (by decide) rfl (fun ls hl => ?_)
            replace hl : lv_has ls 8 [(3, .int v23), (0, .ref (B + a0)), (1, .int vp1), (2, .int vp2), (4, .int v6), (5, .int v7)] := hl
            refine lv_iload (pc := 76) hx hb dX10_round_76 (lv_at hl 4 rfl) ?_
            refine lv_iconst (pc := 78) (v := (-1)) hx hb dX10_round_78 (by decide) ?_
            obtain ⟨k24, ek24, hF⟩ := bl_o hF
            have hJ24 : ∀ (v30 : Int32) (h31 : Hp) (H : Heap) (locs : List Loc) (ls : Array Slot), Pic G B h31 s H locs → lv_has ls 8 [(0, .ref (B + a0)), (1, .int vp1), (2, .int vp2), (3, .int v23), (5, .int v30)] → k24 v30 h31 = some z1 → W p l e (rmM 3 68 0 0) s m args below meth c H locs 0 0 Q (F0 m 97 ls []) := by
              intro v30 h31 H locs ls P hl hF
              rw [← ek24] at hF
              try dsimp only at hF
              refine lv_iload (pc := 97) hx hb dX10_round_97 (lv_at hl 4 rfl) ?_
              refine lv_istore (pc := 99) hx hb dX10_round_99 hl (by decide) rfl (fun ls hl => ?_)
              replace hl : lv_has ls 8 [(4, .int v30), (0, .ref (B + a0)), (1, .int vp1), (2, .int vp2), (3, .int v23), (5, .int v30)] := hl
              obtain ⟨v32, ev32, hF⟩ := bl_o hF
              refine lv_iinc (pc := 101) (k := 5) (v := v32) hx hb dX10_round_101 hl rfl ev32 (by decide) rfl (fun ls hl => ?_)
              replace hl : lv_has ls 8 [(5, .int v32), (4, .int v30), (0, .ref (B + a0)), (1, .int vp1), (2, .int vp2), (3, .int v23)] := hl
              refine lv_goto (pc := 104) (tgt := 8) hx hb dX10_round_104 (by decide) ?_
              exact ih _ _ _ _ _ _ _ P (lv_sub hl [2, 3, 4, 5, 1, 0] rfl) (hI1 _ (Option.some.inj hF).symm)
            refine lv_icmp_eq (pc := 79) (tgt := 97) hx hb dX10_round_79 (by decide) (fun hc => ?_) (fun hc => ?_)
            · rw [if_pos hc] at hF
              exact hJ24 _ _ _ _ _ P (lv_sub hl [1, 2, 3, 0, 5] rfl) hF
            · rw [if_neg hc] at hF
              refine lv_aload_n (pc := 82) hx hb dX10_round_82 rfl (lv_at hl 1 rfl) ?_
              refine lv_iload (pc := 83) hx hb dX10_round_83 (lv_at hl 5 rfl) ?_
              refine r_cVi (pc := 85) (As := [.int v7]) (rest := []) CX P hl.1 hF kv_X10_267 (fun r h1 q => c_X10_weightOf l G B _ _ _ _ _ q) rfl rfl ⟨Nat.le_of_ble_eq_true rfl, Nat.le_of_ble_eq_true rfl⟩ (Nat.le_of_ble_eq_true rfl) ⟨Nat.le_of_ble_eq_true rfl, Nat.le_of_ble_eq_true rfl⟩ dX10_round_85 (fun v25 h26 H locs P hF => ?_)
              replace hF := un_i hF
              refine lv_aload_n (pc := 88) hx hb dX10_round_88 rfl (lv_at hl 1 rfl) ?_
              refine lv_iload (pc := 89) hx hb dX10_round_89 (lv_at hl 4 rfl) ?_
              refine r_cVi (pc := 91) (As := [.int v6]) (rest := [.int v25]) CX P hl.1 hF kv_X10_267 (fun r h1 q => c_X10_weightOf l G B _ _ _ _ _ q) rfl rfl ⟨Nat.le_of_ble_eq_true rfl, Nat.le_of_ble_eq_true rfl⟩ (Nat.le_of_ble_eq_true rfl) ⟨Nat.le_of_ble_eq_true rfl, Nat.le_of_ble_eq_true rfl⟩ dX10_round_91 (fun v27 h28 H locs P hF => ?_)
              replace hF := un_i hF
              refine lv_icmp_le (pc := 94) (tgt := 101) hx hb dX10_round_94 (by decide) (fun hc => ?_) (fun hc => ?_)
              · rw [if_pos hc] at hF
                obtain ⟨v29, ev29, hF⟩ := bl_o hF
                refine lv_iinc (pc := 101) (k := 5) (v := v29) hx hb dX10_round_101 hl rfl ev29 (by decide) rfl (fun ls hl => ?_)
                replace hl : lv_has ls 8 [(5, .int v29), (3, .int v23), (0, .ref (B + a0)), (1, .int vp1), (2, .int vp2), (4, .int v6)] := hl
                refine lv_goto (pc := 104) (tgt := 8) hx hb dX10_round_104 (by decide) ?_
                exact ih _ _ _ _ _ _ _ P (lv_sub hl [2, 3, 4, 1, 5, 0] rfl) (hI1 _ (Option.some.inj hF).symm)
              · rw [if_neg hc] at hF
                exact hJ24 _ _ _ _ _ P (lv_sub hl [1, 2, 3, 0, 5] rfl) hF
          · rw [if_pos hc] at hF
            refine lv_goto (pc := 64) (tgt := 101) hx hb dX10_round_64 (by decide) ?_
            obtain ⟨v33, ev33, hF⟩ := bl_o hF
            refine lv_iinc (pc := 101) (k := 5) (v := v33) hx hb dX10_round_101 hl rfl ev33 (by decide) rfl (fun ls hl => ?_)
            replace hl : lv_has ls 8 [(5, .int v33), (0, .ref (B + a0)), (1, .int vp1), (2, .int vp2), (3, .int v5), (4, .int v6)] := hl
            refine lv_goto (pc := 104) (tgt := 8) hx hb dX10_round_104 (by decide) ?_
            exact ih _ _ _ _ _ _ _ P (lv_sub hl [1, 2, 3, 4, 5, 0] rfl) (hI1 _ (Option.some.inj hF).symm)
        replace hF := hA12
        refine lv_if_eq (pc := 28) (tgt := 52) hx hb dX10_round_28 (by decide) (fun hc => ?_) (fun hc => ?_)
        · rw [if_pos hc] at hF
          refine lv_iconst (pc := 52) (v := 0) hx hb dX10_round_52 (by decide) ?_
          exact hJ12 _ _ _ _ P (lv_sub hl [0, 1, 2, 3, 4, 5] rfl) (Option.some.inj hF)
        · rw [if_neg hc] at hF
          refine lv_aload_n (pc := 31) hx hb dX10_round_31 rfl (lv_at hl 0 rfl) ?_
          refine r_gR (pc := 32) CX P hF fl_X10_63 dX10_round_32 (fun a13 hF => ?_)
          refine lv_iload (pc := 35) hx hb dX10_round_35 (lv_at hl 5 rfl) ?_
          refine r_aI (pc := 37) CX P hF dX10_round_37 (fun v14 hF => ?_)
          refine lv_aload_n (pc := 38) hx hb dX10_round_38 rfl (lv_at hl 0 rfl) ?_
          refine r_gR (pc := 39) CX P hF fl_X10_60 dX10_round_39 (fun a15 hF => ?_)
          refine lv_iload (pc := 42) hx hb dX10_round_42 (lv_at hl 5 rfl) ?_
          refine r_aI (pc := 44) CX P hF dX10_round_44 (fun v16 hF => ?_)
          refine lv_icmp_ge (pc := 45) (tgt := 52) hx hb dX10_round_45 (by decide) (fun hc => ?_) (fun hc => ?_)
          · rw [if_pos hc] at hF
            refine lv_iconst (pc := 52) (v := 0) hx hb dX10_round_52 (by decide) ?_
            exact hJ12 _ _ _ _ P (lv_sub hl [0, 1, 2, 3, 4, 5] rfl) (Option.some.inj hF)
          · rw [if_neg hc] at hF
            refine lv_iconst (pc := 48) (v := 1) hx hb dX10_round_48 (by decide) ?_
            refine lv_goto (pc := 49) (tgt := 53) hx hb dX10_round_49 (by decide) ?_
            exact hJ12 _ _ _ _ P (lv_sub hl [0, 1, 2, 3, 4, 5] rfl) (Option.some.inj hF)
  exact hL1 _ _ _ _ _ _ _ _ P (lv_sub hl [3, 4, 5, 2, 1, 0] rfl) hLp1
def F_X10_parts_L9 (rf : Hp → Nat → Int32 → Option (Hp)) (a4 : Nat) (v5 : Int32) (v6 : Int32) (v7 : Int32) (h8 : Hp) : Option ((Int32 × Int32 × Hp) ⊕ (Hp)) :=
if v6 ≤ 0 then (
some (.inr h8)) else (
if v7 ≤ 0 then (
some (.inr h8)) else (
(cO h8 a4 10 (F_X10_round h8 a4 v5 v6)).bind (un fun v9 h10 =>
bl (v6 - v9) fun v11 =>
some (.inl (v11, v9, h10)))))
def F_X10_parts_L34 (rf : Hp → Nat → Int32 → Option (Hp)) (a14 : Nat) (v15 : Int32) (v16 : Int32) (h17 : Hp) : Option ((Int32 × Hp) ⊕ (Hp)) :=
if 12 ≤ v16 then (
some (.inr h17)) else (
(cO h17 a14 10 (F_X10_isGroup h17 a14 v16)).bind fun v18 =>
if v18 = 0 then (
bl (v16 + 1) fun v19 =>
some (.inl (v19, h17))) else (
(cO h17 a14 10 (F_X10_parentOf h17 a14 v16)).bind (un fun v20 h21 =>
if v20 = v15 then (
(cO h21 a14 10 (rf h21 a14 v16)).bind fun h23 =>
bl (v16 + 1) fun v24 =>
some (.inl (v24, h23))) else (
bl (v16 + 1) fun v22 =>
some (.inl (v22, h21))))))
def F_X10_parts : Nat → Hp → Nat → Int32 → Option (Hp)
  | 0, _, _, _ => none
  | d + 1, h, a0, vp1 =>
    (gR h a0 10 18).bind fun a1 =>
    (aI h a1 vp1).bind fun v2 =>
    (loopF (fun x => F_X10_parts_L9 (F_X10_parts d) a0 vp1 x.1 x.2.1 x.2.2) 6000 (v2, 1, h)).bind fun h12 =>
    (loopF (fun x => F_X10_parts_L34 (F_X10_parts d) a0 vp1 x.1 x.2) 6000 (1, h12)).bind fun h25 =>
    some h25
set_option maxRecDepth 100000 in
set_option maxHeartbeats 4000000 in
theorem c_X10_parts : ∀ (d : Nat) (l : Launch) (G : GG) (B : Nat) (h : Hp) (a0 : Nat) (vp1 : Int32) (hr : Hp) (hF : F_X10_parts d h a0 vp1 = some hr), CV l yX10_parts cX10_parts 5 (4 + d) (95 + 60 * d) 0 0 G B h [.ref (B + a0), .int vp1] hr := by
  intro d
  induction d with
  | zero => intro l G B h a0 vp1 hr hF; cases hF
  | succ d ihd =>
    intro l G B h a0 vp1 hr hF
    refine ent_v rfl (Nat.le_of_ble_eq_true rfl) ?_
    intro p e s m args below meth c ls Q CX hnm hret P hl
    have CX : Cxt p m c cX10_parts 5 s args RX10 G B := CX
    obtain ⟨⟨hx, hb, hml, hown, hts⟩, -, -⟩ := id CX
    replace hl : lv_has ls 5 [(0, .ref (B + a0)), (1, .int vp1)] := hl
    generalize s.heap = H at P ⊢
    generalize ([] : List Loc) = locs at P ⊢
    rw [F_X10_parts] at hF
    refine lv_aload_n (pc := 0) hx hb dX10_parts_0 rfl (lv_at hl 0 rfl) ?_
    refine r_gR (pc := 1) CX P hF fl_X10_63 dX10_parts_1 (fun a1 hF => ?_)
    refine lv_iload_n (pc := 4) hx hb dX10_parts_4 rfl (lv_at hl 1 rfl) ?_
    refine r_aI (pc := 5) CX P hF dX10_parts_5 (fun v2 hF => ?_)
    refine lv_istore_n (pc := 6) hx hb dX10_parts_6 rfl hl (by decide) rfl (fun ls hl => ?_)
    replace hl : lv_has ls 5 [(2, .int v2), (0, .ref (B + a0)), (1, .int vp1)] := hl
    refine lv_iconst (pc := 7) (v := 1) hx hb dX10_parts_7 (by decide) ?_
    refine lv_istore_n (pc := 8) hx hb dX10_parts_8 rfl hl (by decide) rfl (fun ls hl => ?_)
    replace hl : lv_has ls 5 [(3, .int 1), (2, .int v2), (0, .ref (B + a0)), (1, .int vp1)] := hl
    obtain ⟨r3, hLp3, hK3⟩ := bd_some hF
    have hX3 : ∀ (h12 : Hp) (H : Heap) (locs : List Loc) (ls : Array Slot), Pic G B h12 s H locs → lv_has ls 5 [(0, .ref (B + a0)), (1, .int vp1)] → h12 = r3 → W p l e (rmM (4 + (d + 1)) (95 + 60 * (d + 1)) 0 0) s m args below meth c H locs 0 0 Q (F0 m 31 ls []) := by
      intro h12 H locs ls P hl er
      subst er
      have hF := hK3
      refine lv_iconst (pc := 31) (v := 1) hx hb dX10_parts_31 (by decide) ?_
      refine lv_istore (pc := 32) hx hb dX10_parts_32 hl (by decide) rfl (fun ls hl => ?_)
      replace hl : lv_has ls 5 [(4, .int 1), (0, .ref (B + a0)), (1, .int vp1)] := hl
      obtain ⟨r13, hLp13, hK13⟩ := bd_some hF
      have hX13 : ∀ (h25 : Hp) (H : Heap) (locs : List Loc) (ls : Array Slot), Pic G B h25 s H locs → lv_has ls 5 [] → h25 = r13 → W p l e (rmM (4 + (d + 1)) (95 + 60 * (d + 1)) 0 0) s m args below meth c H locs 0 0 Q (F0 m 72 ls []) := by
        intro h25 H locs ls P hl er
        subst er
        have hF := hK13
        cases hF
        exact hret _ _ _ _ P dX10_parts_72
      have hL13 : ∀ (n : Nat) (v16 : Int32) (h17 : Hp) (H : Heap) (locs : List Loc) (ls : Array Slot), Pic G B h17 s H locs → lv_has ls 5 [(0, .ref (B + a0)), (1, .int vp1), (4, .int v16)] → loopF (fun x => F_X10_parts_L34 (F_X10_parts d) a0 vp1 x.1 x.2) n (v16, h17) = some r13 → W p l e (rmM (4 + (d + 1)) (95 + 60 * (d + 1)) 0 0) s m args below meth c H locs 0 0 Q (F0 m 34 ls []) := by
        intro n
        induction n with
        | zero => intro v16 h17 H locs ls P hl hq; cases hq
        | succ n ih =>
          intro v16 h17 H locs ls P hl hq
          obtain ⟨z13, hS13, hI13, hR13⟩ := loop_some hq
          have hF : F_X10_parts_L34 (F_X10_parts d) a0 vp1 v16 h17 = some z13 := hS13
          unfold F_X10_parts_L34 at hF
          refine lv_iload (pc := 34) hx hb dX10_parts_34 (lv_at hl 2 rfl) ?_
          refine lv_bipush (pc := 36) (v := 12) hx hb dX10_parts_36 (by decide) ?_
          refine lv_icmp_ge (pc := 38) (tgt := 72) hx hb dX10_parts_38 (by decide) (fun hc => ?_) (fun hc => ?_)
          · rw [if_pos hc] at hF
            exact hX13 _ _ _ _ P (lv_sub hl [] rfl) (hR13 _ (Option.some.inj hF).symm)
          · rw [if_neg hc] at hF
            refine lv_aload_n (pc := 41) hx hb dX10_parts_41 rfl (lv_at hl 0 rfl) ?_
            refine lv_iload (pc := 42) hx hb dX10_parts_42 (lv_at hl 2 rfl) ?_
            refine r_cVp (pc := 44) (As := [.int v16]) (rest := []) CX P hl.1 hF kv_X10_107 (fun r q => c_X10_isGroup l G B _ _ _ _ q) rfl rfl ⟨by show _ ≤ (rmM _ _ _ _).frames; simp only [rmM]; omega, by show _ ≤ (rmM _ _ _ _).locals; simp only [rmM]; omega⟩ (Nat.le_of_ble_eq_true rfl) ⟨Nat.le_of_ble_eq_true rfl, Nat.le_of_ble_eq_true rfl⟩ dX10_parts_44 (fun v18 H locs P hF => ?_)
            refine lv_if_eq (pc := 47) (tgt := 66) hx hb dX10_parts_47 (by decide) (fun hc => ?_) (fun hc => ?_)
            · rw [if_pos hc] at hF
              obtain ⟨v19, ev19, hF⟩ := bl_o hF
              refine lv_iinc (pc := 66) (k := 2) (v := v19) hx hb dX10_parts_66 hl rfl ev19 (by decide) rfl (fun ls hl => ?_)
              replace hl : lv_has ls 5 [(4, .int v19), (0, .ref (B + a0)), (1, .int vp1)] := hl
              refine lv_goto (pc := 69) (tgt := 34) hx hb dX10_parts_69 (by decide) ?_
              exact ih _ _ _ _ _ P (lv_sub hl [1, 2, 0] rfl) (hI13 _ (Option.some.inj hF).symm)
            · rw [if_neg hc] at hF
              refine lv_aload_n (pc := 50) hx hb dX10_parts_50 rfl (lv_at hl 0 rfl) ?_
              refine lv_iload (pc := 51) hx hb dX10_parts_51 (lv_at hl 2 rfl) ?_
              refine r_cVi (pc := 53) (As := [.int v16]) (rest := []) CX P hl.1 hF kv_X10_103 (fun r h1 q => c_X10_parentOf l G B _ _ _ _ _ q) rfl rfl ⟨by show _ ≤ (rmM _ _ _ _).frames; simp only [rmM]; omega, by show _ ≤ (rmM _ _ _ _).locals; simp only [rmM]; omega⟩ (Nat.le_of_ble_eq_true rfl) ⟨Nat.le_of_ble_eq_true rfl, Nat.le_of_ble_eq_true rfl⟩ dX10_parts_53 (fun v20 h21 H locs P hF => ?_)
              replace hF := un_i hF
              refine lv_iload_n (pc := 56) hx hb dX10_parts_56 rfl (lv_at hl 1 rfl) ?_
              refine lv_icmp_ne (pc := 57) (tgt := 66) hx hb dX10_parts_57 (by decide) (fun hc => ?_) (fun hc => ?_)
              · rw [if_neg hc] at hF
                obtain ⟨v22, ev22, hF⟩ := bl_o hF
                refine lv_iinc (pc := 66) (k := 2) (v := v22) hx hb dX10_parts_66 hl rfl ev22 (by decide) rfl (fun ls hl => ?_)
                replace hl : lv_has ls 5 [(4, .int v22), (0, .ref (B + a0)), (1, .int vp1)] := hl
                refine lv_goto (pc := 69) (tgt := 34) hx hb dX10_parts_69 (by decide) ?_
                exact ih _ _ _ _ _ P (lv_sub hl [1, 2, 0] rfl) (hI13 _ (Option.some.inj hF).symm)
              · rw [if_pos hc] at hF
                refine lv_aload_n (pc := 60) hx hb dX10_parts_60 rfl (lv_at hl 0 rfl) ?_
                refine lv_iload (pc := 61) hx hb dX10_parts_61 (lv_at hl 2 rfl) ?_
                refine r_cVv (pc := 63) (As := [.int v16]) (rest := []) CX P hl.1 hF kv_X10_273 (fun h1 q => ihd l G B _ _ _ _ q) rfl rfl ⟨by show _ ≤ (rmM _ _ _ _).frames; simp only [rmM]; omega, by show _ ≤ (rmM _ _ _ _).locals; simp only [rmM]; omega⟩ (Nat.le_of_ble_eq_true rfl) ⟨Nat.le_of_ble_eq_true rfl, Nat.le_of_ble_eq_true rfl⟩ dX10_parts_63 (fun h23 H locs P hF => ?_)
                obtain ⟨v24, ev24, hF⟩ := bl_o hF
                refine lv_iinc (pc := 66) (k := 2) (v := v24) hx hb dX10_parts_66 hl rfl ev24 (by decide) rfl (fun ls hl => ?_)
                replace hl : lv_has ls 5 [(4, .int v24), (0, .ref (B + a0)), (1, .int vp1)] := hl
                refine lv_goto (pc := 69) (tgt := 34) hx hb dX10_parts_69 (by decide) ?_
                exact ih _ _ _ _ _ P (lv_sub hl [1, 2, 0] rfl) (hI13 _ (Option.some.inj hF).symm)
      exact hL13 _ _ _ _ _ _ P (lv_sub hl [1, 2, 0] rfl) hLp13
    have hL3 : ∀ (n : Nat) (v6 : Int32) (v7 : Int32) (h8 : Hp) (H : Heap) (locs : List Loc) (ls : Array Slot), Pic G B h8 s H locs → lv_has ls 5 [(0, .ref (B + a0)), (1, .int vp1), (2, .int v6), (3, .int v7)] → loopF (fun x => F_X10_parts_L9 (F_X10_parts d) a0 vp1 x.1 x.2.1 x.2.2) n (v6, v7, h8) = some r3 → W p l e (rmM (4 + (d + 1)) (95 + 60 * (d + 1)) 0 0) s m args below meth c H locs 0 0 Q (F0 m 9 ls []) := by
      intro n
      induction n with
      | zero => intro v6 v7 h8 H locs ls P hl hq; cases hq
      | succ n ih =>
        intro v6 v7 h8 H locs ls P hl hq
        obtain ⟨z3, hS3, hI3, hR3⟩ := loop_some hq
        have hF : F_X10_parts_L9 (F_X10_parts d) a0 vp1 v6 v7 h8 = some z3 := hS3
        unfold F_X10_parts_L9 at hF
        refine lv_iload_n (pc := 9) hx hb dX10_parts_9 rfl (lv_at hl 2 rfl) ?_
        refine lv_if_le (pc := 10) (tgt := 31) hx hb dX10_parts_10 (by decide) (fun hc => ?_) (fun hc => ?_)
        · rw [if_pos hc] at hF
          exact hX3 _ _ _ _ P (lv_sub hl [0, 1] rfl) (hR3 _ (Option.some.inj hF).symm)
        · rw [if_neg hc] at hF
          refine lv_iload_n (pc := 13) hx hb dX10_parts_13 rfl (lv_at hl 3 rfl) ?_
          refine lv_if_le (pc := 14) (tgt := 31) hx hb dX10_parts_14 (by decide) (fun hc => ?_) (fun hc => ?_)
          · rw [if_pos hc] at hF
            exact hX3 _ _ _ _ P (lv_sub hl [0, 1] rfl) (hR3 _ (Option.some.inj hF).symm)
          · rw [if_neg hc] at hF
            refine lv_aload_n (pc := 17) hx hb dX10_parts_17 rfl (lv_at hl 0 rfl) ?_
            refine lv_iload_n (pc := 18) hx hb dX10_parts_18 rfl (lv_at hl 1 rfl) ?_
            refine lv_iload_n (pc := 19) hx hb dX10_parts_19 rfl (lv_at hl 2 rfl) ?_
            refine r_cVi (pc := 20) (As := [.int vp1, .int v6]) (rest := []) CX P hl.1 hF kv_X10_270 (fun r h1 q => c_X10_round l G B _ _ _ _ _ _ q) rfl rfl ⟨by show _ ≤ (rmM _ _ _ _).frames; simp only [rmM]; omega, by show _ ≤ (rmM _ _ _ _).locals; simp only [rmM]; omega⟩ (Nat.le_of_ble_eq_true rfl) ⟨Nat.le_of_ble_eq_true rfl, Nat.le_of_ble_eq_true rfl⟩ dX10_parts_20 (fun v9 h10 H locs P hF => ?_)
            replace hF := un_i hF
            refine lv_istore_n (pc := 23) hx hb dX10_parts_23 rfl hl (by decide) rfl (fun ls hl => ?_)
            replace hl : lv_has ls 5 [(3, .int v9), (0, .ref (B + a0)), (1, .int vp1), (2, .int v6)] := hl
            refine lv_iload_n (pc := 24) hx hb dX10_parts_24 rfl (lv_at hl 3 rfl) ?_
            refine lv_iload_n (pc := 25) hx hb dX10_parts_25 rfl (lv_at hl 0 rfl) ?_
            refine lv_isub (pc := 26) hx hb dX10_parts_26 ?_
            refine lv_topi (fun v11 ev11 => ?_)
            replace hF := bl_e hF ev11
            refine lv_istore_n (pc := 27) hx hb dX10_parts_27 rfl hl (by decide) rfl (fun ls hl => ?_)
            replace hl : lv_has ls 5 [(2, .int v11), (3, .int v9), (0, .ref (B + a0)), (1, .int vp1)] := hl
            refine lv_goto (pc := 28) (tgt := 9) hx hb dX10_parts_28 (by decide) ?_
            exact ih _ _ _ _ _ _ P (lv_sub hl [2, 3, 0, 1] rfl) (hI3 _ (Option.some.inj hF).symm)
    exact hL3 _ _ _ _ _ _ _ P (lv_sub hl [2, 3, 1, 0] rfl) hLp3
def F_X10_laysUnits_L2 (a2 : Nat) (v3 : Int32) (h4 : Hp) : Option ((Int32 × Hp) ⊕ (Hp)) :=
if 28 ≤ v3 then (
some (.inr h4)) else (
(gR h4 a2 10 17).bind fun a5 =>
(sI h4 a5 v3 0).bind fun h6 =>
(gR h6 a2 10 18).bind fun a7 =>
(sI h6 a7 v3 0).bind fun h8 =>
bl (v3 + 1) fun v9 =>
some (.inl (v9, h8)))
def F_X10_laysUnits_L41 (a16 : Nat) (v17 : Int32) (h18 : Hp) : Option ((Int32 × Hp) ⊕ (Hp)) :=
if 12 ≤ v17 then (
some (.inr h18)) else (
(cO h18 a16 10 (F_X10_lays h18 a16 v17 24 0)).bind fun h19 =>
bl (v17 + 1) fun v20 =>
some (.inl (v20, h19)))
def F_X10_laysUnits (h : Hp) (a0 : Nat) : Option (Hp) :=
(loopF (fun x => F_X10_laysUnits_L2 a0 x.1 x.2) 6000 (0, h)).bind fun h10 =>
(gR h10 a0 10 1).bind fun a11 =>
(aI h10 a11 2).bind fun v12 =>
(rmI v12 5).bind fun v13 =>
(if v13 = 0 then (
(loopF (fun x => F_X10_laysUnits_L41 a0 x.1 x.2) 6000 (0, h10)).bind fun h21 =>
some h21) else (
some h10)).bind fun h22 =>
(gR h22 a0 10 18).bind fun a23 =>
(gR h22 a0 10 1).bind fun a24 =>
(aI h22 a24 6).bind fun v25 =>
(cO h22 a0 10 (F_X10_laysAsks 13 h22 a0 0)).bind (un fun v26 h27 =>
(F_X10_lesser h27 v25 v26).bind fun v28 =>
(sI h27 a23 0 v28).bind fun h29 =>
(cO h29 a0 10 (F_X10_parts 13 h29 a0 0)).bind fun h30 =>
some h30)
set_option maxRecDepth 100000 in
set_option maxHeartbeats 4000000 in
theorem c_X10_laysUnits (l : Launch) (G : GG) (B : Nat) (h : Hp) (a0 : Nat) (hr : Hp) (hF : F_X10_laysUnits h a0 = some hr) : CV l yX10_laysUnits cX10_laysUnits 2 18 899 0 0 G B h [.ref (B + a0)] hr := by
  refine ent_v rfl (Nat.le_of_ble_eq_true rfl) ?_
  intro p e s m args below meth c ls Q CX hnm hret P hl
  have CX : Cxt p m c cX10_laysUnits 2 s args RX10 G B := CX
  obtain ⟨⟨hx, hb, hml, hown, hts⟩, -, -⟩ := id CX
  replace hl : lv_has ls 2 [(0, .ref (B + a0))] := hl
  generalize s.heap = H at P ⊢
  generalize ([] : List Loc) = locs at P ⊢
  unfold F_X10_laysUnits at hF
  refine lv_iconst (pc := 0) (v := 0) hx hb dX10_laysUnits_0 (by decide) ?_
  refine lv_istore_n (pc := 1) hx hb dX10_laysUnits_1 rfl hl (by decide) rfl (fun ls hl => ?_)
  replace hl : lv_has ls 2 [(1, .int 0), (0, .ref (B + a0))] := hl
  obtain ⟨r1, hLp1, hK1⟩ := bd_some hF
  have hX1 : ∀ (h10 : Hp) (H : Heap) (locs : List Loc) (ls : Array Slot), Pic G B h10 s H locs → lv_has ls 2 [(0, .ref (B + a0))] → h10 = r1 → W p l e (rmM 18 899 0 0) s m args below meth c H locs 0 0 Q (F0 m 28 ls []) := by
    intro h10 H locs ls P hl er
    subst er
    have hF := hK1
    refine lv_aload_n (pc := 28) hx hb dX10_laysUnits_28 rfl (lv_at hl 0 rfl) ?_
    refine r_gR (pc := 29) CX P hF fl_X10_13 dX10_laysUnits_29 (fun a11 hF => ?_)
    refine lv_iconst (pc := 32) (v := 2) hx hb dX10_laysUnits_32 (by decide) ?_
    refine r_aI (pc := 33) CX P hF dX10_laysUnits_33 (fun v12 hF => ?_)
    refine lv_iconst (pc := 34) (v := 5) hx hb dX10_laysUnits_34 (by decide) ?_
    refine r_rm (pc := 35) hx hb hF dX10_laysUnits_35 (fun v13 hF => ?_)
    obtain ⟨j14, hA14, hK14⟩ := bd_some hF
    have hJ14 : ∀ (h22 : Hp) (H : Heap) (locs : List Loc) (ls : Array Slot), Pic G B h22 s H locs → lv_has ls 2 [(0, .ref (B + a0))] → h22 = j14 → W p l e (rmM 18 899 0 0) s m args below meth c H locs 0 0 Q (F0 m 61 ls []) := by
      intro h22 H locs ls P hl ej
      subst ej
      have hF := hK14
      refine lv_aload_n (pc := 61) hx hb dX10_laysUnits_61 rfl (lv_at hl 0 rfl) ?_
      refine r_gR (pc := 62) CX P hF fl_X10_63 dX10_laysUnits_62 (fun a23 hF => ?_)
      refine lv_iconst (pc := 65) (v := 0) hx hb dX10_laysUnits_65 (by decide) ?_
      refine lv_aload_n (pc := 66) hx hb dX10_laysUnits_66 rfl (lv_at hl 0 rfl) ?_
      refine r_gR (pc := 67) CX P hF fl_X10_13 dX10_laysUnits_67 (fun a24 hF => ?_)
      refine lv_bipush (pc := 70) (v := 6) hx hb dX10_laysUnits_70 (by decide) ?_
      refine r_aI (pc := 72) CX P hF dX10_laysUnits_72 (fun v25 hF => ?_)
      refine lv_aload_n (pc := 73) hx hb dX10_laysUnits_73 rfl (lv_at hl 0 rfl) ?_
      refine lv_iconst (pc := 74) (v := 0) hx hb dX10_laysUnits_74 (by decide) ?_
      refine r_cVi (pc := 75) (As := [.int 0]) (rest := [.int v25, .int 0, .ref (B + a23)]) CX P hl.1 hF kv_X10_261 (fun r h1 q => c_X10_laysAsks 13 l G B _ _ _ _ _ q) rfl rfl ⟨Nat.le_of_ble_eq_true rfl, Nat.le_of_ble_eq_true rfl⟩ (Nat.le_of_ble_eq_true rfl) ⟨Nat.le_of_ble_eq_true rfl, Nat.le_of_ble_eq_true rfl⟩ dX10_laysUnits_75 (fun v26 h27 H locs P hF => ?_)
      replace hF := un_i hF
      refine r_cSp (pc := 78) (As := [.int v25, .int v26]) (rest := [.int 0, .ref (B + a23)]) CX P hl.1 hF ks_X10_137 (fun r q => c_X10_lesser l G B _ _ _ _ q) rfl rfl ⟨Nat.le_of_ble_eq_true rfl, Nat.le_of_ble_eq_true rfl⟩ (Nat.le_of_ble_eq_true rfl) ⟨Nat.le_of_ble_eq_true rfl, Nat.le_of_ble_eq_true rfl⟩ dX10_laysUnits_78 (fun v28 H locs P hF => ?_)
      refine r_sI (pc := 81) CX P hF dX10_laysUnits_81 (fun h29 H locs P hF => ?_)
      refine lv_aload_n (pc := 82) hx hb dX10_laysUnits_82 rfl (lv_at hl 0 rfl) ?_
      refine lv_iconst (pc := 83) (v := 0) hx hb dX10_laysUnits_83 (by decide) ?_
      refine r_cVv (pc := 84) (As := [.int 0]) (rest := []) CX P hl.1 hF kv_X10_273 (fun h1 q => c_X10_parts 13 l G B _ _ _ _ q) rfl rfl ⟨Nat.le_of_ble_eq_true rfl, Nat.le_of_ble_eq_true rfl⟩ (Nat.le_of_ble_eq_true rfl) ⟨Nat.le_of_ble_eq_true rfl, Nat.le_of_ble_eq_true rfl⟩ dX10_laysUnits_84 (fun h30 H locs P hF => ?_)
      cases hF
      exact hret _ _ _ _ P dX10_laysUnits_87
    replace hF := hA14
    refine lv_if_ne (pc := 36) (tgt := 61) hx hb dX10_laysUnits_36 (by decide) (fun hc => ?_) (fun hc => ?_)
    · rw [if_neg hc] at hF
      exact hJ14 _ _ _ _ P (lv_sub hl [0] rfl) (Option.some.inj hF)
    · rw [if_pos hc] at hF
      refine lv_iconst (pc := 39) (v := 0) hx hb dX10_laysUnits_39 (by decide) ?_
      refine lv_istore_n (pc := 40) hx hb dX10_laysUnits_40 rfl hl (by decide) rfl (fun ls hl => ?_)
      replace hl : lv_has ls 2 [(1, .int 0), (0, .ref (B + a0))] := hl
      obtain ⟨r15, hLp15, hK15⟩ := bd_some hF
      have hX15 : ∀ (h21 : Hp) (H : Heap) (locs : List Loc) (ls : Array Slot), Pic G B h21 s H locs → lv_has ls 2 [(0, .ref (B + a0))] → h21 = r15 → W p l e (rmM 18 899 0 0) s m args below meth c H locs 0 0 Q (F0 m 61 ls []) := by
        intro h21 H locs ls P hl er
        subst er
        have hF := hK15
        exact hJ14 _ _ _ _ P (lv_sub hl [0] rfl) (Option.some.inj hF)
      have hL15 : ∀ (n : Nat) (v17 : Int32) (h18 : Hp) (H : Heap) (locs : List Loc) (ls : Array Slot), Pic G B h18 s H locs → lv_has ls 2 [(0, .ref (B + a0)), (1, .int v17)] → loopF (fun x => F_X10_laysUnits_L41 a0 x.1 x.2) n (v17, h18) = some r15 → W p l e (rmM 18 899 0 0) s m args below meth c H locs 0 0 Q (F0 m 41 ls []) := by
        intro n
        induction n with
        | zero => intro v17 h18 H locs ls P hl hq; cases hq
        | succ n ih =>
          intro v17 h18 H locs ls P hl hq
          obtain ⟨z15, hS15, hI15, hR15⟩ := loop_some hq
          have hF : F_X10_laysUnits_L41 a0 v17 h18 = some z15 := hS15
          unfold F_X10_laysUnits_L41 at hF
          refine lv_iload_n (pc := 41) hx hb dX10_laysUnits_41 rfl (lv_at hl 1 rfl) ?_
          refine lv_bipush (pc := 42) (v := 12) hx hb dX10_laysUnits_42 (by decide) ?_
          refine lv_icmp_ge (pc := 44) (tgt := 61) hx hb dX10_laysUnits_44 (by decide) (fun hc => ?_) (fun hc => ?_)
          · rw [if_pos hc] at hF
            exact hX15 _ _ _ _ P (lv_sub hl [0] rfl) (hR15 _ (Option.some.inj hF).symm)
          · rw [if_neg hc] at hF
            refine lv_aload_n (pc := 47) hx hb dX10_laysUnits_47 rfl (lv_at hl 0 rfl) ?_
            refine lv_iload_n (pc := 48) hx hb dX10_laysUnits_48 rfl (lv_at hl 1 rfl) ?_
            refine lv_bipush (pc := 49) (v := 24) hx hb dX10_laysUnits_49 (by decide) ?_
            refine lv_iconst (pc := 51) (v := 0) hx hb dX10_laysUnits_51 (by decide) ?_
            refine r_cVv (pc := 52) (As := [.int v17, .int 24, .int 0]) (rest := []) CX P hl.1 hF kv_X10_95 (fun h1 q => c_X10_lays l G B _ _ _ _ _ _ q) rfl rfl ⟨Nat.le_of_ble_eq_true rfl, Nat.le_of_ble_eq_true rfl⟩ (Nat.le_of_ble_eq_true rfl) ⟨Nat.le_of_ble_eq_true rfl, Nat.le_of_ble_eq_true rfl⟩ dX10_laysUnits_52 (fun h19 H locs P hF => ?_)
            obtain ⟨v20, ev20, hF⟩ := bl_o hF
            refine lv_iinc (pc := 55) (k := 1) (v := v20) hx hb dX10_laysUnits_55 hl rfl ev20 (by decide) rfl (fun ls hl => ?_)
            replace hl : lv_has ls 2 [(1, .int v20), (0, .ref (B + a0))] := hl
            refine lv_goto (pc := 58) (tgt := 41) hx hb dX10_laysUnits_58 (by decide) ?_
            exact ih _ _ _ _ _ P (lv_sub hl [1, 0] rfl) (hI15 _ (Option.some.inj hF).symm)
      exact hL15 _ _ _ _ _ _ P (lv_sub hl [1, 0] rfl) hLp15
  have hL1 : ∀ (n : Nat) (v3 : Int32) (h4 : Hp) (H : Heap) (locs : List Loc) (ls : Array Slot), Pic G B h4 s H locs → lv_has ls 2 [(0, .ref (B + a0)), (1, .int v3)] → loopF (fun x => F_X10_laysUnits_L2 a0 x.1 x.2) n (v3, h4) = some r1 → W p l e (rmM 18 899 0 0) s m args below meth c H locs 0 0 Q (F0 m 2 ls []) := by
    intro n
    induction n with
    | zero => intro v3 h4 H locs ls P hl hq; cases hq
    | succ n ih =>
      intro v3 h4 H locs ls P hl hq
      obtain ⟨z1, hS1, hI1, hR1⟩ := loop_some hq
      have hF : F_X10_laysUnits_L2 a0 v3 h4 = some z1 := hS1
      unfold F_X10_laysUnits_L2 at hF
      refine lv_iload_n (pc := 2) hx hb dX10_laysUnits_2 rfl (lv_at hl 1 rfl) ?_
      refine lv_bipush (pc := 3) (v := 28) hx hb dX10_laysUnits_3 (by decide) ?_
      refine lv_icmp_ge (pc := 5) (tgt := 28) hx hb dX10_laysUnits_5 (by decide) (fun hc => ?_) (fun hc => ?_)
      · rw [if_pos hc] at hF
        exact hX1 _ _ _ _ P (lv_sub hl [0] rfl) (hR1 _ (Option.some.inj hF).symm)
      · rw [if_neg hc] at hF
        refine lv_aload_n (pc := 8) hx hb dX10_laysUnits_8 rfl (lv_at hl 0 rfl) ?_
        refine r_gR (pc := 9) CX P hF fl_X10_60 dX10_laysUnits_9 (fun a5 hF => ?_)
        refine lv_iload_n (pc := 12) hx hb dX10_laysUnits_12 rfl (lv_at hl 1 rfl) ?_
        refine lv_iconst (pc := 13) (v := 0) hx hb dX10_laysUnits_13 (by decide) ?_
        refine r_sI (pc := 14) CX P hF dX10_laysUnits_14 (fun h6 H locs P hF => ?_)
        refine lv_aload_n (pc := 15) hx hb dX10_laysUnits_15 rfl (lv_at hl 0 rfl) ?_
        refine r_gR (pc := 16) CX P hF fl_X10_63 dX10_laysUnits_16 (fun a7 hF => ?_)
        refine lv_iload_n (pc := 19) hx hb dX10_laysUnits_19 rfl (lv_at hl 1 rfl) ?_
        refine lv_iconst (pc := 20) (v := 0) hx hb dX10_laysUnits_20 (by decide) ?_
        refine r_sI (pc := 21) CX P hF dX10_laysUnits_21 (fun h8 H locs P hF => ?_)
        obtain ⟨v9, ev9, hF⟩ := bl_o hF
        refine lv_iinc (pc := 22) (k := 1) (v := v9) hx hb dX10_laysUnits_22 hl rfl ev9 (by decide) rfl (fun ls hl => ?_)
        replace hl : lv_has ls 2 [(1, .int v9), (0, .ref (B + a0))] := hl
        refine lv_goto (pc := 25) (tgt := 2) hx hb dX10_laysUnits_25 (by decide) ?_
        exact ih _ _ _ _ _ P (lv_sub hl [1, 0] rfl) (hI1 _ (Option.some.inj hF).symm)
  exact hL1 _ _ _ _ _ _ P (lv_sub hl [1, 0] rfl) hLp1
def F_X10_works_L6 (a3 : Nat) (v4 : Int32) (h5 : Hp) : Option ((Int32 × Hp) ⊕ (Hp)) :=
if 12 ≤ v4 then (
some (.inr h5)) else (
(cO h5 a3 10 (F_X10_isGroup h5 a3 v4)).bind fun v6 =>
if v6 = 0 then (
bl (v4 + 1) fun v7 =>
some (.inl (v7, h5))) else (
(gR h5 a3 10 18).bind fun a8 =>
(aI h5 a8 v4).bind fun v9 =>
(cO h5 a3 10 (F_X10_of h5 a3 v4 24 v9)).bind (un fun v10 h11 =>
bl (v4 + 1) fun v12 =>
some (.inl (v12, h11)))))
def F_X10_works_L42 (a15 : Nat) (v16 : Int32) (h17 : Hp) : Option ((Int32 × Hp) ⊕ (Hp)) :=
if 16 ≤ v16 then (
some (.inr h17)) else (
(cO h17 a15 10 (F_X10_isProcess h17 a15 v16)).bind fun v18 =>
if v18 = 0 then (
bl (v16 + 1) fun v28 =>
some (.inl (v28, h17))) else (
(gR h17 a15 10 18).bind fun a19 =>
(aI h17 a19 (12 + v16)).bind fun v20 =>
(cO h17 a15 10 (F_X10_ofProcess h17 a15 v16 6 (-v20))).bind (un fun v21 h22 =>
(gR h22 a15 10 18).bind fun a23 =>
(aI h22 a23 (12 + v16)).bind fun v24 =>
(cO h22 a15 10 (F_X10_ofProcess h22 a15 v16 7 v24)).bind (un fun v25 h26 =>
bl (v16 + 1) fun v27 =>
some (.inl (v27, h26))))))
def F_X10_works (h : Hp) (a0 : Nat) : Option (Hp) :=
(cO h a0 10 (F_X10_laysUnits h a0)).bind fun h1 =>
(loopF (fun x => F_X10_works_L6 a0 x.1 x.2) 6000 (0, h1)).bind fun h13 =>
(loopF (fun x => F_X10_works_L42 a0 x.1 x.2) 6000 (0, h13)).bind fun h29 =>
some h29
set_option maxRecDepth 100000 in
set_option maxHeartbeats 4000000 in
theorem c_X10_works (l : Launch) (G : GG) (B : Nat) (h : Hp) (a0 : Nat) (hr : Hp) (hF : F_X10_works h a0 = some hr) : CV l yX10_works cX10_works 2 19 920 0 0 G B h [.ref (B + a0)] hr := by
  refine ent_v rfl (Nat.le_of_ble_eq_true rfl) ?_
  intro p e s m args below meth c ls Q CX hnm hret P hl
  have CX : Cxt p m c cX10_works 2 s args RX10 G B := CX
  obtain ⟨⟨hx, hb, hml, hown, hts⟩, -, -⟩ := id CX
  replace hl : lv_has ls 2 [(0, .ref (B + a0))] := hl
  generalize s.heap = H at P ⊢
  generalize ([] : List Loc) = locs at P ⊢
  unfold F_X10_works at hF
  refine lv_aload_n (pc := 0) hx hb dX10_works_0 rfl (lv_at hl 0 rfl) ?_
  refine r_cVv (pc := 1) (As := []) (rest := []) CX P hl.1 hF kv_X10_276 (fun h1 q => c_X10_laysUnits l G B _ _ _ q) rfl rfl ⟨Nat.le_of_ble_eq_true rfl, Nat.le_of_ble_eq_true rfl⟩ (Nat.le_of_ble_eq_true rfl) ⟨Nat.le_of_ble_eq_true rfl, Nat.le_of_ble_eq_true rfl⟩ dX10_works_1 (fun h1 H locs P hF => ?_)
  refine lv_iconst (pc := 4) (v := 0) hx hb dX10_works_4 (by decide) ?_
  refine lv_istore_n (pc := 5) hx hb dX10_works_5 rfl hl (by decide) rfl (fun ls hl => ?_)
  replace hl : lv_has ls 2 [(1, .int 0), (0, .ref (B + a0))] := hl
  obtain ⟨r2, hLp2, hK2⟩ := bd_some hF
  have hX2 : ∀ (h13 : Hp) (H : Heap) (locs : List Loc) (ls : Array Slot), Pic G B h13 s H locs → lv_has ls 2 [(0, .ref (B + a0))] → h13 = r2 → W p l e (rmM 19 920 0 0) s m args below meth c H locs 0 0 Q (F0 m 40 ls []) := by
    intro h13 H locs ls P hl er
    subst er
    have hF := hK2
    refine lv_iconst (pc := 40) (v := 0) hx hb dX10_works_40 (by decide) ?_
    refine lv_istore_n (pc := 41) hx hb dX10_works_41 rfl hl (by decide) rfl (fun ls hl => ?_)
    replace hl : lv_has ls 2 [(1, .int 0), (0, .ref (B + a0))] := hl
    obtain ⟨r14, hLp14, hK14⟩ := bd_some hF
    have hX14 : ∀ (h29 : Hp) (H : Heap) (locs : List Loc) (ls : Array Slot), Pic G B h29 s H locs → lv_has ls 2 [] → h29 = r14 → W p l e (rmM 19 920 0 0) s m args below meth c H locs 0 0 Q (F0 m 100 ls []) := by
      intro h29 H locs ls P hl er
      subst er
      have hF := hK14
      cases hF
      exact hret _ _ _ _ P dX10_works_100
    have hL14 : ∀ (n : Nat) (v16 : Int32) (h17 : Hp) (H : Heap) (locs : List Loc) (ls : Array Slot), Pic G B h17 s H locs → lv_has ls 2 [(0, .ref (B + a0)), (1, .int v16)] → loopF (fun x => F_X10_works_L42 a0 x.1 x.2) n (v16, h17) = some r14 → W p l e (rmM 19 920 0 0) s m args below meth c H locs 0 0 Q (F0 m 42 ls []) := by
      intro n
      induction n with
      | zero => intro v16 h17 H locs ls P hl hq; cases hq
      | succ n ih =>
        intro v16 h17 H locs ls P hl hq
        obtain ⟨z14, hS14, hI14, hR14⟩ := loop_some hq
        have hF : F_X10_works_L42 a0 v16 h17 = some z14 := hS14
        unfold F_X10_works_L42 at hF
        refine lv_iload_n (pc := 42) hx hb dX10_works_42 rfl (lv_at hl 1 rfl) ?_
        refine lv_bipush (pc := 43) (v := 16) hx hb dX10_works_43 (by decide) ?_
        refine lv_icmp_ge (pc := 45) (tgt := 100) hx hb dX10_works_45 (by decide) (fun hc => ?_) (fun hc => ?_)
        · rw [if_pos hc] at hF
          exact hX14 _ _ _ _ P (lv_sub hl [] rfl) (hR14 _ (Option.some.inj hF).symm)
        · rw [if_neg hc] at hF
          refine lv_aload_n (pc := 48) hx hb dX10_works_48 rfl (lv_at hl 0 rfl) ?_
          refine lv_iload_n (pc := 49) hx hb dX10_works_49 rfl (lv_at hl 1 rfl) ?_
          refine r_cVp (pc := 50) (As := [.int v16]) (rest := []) CX P hl.1 hF kv_X10_117 (fun r q => c_X10_isProcess l G B _ _ _ _ q) rfl rfl ⟨Nat.le_of_ble_eq_true rfl, Nat.le_of_ble_eq_true rfl⟩ (Nat.le_of_ble_eq_true rfl) ⟨Nat.le_of_ble_eq_true rfl, Nat.le_of_ble_eq_true rfl⟩ dX10_works_50 (fun v18 H locs P hF => ?_)
          refine lv_if_ne (pc := 53) (tgt := 59) hx hb dX10_works_53 (by decide) (fun hc => ?_) (fun hc => ?_)
          · rw [if_neg hc] at hF
            refine lv_aload_n (pc := 59) hx hb dX10_works_59 rfl (lv_at hl 0 rfl) ?_
            refine lv_iload_n (pc := 60) hx hb dX10_works_60 rfl (lv_at hl 1 rfl) ?_
            refine lv_bipush (pc := 61) (v := 6) hx hb dX10_works_61 (by decide) ?_
            refine lv_aload_n (pc := 63) hx hb dX10_works_63 rfl (lv_at hl 0 rfl) ?_
            refine r_gR (pc := 64) CX P hF fl_X10_63 dX10_works_64 (fun a19 hF => ?_)
            refine lv_bipush (pc := 67) (v := 12) hx hb dX10_works_67 (by decide) ?_
            refine lv_iload_n (pc := 69) hx hb dX10_works_69 rfl (lv_at hl 1 rfl) ?_
            refine lv_iadd (pc := 70) hx hb dX10_works_70 ?_
            refine r_aI (pc := 71) CX P hF dX10_works_71 (fun v20 hF => ?_)
            refine lv_ineg (pc := 72) hx hb dX10_works_72 ?_
            refine r_cVi (pc := 73) (As := [.int v16, .int 6, .int (-v20)]) (rest := []) CX P hl.1 hF kv_X10_114 (fun r h1 q => c_X10_ofProcess l G B _ _ _ _ _ _ _ q) rfl rfl ⟨Nat.le_of_ble_eq_true rfl, Nat.le_of_ble_eq_true rfl⟩ (Nat.le_of_ble_eq_true rfl) ⟨Nat.le_of_ble_eq_true rfl, Nat.le_of_ble_eq_true rfl⟩ dX10_works_73 (fun v21 h22 H locs P hF => ?_)
            replace hF := un_i hF
            refine lv_pop (pc := 76) hx hb dX10_works_76 rfl ?_
            refine lv_aload_n (pc := 77) hx hb dX10_works_77 rfl (lv_at hl 0 rfl) ?_
            refine lv_iload_n (pc := 78) hx hb dX10_works_78 rfl (lv_at hl 1 rfl) ?_
            refine lv_bipush (pc := 79) (v := 7) hx hb dX10_works_79 (by decide) ?_
            refine lv_aload_n (pc := 81) hx hb dX10_works_81 rfl (lv_at hl 0 rfl) ?_
            refine r_gR (pc := 82) CX P hF fl_X10_63 dX10_works_82 (fun a23 hF => ?_)
            refine lv_bipush (pc := 85) (v := 12) hx hb dX10_works_85 (by decide) ?_
            refine lv_iload_n (pc := 87) hx hb dX10_works_87 rfl (lv_at hl 1 rfl) ?_
            refine lv_iadd (pc := 88) hx hb dX10_works_88 ?_
            refine r_aI (pc := 89) CX P hF dX10_works_89 (fun v24 hF => ?_)
            refine r_cVi (pc := 90) (As := [.int v16, .int 7, .int v24]) (rest := []) CX P hl.1 hF kv_X10_114 (fun r h1 q => c_X10_ofProcess l G B _ _ _ _ _ _ _ q) rfl rfl ⟨Nat.le_of_ble_eq_true rfl, Nat.le_of_ble_eq_true rfl⟩ (Nat.le_of_ble_eq_true rfl) ⟨Nat.le_of_ble_eq_true rfl, Nat.le_of_ble_eq_true rfl⟩ dX10_works_90 (fun v25 h26 H locs P hF => ?_)
            replace hF := un_i hF
            refine lv_pop (pc := 93) hx hb dX10_works_93 rfl ?_
            obtain ⟨v27, ev27, hF⟩ := bl_o hF
            refine lv_iinc (pc := 94) (k := 1) (v := v27) hx hb dX10_works_94 hl rfl ev27 (by decide) rfl (fun ls hl => ?_)
            replace hl : lv_has ls 2 [(1, .int v27), (0, .ref (B + a0))] := hl
            refine lv_goto (pc := 97) (tgt := 42) hx hb dX10_works_97 (by decide) ?_
            exact ih _ _ _ _ _ P (lv_sub hl [1, 0] rfl) (hI14 _ (Option.some.inj hF).symm)
          · rw [if_pos hc] at hF
            refine lv_goto (pc := 56) (tgt := 94) hx hb dX10_works_56 (by decide) ?_
            obtain ⟨v28, ev28, hF⟩ := bl_o hF
            refine lv_iinc (pc := 94) (k := 1) (v := v28) hx hb dX10_works_94 hl rfl ev28 (by decide) rfl (fun ls hl => ?_)
            replace hl : lv_has ls 2 [(1, .int v28), (0, .ref (B + a0))] := hl
            refine lv_goto (pc := 97) (tgt := 42) hx hb dX10_works_97 (by decide) ?_
            exact ih _ _ _ _ _ P (lv_sub hl [1, 0] rfl) (hI14 _ (Option.some.inj hF).symm)
    exact hL14 _ _ _ _ _ _ P (lv_sub hl [1, 0] rfl) hLp14
  have hL2 : ∀ (n : Nat) (v4 : Int32) (h5 : Hp) (H : Heap) (locs : List Loc) (ls : Array Slot), Pic G B h5 s H locs → lv_has ls 2 [(0, .ref (B + a0)), (1, .int v4)] → loopF (fun x => F_X10_works_L6 a0 x.1 x.2) n (v4, h5) = some r2 → W p l e (rmM 19 920 0 0) s m args below meth c H locs 0 0 Q (F0 m 6 ls []) := by
    intro n
    induction n with
    | zero => intro v4 h5 H locs ls P hl hq; cases hq
    | succ n ih =>
      intro v4 h5 H locs ls P hl hq
      obtain ⟨z2, hS2, hI2, hR2⟩ := loop_some hq
      have hF : F_X10_works_L6 a0 v4 h5 = some z2 := hS2
      unfold F_X10_works_L6 at hF
      refine lv_iload_n (pc := 6) hx hb dX10_works_6 rfl (lv_at hl 1 rfl) ?_
      refine lv_bipush (pc := 7) (v := 12) hx hb dX10_works_7 (by decide) ?_
      refine lv_icmp_ge (pc := 9) (tgt := 40) hx hb dX10_works_9 (by decide) (fun hc => ?_) (fun hc => ?_)
      · rw [if_pos hc] at hF
        exact hX2 _ _ _ _ P (lv_sub hl [0] rfl) (hR2 _ (Option.some.inj hF).symm)
      · rw [if_neg hc] at hF
        refine lv_aload_n (pc := 12) hx hb dX10_works_12 rfl (lv_at hl 0 rfl) ?_
        refine lv_iload_n (pc := 13) hx hb dX10_works_13 rfl (lv_at hl 1 rfl) ?_
        refine r_cVp (pc := 14) (As := [.int v4]) (rest := []) CX P hl.1 hF kv_X10_107 (fun r q => c_X10_isGroup l G B _ _ _ _ q) rfl rfl ⟨Nat.le_of_ble_eq_true rfl, Nat.le_of_ble_eq_true rfl⟩ (Nat.le_of_ble_eq_true rfl) ⟨Nat.le_of_ble_eq_true rfl, Nat.le_of_ble_eq_true rfl⟩ dX10_works_14 (fun v6 H locs P hF => ?_)
        refine lv_if_eq (pc := 17) (tgt := 34) hx hb dX10_works_17 (by decide) (fun hc => ?_) (fun hc => ?_)
        · rw [if_pos hc] at hF
          obtain ⟨v7, ev7, hF⟩ := bl_o hF
          refine lv_iinc (pc := 34) (k := 1) (v := v7) hx hb dX10_works_34 hl rfl ev7 (by decide) rfl (fun ls hl => ?_)
          replace hl : lv_has ls 2 [(1, .int v7), (0, .ref (B + a0))] := hl
          refine lv_goto (pc := 37) (tgt := 6) hx hb dX10_works_37 (by decide) ?_
          exact ih _ _ _ _ _ P (lv_sub hl [1, 0] rfl) (hI2 _ (Option.some.inj hF).symm)
        · rw [if_neg hc] at hF
          refine lv_aload_n (pc := 20) hx hb dX10_works_20 rfl (lv_at hl 0 rfl) ?_
          refine lv_iload_n (pc := 21) hx hb dX10_works_21 rfl (lv_at hl 1 rfl) ?_
          refine lv_bipush (pc := 22) (v := 24) hx hb dX10_works_22 (by decide) ?_
          refine lv_aload_n (pc := 24) hx hb dX10_works_24 rfl (lv_at hl 0 rfl) ?_
          refine r_gR (pc := 25) CX P hF fl_X10_63 dX10_works_25 (fun a8 hF => ?_)
          refine lv_iload_n (pc := 28) hx hb dX10_works_28 rfl (lv_at hl 1 rfl) ?_
          refine r_aI (pc := 29) CX P hF dX10_works_29 (fun v9 hF => ?_)
          refine r_cVi (pc := 30) (As := [.int v4, .int 24, .int v9]) (rest := []) CX P hl.1 hF kv_X10_99 (fun r h1 q => c_X10_of l G B _ _ _ _ _ _ _ q) rfl rfl ⟨Nat.le_of_ble_eq_true rfl, Nat.le_of_ble_eq_true rfl⟩ (Nat.le_of_ble_eq_true rfl) ⟨Nat.le_of_ble_eq_true rfl, Nat.le_of_ble_eq_true rfl⟩ dX10_works_30 (fun v10 h11 H locs P hF => ?_)
          replace hF := un_i hF
          refine lv_pop (pc := 33) hx hb dX10_works_33 rfl ?_
          obtain ⟨v12, ev12, hF⟩ := bl_o hF
          refine lv_iinc (pc := 34) (k := 1) (v := v12) hx hb dX10_works_34 hl rfl ev12 (by decide) rfl (fun ls hl => ?_)
          replace hl : lv_has ls 2 [(1, .int v12), (0, .ref (B + a0))] := hl
          refine lv_goto (pc := 37) (tgt := 6) hx hb dX10_works_37 (by decide) ?_
          exact ih _ _ _ _ _ P (lv_sub hl [1, 0] rfl) (hI2 _ (Option.some.inj hF).symm)
  exact hL2 _ _ _ _ _ _ P (lv_sub hl [1, 0] rfl) hLp2
def F_X10_latestOf (h : Hp) (a0 : Nat) (vp1 : Int32) (vp2 : Int32) : Option (Int64 × Hp) :=
(cO h a0 10 (F_X10_of h a0 vp1 ((18 + (2 * vp2)) + 1) 0)).bind (un fun v1 h2 =>
(cO h2 a0 10 (F_X10_of h2 a0 vp1 (18 + (2 * vp2)) 0)).bind (un fun v3 h4 =>
some ((((Int32.toInt64 v1) <<< (Int32.toInt64 20 &&& 63)) ||| (Int32.toInt64 v3)), h4)))
set_option maxRecDepth 100000 in
set_option maxHeartbeats 4000000 in
theorem c_X10_latestOf (l : Launch) (G : GG) (B : Nat) (h : Hp) (a0 : Nat) (vp1 : Int32) (vp2 : Int32) (r0 : Int64) (hr : Hp) (hF : F_X10_latestOf h a0 vp1 vp2 = some (r0, hr)) : CL l yX10_latestOf cX10_latestOf 3 .long 1 23 0 0 G B h [.ref (B + a0), .int vp1, .int vp2] r0 hr := by
  refine ent_l rfl (Nat.le_of_ble_eq_true rfl) ?_
  intro p e s m args below meth c ls Q CX hnm hret P hl
  have CX : Cxt p m c cX10_latestOf 3 s args RX10 G B := CX
  obtain ⟨⟨hx, hb, hml, hown, hts⟩, -, -⟩ := id CX
  replace hl : lv_has ls 3 [(0, .ref (B + a0)), (1, .int vp1), (2, .int vp2)] := hl
  generalize s.heap = H at P ⊢
  generalize ([] : List Loc) = locs at P ⊢
  unfold F_X10_latestOf at hF
  refine lv_aload_n (pc := 0) hx hb dX10_latestOf_0 rfl (lv_at hl 0 rfl) ?_
  refine lv_iload_n (pc := 1) hx hb dX10_latestOf_1 rfl (lv_at hl 1 rfl) ?_
  refine lv_bipush (pc := 2) (v := 18) hx hb dX10_latestOf_2 (by decide) ?_
  refine lv_iconst (pc := 4) (v := 2) hx hb dX10_latestOf_4 (by decide) ?_
  refine lv_iload_n (pc := 5) hx hb dX10_latestOf_5 rfl (lv_at hl 2 rfl) ?_
  refine lv_imul (pc := 6) hx hb dX10_latestOf_6 ?_
  refine lv_iadd (pc := 7) hx hb dX10_latestOf_7 ?_
  refine lv_iconst (pc := 8) (v := 1) hx hb dX10_latestOf_8 (by decide) ?_
  refine lv_iadd (pc := 9) hx hb dX10_latestOf_9 ?_
  refine lv_iconst (pc := 10) (v := 0) hx hb dX10_latestOf_10 (by decide) ?_
  refine r_cVi (pc := 11) (As := [.int vp1, .int ((18 + (2 * vp2)) + 1), .int 0]) (rest := []) CX P hl.1 hF kv_X10_99 (fun r h1 q => c_X10_of l G B _ _ _ _ _ _ _ q) rfl rfl ⟨Nat.le_of_ble_eq_true rfl, Nat.le_of_ble_eq_true rfl⟩ (Nat.le_of_ble_eq_true rfl) ⟨Nat.le_of_ble_eq_true rfl, Nat.le_of_ble_eq_true rfl⟩ dX10_latestOf_11 (fun v1 h2 H locs P hF => ?_)
  replace hF := un_i hF
  refine lv_i2l (pc := 14) hx hb dX10_latestOf_14 rfl ?_
  refine lv_bipush (pc := 15) (v := 20) hx hb dX10_latestOf_15 (by decide) ?_
  refine lv_lshl (pc := 17) hx hb dX10_latestOf_17 rfl ?_
  refine lv_aload_n (pc := 18) hx hb dX10_latestOf_18 rfl (lv_at hl 0 rfl) ?_
  refine lv_iload_n (pc := 19) hx hb dX10_latestOf_19 rfl (lv_at hl 1 rfl) ?_
  refine lv_bipush (pc := 20) (v := 18) hx hb dX10_latestOf_20 (by decide) ?_
  refine lv_iconst (pc := 22) (v := 2) hx hb dX10_latestOf_22 (by decide) ?_
  refine lv_iload_n (pc := 23) hx hb dX10_latestOf_23 rfl (lv_at hl 2 rfl) ?_
  refine lv_imul (pc := 24) hx hb dX10_latestOf_24 ?_
  refine lv_iadd (pc := 25) hx hb dX10_latestOf_25 ?_
  refine lv_iconst (pc := 26) (v := 0) hx hb dX10_latestOf_26 (by decide) ?_
  refine r_cVi (pc := 27) (As := [.int vp1, .int (18 + (2 * vp2)), .int 0]) (rest := [.long ((Int32.toInt64 v1) <<< (Int32.toInt64 20 &&& 63))]) CX P hl.1 hF kv_X10_99 (fun r h1 q => c_X10_of l G B _ _ _ _ _ _ _ q) rfl rfl ⟨Nat.le_of_ble_eq_true rfl, Nat.le_of_ble_eq_true rfl⟩ (Nat.le_of_ble_eq_true rfl) ⟨Nat.le_of_ble_eq_true rfl, Nat.le_of_ble_eq_true rfl⟩ dX10_latestOf_27 (fun v3 h4 H locs P hF => ?_)
  replace hF := un_i hF
  refine lv_i2l (pc := 30) hx hb dX10_latestOf_30 rfl ?_
  refine lv_lor (pc := 31) hx hb dX10_latestOf_31 ?_
  cases hF
  exact hret _ _ _ _ P dX10_latestOf_32
def F_X10_laysLatest (h : Hp) (a0 : Nat) (vp1 : Int32) (vp2 : Int32) (vp3 : Int64) : Option (Hp) :=
(cO h a0 10 (F_X10_lays h a0 vp1 (18 + (2 * vp2)) (Int64.toInt32 (vp3 &&& 1048575)))).bind fun h1 =>
(cO h1 a0 10 (F_X10_lays h1 a0 vp1 ((18 + (2 * vp2)) + 1) (Int64.toInt32 ((vp3 >>> (Int32.toInt64 20 &&& 63)) &&& 1048575)))).bind fun h2 =>
some h2
set_option maxRecDepth 100000 in
set_option maxHeartbeats 4000000 in
theorem c_X10_laysLatest (l : Launch) (G : GG) (B : Nat) (h : Hp) (a0 : Nat) (vp1 : Int32) (vp2 : Int32) (vp3 : Int64) (hr : Hp) (hF : F_X10_laysLatest h a0 vp1 vp2 vp3 = some hr) : CV l yX10_laysLatest cX10_laysLatest 5 1 23 0 0 G B h [.ref (B + a0), .int vp1, .int vp2, .long vp3] hr := by
  refine ent_v rfl (Nat.le_of_ble_eq_true rfl) ?_
  intro p e s m args below meth c ls Q CX hnm hret P hl
  have CX : Cxt p m c cX10_laysLatest 5 s args RX10 G B := CX
  obtain ⟨⟨hx, hb, hml, hown, hts⟩, -, -⟩ := id CX
  replace hl : lv_has ls 5 [(0, .ref (B + a0)), (1, .int vp1), (2, .int vp2), (3, .long vp3)] := hl
  generalize s.heap = H at P ⊢
  generalize ([] : List Loc) = locs at P ⊢
  unfold F_X10_laysLatest at hF
  refine lv_aload_n (pc := 0) hx hb dX10_laysLatest_0 rfl (lv_at hl 0 rfl) ?_
  refine lv_iload_n (pc := 1) hx hb dX10_laysLatest_1 rfl (lv_at hl 1 rfl) ?_
  refine lv_bipush (pc := 2) (v := 18) hx hb dX10_laysLatest_2 (by decide) ?_
  refine lv_iconst (pc := 4) (v := 2) hx hb dX10_laysLatest_4 (by decide) ?_
  refine lv_iload_n (pc := 5) hx hb dX10_laysLatest_5 rfl (lv_at hl 2 rfl) ?_
  refine lv_imul (pc := 6) hx hb dX10_laysLatest_6 ?_
  refine lv_iadd (pc := 7) hx hb dX10_laysLatest_7 ?_
  refine lv_lload_n (pc := 8) hx hb dX10_laysLatest_8 rfl (lv_at hl 3 rfl) ?_
  refine lv_ldc2 (pc := 9) (v := 1048575) hx hb hown (hts _ tw_1349) dX10_laysLatest_9 ?_
  refine lv_land (pc := 12) hx hb dX10_laysLatest_12 ?_
  refine lv_l2i (pc := 13) hx hb dX10_laysLatest_13 rfl ?_
  refine r_cVv (pc := 14) (As := [.int vp1, .int (18 + (2 * vp2)), .int (Int64.toInt32 (vp3 &&& 1048575))]) (rest := []) CX P hl.1 hF kv_X10_95 (fun h1 q => c_X10_lays l G B _ _ _ _ _ _ q) rfl rfl ⟨Nat.le_of_ble_eq_true rfl, Nat.le_of_ble_eq_true rfl⟩ (Nat.le_of_ble_eq_true rfl) ⟨Nat.le_of_ble_eq_true rfl, Nat.le_of_ble_eq_true rfl⟩ dX10_laysLatest_14 (fun h1 H locs P hF => ?_)
  refine lv_aload_n (pc := 17) hx hb dX10_laysLatest_17 rfl (lv_at hl 0 rfl) ?_
  refine lv_iload_n (pc := 18) hx hb dX10_laysLatest_18 rfl (lv_at hl 1 rfl) ?_
  refine lv_bipush (pc := 19) (v := 18) hx hb dX10_laysLatest_19 (by decide) ?_
  refine lv_iconst (pc := 21) (v := 2) hx hb dX10_laysLatest_21 (by decide) ?_
  refine lv_iload_n (pc := 22) hx hb dX10_laysLatest_22 rfl (lv_at hl 2 rfl) ?_
  refine lv_imul (pc := 23) hx hb dX10_laysLatest_23 ?_
  refine lv_iadd (pc := 24) hx hb dX10_laysLatest_24 ?_
  refine lv_iconst (pc := 25) (v := 1) hx hb dX10_laysLatest_25 (by decide) ?_
  refine lv_iadd (pc := 26) hx hb dX10_laysLatest_26 ?_
  refine lv_lload_n (pc := 27) hx hb dX10_laysLatest_27 rfl (lv_at hl 3 rfl) ?_
  refine lv_bipush (pc := 28) (v := 20) hx hb dX10_laysLatest_28 (by decide) ?_
  refine lv_lshr (pc := 30) hx hb dX10_laysLatest_30 rfl ?_
  refine lv_ldc2 (pc := 31) (v := 1048575) hx hb hown (hts _ tw_1349) dX10_laysLatest_31 ?_
  refine lv_land (pc := 34) hx hb dX10_laysLatest_34 ?_
  refine lv_l2i (pc := 35) hx hb dX10_laysLatest_35 rfl ?_
  refine r_cVv (pc := 36) (As := [.int vp1, .int ((18 + (2 * vp2)) + 1), .int (Int64.toInt32 ((vp3 >>> (Int32.toInt64 20 &&& 63)) &&& 1048575))]) (rest := []) CX P hl.1 hF kv_X10_95 (fun h1 q => c_X10_lays l G B _ _ _ _ _ _ q) rfl rfl ⟨Nat.le_of_ble_eq_true rfl, Nat.le_of_ble_eq_true rfl⟩ (Nat.le_of_ble_eq_true rfl) ⟨Nat.le_of_ble_eq_true rfl, Nat.le_of_ble_eq_true rfl⟩ dX10_laysLatest_36 (fun h2 H locs P hF => ?_)
  cases hF
  exact hret _ _ _ _ P dX10_laysLatest_39
