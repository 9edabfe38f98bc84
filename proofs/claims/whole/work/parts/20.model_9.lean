def F_X10_laysAsks_L4 (rf : Hp → Nat → Int32 → Option (Int32 × Hp)) (a2 : Nat) (v3 : Int32) (v4 : Int32) (v5 : Int32) (h6 : Hp) : Option ((Int32 × Int32 × Hp) ⊕ (Int32 × Hp)) :=
if 12 ≤ v5 then (
some (.inr (v4, h6))) else (
(cO h6 a2 10 (F_X10_isGroup h6 a2 v5)).bind fun v7 =>
if v7 = 0 then (
bl (v5 + 1) fun v8 =>
some (.inl (v4, v8, h6))) else (
(cO h6 a2 10 (F_X10_parentOf h6 a2 v5)).bind (un fun v9 h10 =>
if v9 = v3 then (
(cO h10 a2 10 (rf h10 a2 v5)).bind (un fun v12 h13 =>
bl (v4 + v12) fun v14 =>
bl (v5 + 1) fun v15 =>
some (.inl (v14, v15, h13)))) else (
bl (v5 + 1) fun v11 =>
some (.inl (v4, v11, h10))))))
def F_X10_laysAsks_L43 (rf : Hp → Nat → Int32 → Option (Int32 × Hp)) (a19 : Nat) (v20 : Int32) (v21 : Int32) (v22 : Int32) (h23 : Hp) : Option ((Int32 × Int32 × Hp) ⊕ (Int32 × Hp)) :=
if 16 ≤ v22 then (
some (.inr (v21, h23))) else (
(cO h23 a19 10 (F_X10_isProcess h23 a19 v22)).bind fun v24 =>
if v24 = 0 then (
bl (v22 + 1) fun v25 =>
some (.inl (v21, v25, h23))) else (
(cO h23 a19 10 (F_X10_groupOf h23 a19 v22)).bind (un fun v26 h27 =>
if v26 = v20 then (
(gR h27 a19 10 17).bind fun a28 =>
(cO h27 a19 10 (F_X10_ofProcess h27 a19 v22 4 0)).bind (un fun v29 h30 =>
(if v29 = 0 then (
(cO h30 a19 10 (F_X10_ofProcess h30 a19 v22 6 0)).bind (un fun v32 h33 =>
some (v32, h33))) else (
some (0, h30))).bind fun q31 =>
bl q31.1 fun v34 =>
bl q31.2 fun h35 =>
(sI h35 a28 (12 + v22) v34).bind fun h36 =>
(gR h36 a19 10 17).bind fun a37 =>
(aI h36 a37 (12 + v22)).bind fun v38 =>
bl (v21 + v38) fun v39 =>
bl (v22 + 1) fun v40 =>
some (.inl (v39, v40, h36)))) else (
bl (v22 + 1) fun v41 =>
some (.inl (v21, v41, h27))))))
def F_X10_laysAsks : Nat → Hp → Nat → Int32 → Option (Int32 × Hp)
  | 0, _, _, _ => none
  | d + 1, h, a0, vp1 =>
(loopF (fun x => F_X10_laysAsks_L4 (F_X10_laysAsks d) a0 vp1 x.1 x.2.1 x.2.2) 6000 (0, 1, h)).bind fun q1 =>
bl q1.1 fun v16 =>
bl q1.2 fun h17 =>
(loopF (fun x => F_X10_laysAsks_L43 (F_X10_laysAsks d) a0 vp1 x.1 x.2.1 x.2.2) 6000 (v16, 0, h17)).bind fun q18 =>
bl q18.1 fun v42 =>
bl q18.2 fun h43 =>
(cO h43 a0 10 (F_X10_of h43 a0 vp1 7 0)).bind (un fun v44 h45 =>
(gR h45 a0 10 17).bind fun a46 =>
(if v44 = 99 then (
some (v42, h45)) else (
(cO h45 a0 10 (F_X10_of h45 a0 vp1 24 0)).bind (un fun v48 h49 =>
(F_X10_greater h49 0 (v44 - v48)).bind fun v50 =>
(F_X10_lesser h49 v42 v50).bind fun v51 =>
some (v51, h49)))).bind fun q47 =>
bl q47.1 fun v52 =>
bl q47.2 fun h53 =>
(sI h53 a46 vp1 v52).bind fun h54 =>
(gR h54 a0 10 17).bind fun a55 =>
(aI h54 a55 vp1).bind fun v56 =>
some (v56, h54))
set_option maxRecDepth 100000 in
set_option maxHeartbeats 4000000 in
theorem c_X10_laysAsks : ∀ (d : Nat) (l : Launch) (G : GG) (B : Nat) (h : Hp) (a0 : Nat) (vp1 : Int32) (r0 : Int32) (hr : Hp) (hF : F_X10_laysAsks d h a0 vp1 = some (r0, hr)), CI l yX10_laysAsks cX10_laysAsks 4 .int (2 + d) (46 + 60 * d) 0 0 G B h [.ref (B + a0), .int vp1] r0 hr := by
  intro d
  induction d with
  | zero => intro l G B h a0 vp1 r0 hr hF; cases hF
  | succ d ihd =>
    intro l G B h a0 vp1 r0 hr hF
    refine ent_i rfl (Nat.le_of_ble_eq_true rfl) ?_
    intro p e s m args below meth c ls Q CX hnm hret P hl
    have CX : Cxt p m c cX10_laysAsks 4 s args RX10 G B := CX
    obtain ⟨⟨hx, hb, hml, hown, hts⟩, -, -⟩ := id CX
    replace hl : lv_has ls 4 [(0, .ref (B + a0)), (1, .int vp1)] := hl
    generalize s.heap = H at P ⊢
    generalize ([] : List Loc) = locs at P ⊢
    rw [F_X10_laysAsks] at hF
    refine lv_iconst (pc := 0) (v := 0) hx hb dX10_laysAsks_0 (by decide) ?_
    refine lv_istore_n (pc := 1) hx hb dX10_laysAsks_1 rfl hl (by decide) rfl (fun ls hl => ?_)
    replace hl : lv_has ls 4 [(2, .int 0), (0, .ref (B + a0)), (1, .int vp1)] := hl
    refine lv_iconst (pc := 2) (v := 1) hx hb dX10_laysAsks_2 (by decide) ?_
    refine lv_istore_n (pc := 3) hx hb dX10_laysAsks_3 rfl hl (by decide) rfl (fun ls hl => ?_)
    replace hl : lv_has ls 4 [(3, .int 1), (2, .int 0), (0, .ref (B + a0)), (1, .int vp1)] := hl
    obtain ⟨r1, hLp1, hK1⟩ := bd_some hF
    have hX1 : ∀ (v16 : Int32) (h17 : Hp) (H : Heap) (locs : List Loc) (ls : Array Slot), Pic G B h17 s H locs → lv_has ls 4 [(0, .ref (B + a0)), (1, .int vp1), (2, .int v16)] → (v16, h17) = r1 → W p l e (rmM (2 + (d + 1)) (46 + 60 * (d + 1)) 0 0) s m args below meth c H locs 0 0 Q (F0 m 41 ls []) := by
      intro v16 h17 H locs ls P hl er
      subst er
      have hF := hK1
      replace hF := bl_i hF
      replace hF := bl_i hF
      dsimp only at hF
      refine lv_iconst (pc := 41) (v := 0) hx hb dX10_laysAsks_41 (by decide) ?_
      refine lv_istore_n (pc := 42) hx hb dX10_laysAsks_42 rfl hl (by decide) rfl (fun ls hl => ?_)
      replace hl : lv_has ls 4 [(3, .int 0), (0, .ref (B + a0)), (1, .int vp1), (2, .int v16)] := hl
      obtain ⟨r18, hLp18, hK18⟩ := bd_some hF
      have hX18 : ∀ (v42 : Int32) (h43 : Hp) (H : Heap) (locs : List Loc) (ls : Array Slot), Pic G B h43 s H locs → lv_has ls 4 [(0, .ref (B + a0)), (1, .int vp1), (2, .int v42)] → (v42, h43) = r18 → W p l e (rmM (2 + (d + 1)) (46 + 60 * (d + 1)) 0 0) s m args below meth c H locs 0 0 Q (F0 m 118 ls []) := by
        intro v42 h43 H locs ls P hl er
        subst er
        have hF := hK18
        replace hF := bl_i hF
        replace hF := bl_i hF
        dsimp only at hF
        refine lv_aload_n (pc := 118) hx hb dX10_laysAsks_118 rfl (lv_at hl 0 rfl) ?_
        refine lv_iload_n (pc := 119) hx hb dX10_laysAsks_119 rfl (lv_at hl 1 rfl) ?_
        refine lv_bipush (pc := 120) (v := 7) hx hb dX10_laysAsks_120 (by decide) ?_
        refine lv_iconst (pc := 122) (v := 0) hx hb dX10_laysAsks_122 (by decide) ?_
        refine r_cVi (pc := 123) (As := [.int vp1, .int 7, .int 0]) (rest := []) CX P hl.1 hF kv_X10_99 (fun r h1 q => c_X10_of l G B _ _ _ _ _ _ _ q) rfl rfl ⟨by show _ ≤ (rmM _ _ _ _).frames; simp only [rmM]; omega, by show _ ≤ (rmM _ _ _ _).locals; simp only [rmM]; omega⟩ (Nat.le_of_ble_eq_true rfl) ⟨Nat.le_of_ble_eq_true rfl, Nat.le_of_ble_eq_true rfl⟩ dX10_laysAsks_123 (fun v44 h45 H locs P hF => ?_)
        replace hF := un_i hF
        refine lv_istore_n (pc := 126) hx hb dX10_laysAsks_126 rfl hl (by decide) rfl (fun ls hl => ?_)
        replace hl : lv_has ls 4 [(3, .int v44), (0, .ref (B + a0)), (1, .int vp1), (2, .int v42)] := hl
        refine lv_aload_n (pc := 127) hx hb dX10_laysAsks_127 rfl (lv_at hl 1 rfl) ?_
        refine r_gR (pc := 128) CX P hF fl_X10_60 dX10_laysAsks_128 (fun a46 hF => ?_)
        refine lv_iload_n (pc := 131) hx hb dX10_laysAsks_131 rfl (lv_at hl 2 rfl) ?_
        refine lv_iload_n (pc := 132) hx hb dX10_laysAsks_132 rfl (lv_at hl 0 rfl) ?_
        refine lv_bipush (pc := 133) (v := 99) hx hb dX10_laysAsks_133 (by decide) ?_
        obtain ⟨j47, hA47, hK47⟩ := bd_some hF
        have hJ47 : ∀ (v52 : Int32) (h53 : Hp) (H : Heap) (locs : List Loc) (ls : Array Slot), Pic G B h53 s H locs → lv_has ls 4 [(0, .ref (B + a0)), (1, .int vp1)] → (v52, h53) = j47 → W p l e (rmM (2 + (d + 1)) (46 + 60 * (d + 1)) 0 0) s m args below meth c H locs 0 0 Q (F0 m 160 ls [.int v52, .int vp1, .ref (B + a46)]) := by
          intro v52 h53 H locs ls P hl ej
          subst ej
          have hF := hK47
          replace hF := bl_i hF
          replace hF := bl_i hF
          dsimp only at hF
          refine r_sI (pc := 160) CX P hF dX10_laysAsks_160 (fun h54 H locs P hF => ?_)
          refine lv_aload_n (pc := 161) hx hb dX10_laysAsks_161 rfl (lv_at hl 0 rfl) ?_
          refine r_gR (pc := 162) CX P hF fl_X10_60 dX10_laysAsks_162 (fun a55 hF => ?_)
          refine lv_iload_n (pc := 165) hx hb dX10_laysAsks_165 rfl (lv_at hl 1 rfl) ?_
          refine r_aI (pc := 166) CX P hF dX10_laysAsks_166 (fun v56 hF => ?_)
          cases hF
          exact hret _ _ _ _ P rfl dX10_laysAsks_167
        replace hF := hA47
        refine lv_icmp_ne (pc := 135) (tgt := 142) hx hb dX10_laysAsks_135 (by decide) (fun hc => ?_) (fun hc => ?_)
        · rw [if_neg hc] at hF
          refine lv_iload_n (pc := 142) hx hb dX10_laysAsks_142 rfl (lv_at hl 3 rfl) ?_
          refine lv_iconst (pc := 143) (v := 0) hx hb dX10_laysAsks_143 (by decide) ?_
          refine lv_iload_n (pc := 144) hx hb dX10_laysAsks_144 rfl (lv_at hl 0 rfl) ?_
          refine lv_aload_n (pc := 145) hx hb dX10_laysAsks_145 rfl (lv_at hl 1 rfl) ?_
          refine lv_iload_n (pc := 146) hx hb dX10_laysAsks_146 rfl (lv_at hl 2 rfl) ?_
          refine lv_bipush (pc := 147) (v := 24) hx hb dX10_laysAsks_147 (by decide) ?_
          refine lv_iconst (pc := 149) (v := 0) hx hb dX10_laysAsks_149 (by decide) ?_
          refine r_cVi (pc := 150) (As := [.int vp1, .int 24, .int 0]) (rest := [.int v44, .int 0, .int v42, .int vp1, .ref (B + a46)]) CX P hl.1 hF kv_X10_99 (fun r h1 q => c_X10_of l G B _ _ _ _ _ _ _ q) rfl rfl ⟨by show _ ≤ (rmM _ _ _ _).frames; simp only [rmM]; omega, by show _ ≤ (rmM _ _ _ _).locals; simp only [rmM]; omega⟩ (Nat.le_of_ble_eq_true rfl) ⟨Nat.le_of_ble_eq_true rfl, Nat.le_of_ble_eq_true rfl⟩ dX10_laysAsks_150 (fun v48 h49 H locs P hF => ?_)
          replace hF := un_i hF
          refine lv_isub (pc := 153) hx hb dX10_laysAsks_153 ?_
          refine r_cSp (pc := 154) (As := [.int 0, .int (v44 - v48)]) (rest := [.int v42, .int vp1, .ref (B + a46)]) CX P hl.1 hF ks_X10_143 (fun r q => c_X10_greater l G B _ _ _ _ q) rfl rfl ⟨by show _ ≤ (rmM _ _ _ _).frames; simp only [rmM]; omega, by show _ ≤ (rmM _ _ _ _).locals; simp only [rmM]; omega⟩ (Nat.le_of_ble_eq_true rfl) ⟨Nat.le_of_ble_eq_true rfl, Nat.le_of_ble_eq_true rfl⟩ dX10_laysAsks_154 (fun v50 H locs P hF => ?_)
          refine r_cSp (pc := 157) (As := [.int v42, .int v50]) (rest := [.int vp1, .ref (B + a46)]) CX P hl.1 hF ks_X10_137 (fun r q => c_X10_lesser l G B _ _ _ _ q) rfl rfl ⟨by show _ ≤ (rmM _ _ _ _).frames; simp only [rmM]; omega, by show _ ≤ (rmM _ _ _ _).locals; simp only [rmM]; omega⟩ (Nat.le_of_ble_eq_true rfl) ⟨Nat.le_of_ble_eq_true rfl, Nat.le_of_ble_eq_true rfl⟩ dX10_laysAsks_157 (fun v51 H locs P hF => ?_)
          exact hJ47 _ _ _ _ _ P (lv_sub hl [1, 2] rfl) (Option.some.inj hF)
        · rw [if_pos hc] at hF
          refine lv_iload_n (pc := 138) hx hb dX10_laysAsks_138 rfl (lv_at hl 3 rfl) ?_
          refine lv_goto (pc := 139) (tgt := 160) hx hb dX10_laysAsks_139 (by decide) ?_
          exact hJ47 _ _ _ _ _ P (lv_sub hl [1, 2] rfl) (Option.some.inj hF)
      have hL18 : ∀ (n : Nat) (v21 : Int32) (v22 : Int32) (h23 : Hp) (H : Heap) (locs : List Loc) (ls : Array Slot), Pic G B h23 s H locs → lv_has ls 4 [(0, .ref (B + a0)), (1, .int vp1), (2, .int v21), (3, .int v22)] → loopF (fun x => F_X10_laysAsks_L43 (F_X10_laysAsks d) a0 vp1 x.1 x.2.1 x.2.2) n (v21, v22, h23) = some r18 → W p l e (rmM (2 + (d + 1)) (46 + 60 * (d + 1)) 0 0) s m args below meth c H locs 0 0 Q (F0 m 43 ls []) := by
        intro n
        induction n with
        | zero => intro v21 v22 h23 H locs ls P hl hq; cases hq
        | succ n ih =>
          intro v21 v22 h23 H locs ls P hl hq
          obtain ⟨z18, hS18, hI18, hR18⟩ := loop_some hq
          have hF : F_X10_laysAsks_L43 (F_X10_laysAsks d) a0 vp1 v21 v22 h23 = some z18 := hS18
          unfold F_X10_laysAsks_L43 at hF
          refine lv_iload_n (pc := 43) hx hb dX10_laysAsks_43 rfl (lv_at hl 3 rfl) ?_
          refine lv_bipush (pc := 44) (v := 16) hx hb dX10_laysAsks_44 (by decide) ?_
          refine lv_icmp_ge (pc := 46) (tgt := 118) hx hb dX10_laysAsks_46 (by decide) (fun hc => ?_) (fun hc => ?_)
          · rw [if_pos hc] at hF
            exact hX18 _ _ _ _ _ P (lv_sub hl [0, 1, 2] rfl) (hR18 _ (Option.some.inj hF).symm)
          · rw [if_neg hc] at hF
            refine lv_aload_n (pc := 49) hx hb dX10_laysAsks_49 rfl (lv_at hl 0 rfl) ?_
            refine lv_iload_n (pc := 50) hx hb dX10_laysAsks_50 rfl (lv_at hl 3 rfl) ?_
            refine r_cVp (pc := 51) (As := [.int v22]) (rest := []) CX P hl.1 hF kv_X10_117 (fun r q => c_X10_isProcess l G B _ _ _ _ q) rfl rfl ⟨by show _ ≤ (rmM _ _ _ _).frames; simp only [rmM]; omega, by show _ ≤ (rmM _ _ _ _).locals; simp only [rmM]; omega⟩ (Nat.le_of_ble_eq_true rfl) ⟨Nat.le_of_ble_eq_true rfl, Nat.le_of_ble_eq_true rfl⟩ dX10_laysAsks_51 (fun v24 H locs P hF => ?_)
            refine lv_if_eq (pc := 54) (tgt := 112) hx hb dX10_laysAsks_54 (by decide) (fun hc => ?_) (fun hc => ?_)
            · rw [if_pos hc] at hF
              obtain ⟨v25, ev25, hF⟩ := bl_o hF
              refine lv_iinc (pc := 112) (k := 3) (v := v25) hx hb dX10_laysAsks_112 hl rfl ev25 (by decide) rfl (fun ls hl => ?_)
              replace hl : lv_has ls 4 [(3, .int v25), (0, .ref (B + a0)), (1, .int vp1), (2, .int v21)] := hl
              refine lv_goto (pc := 115) (tgt := 43) hx hb dX10_laysAsks_115 (by decide) ?_
              exact ih _ _ _ _ _ _ P (lv_sub hl [1, 2, 3, 0] rfl) (hI18 _ (Option.some.inj hF).symm)
            · rw [if_neg hc] at hF
              refine lv_aload_n (pc := 57) hx hb dX10_laysAsks_57 rfl (lv_at hl 0 rfl) ?_
              refine lv_iload_n (pc := 58) hx hb dX10_laysAsks_58 rfl (lv_at hl 3 rfl) ?_
              refine r_cVi (pc := 59) (As := [.int v22]) (rest := []) CX P hl.1 hF kv_X10_120 (fun r h1 q => c_X10_groupOf l G B _ _ _ _ _ q) rfl rfl ⟨by show _ ≤ (rmM _ _ _ _).frames; simp only [rmM]; omega, by show _ ≤ (rmM _ _ _ _).locals; simp only [rmM]; omega⟩ (Nat.le_of_ble_eq_true rfl) ⟨Nat.le_of_ble_eq_true rfl, Nat.le_of_ble_eq_true rfl⟩ dX10_laysAsks_59 (fun v26 h27 H locs P hF => ?_)
              replace hF := un_i hF
              refine lv_iload_n (pc := 62) hx hb dX10_laysAsks_62 rfl (lv_at hl 1 rfl) ?_
              refine lv_icmp_eq (pc := 63) (tgt := 69) hx hb dX10_laysAsks_63 (by decide) (fun hc => ?_) (fun hc => ?_)
              · rw [if_pos hc] at hF
                refine lv_aload_n (pc := 69) hx hb dX10_laysAsks_69 rfl (lv_at hl 0 rfl) ?_
                refine r_gR (pc := 70) CX P hF fl_X10_60 dX10_laysAsks_70 (fun a28 hF => ?_)
                refine lv_bipush (pc := 73) (v := 12) hx hb dX10_laysAsks_73 (by decide) ?_
                refine lv_iload_n (pc := 75) hx hb dX10_laysAsks_75 rfl (lv_at hl 3 rfl) ?_
                refine lv_iadd (pc := 76) hx hb dX10_laysAsks_76 ?_
                refine lv_aload_n (pc := 77) hx hb dX10_laysAsks_77 rfl (lv_at hl 0 rfl) ?_
                refine lv_iload_n (pc := 78) hx hb dX10_laysAsks_78 rfl (lv_at hl 3 rfl) ?_
                refine lv_iconst (pc := 79) (v := 4) hx hb dX10_laysAsks_79 (by decide) ?_
                refine lv_iconst (pc := 80) (v := 0) hx hb dX10_laysAsks_80 (by decide) ?_
                refine r_cVi (pc := 81) (As := [.int v22, .int 4, .int 0]) (rest := [.int (12 + v22), .ref (B + a28)]) CX P hl.1 hF kv_X10_114 (fun r h1 q => c_X10_ofProcess l G B _ _ _ _ _ _ _ q) rfl rfl ⟨by show _ ≤ (rmM _ _ _ _).frames; simp only [rmM]; omega, by show _ ≤ (rmM _ _ _ _).locals; simp only [rmM]; omega⟩ (Nat.le_of_ble_eq_true rfl) ⟨Nat.le_of_ble_eq_true rfl, Nat.le_of_ble_eq_true rfl⟩ dX10_laysAsks_81 (fun v29 h30 H locs P hF => ?_)
                replace hF := un_i hF
                obtain ⟨j31, hA31, hK31⟩ := bd_some hF
                have hJ31 : ∀ (v34 : Int32) (h35 : Hp) (H : Heap) (locs : List Loc) (ls : Array Slot), Pic G B h35 s H locs → lv_has ls 4 [(0, .ref (B + a0)), (1, .int vp1), (2, .int v21), (3, .int v22)] → (v34, h35) = j31 → W p l e (rmM (2 + (d + 1)) (46 + 60 * (d + 1)) 0 0) s m args below meth c H locs 0 0 Q (F0 m 99 ls [.int v34, .int (12 + v22), .ref (B + a28)]) := by
                  intro v34 h35 H locs ls P hl ej
                  subst ej
                  have hF := hK31
                  replace hF := bl_i hF
                  replace hF := bl_i hF
                  dsimp only at hF
                  refine r_sI (pc := 99) CX P hF dX10_laysAsks_99 (fun h36 H locs P hF => ?_)
                  refine lv_iload_n (pc := 100) hx hb dX10_laysAsks_100 rfl (lv_at hl 2 rfl) ?_
                  refine lv_aload_n (pc := 101) hx hb dX10_laysAsks_101 rfl (lv_at hl 0 rfl) ?_
                  refine r_gR (pc := 102) CX P hF fl_X10_60 dX10_laysAsks_102 (fun a37 hF => ?_)
                  refine lv_bipush (pc := 105) (v := 12) hx hb dX10_laysAsks_105 (by decide) ?_
                  refine lv_iload_n (pc := 107) hx hb dX10_laysAsks_107 rfl (lv_at hl 3 rfl) ?_
                  refine lv_iadd (pc := 108) hx hb dX10_laysAsks_108 ?_
                  refine r_aI (pc := 109) CX P hF dX10_laysAsks_109 (fun v38 hF => ?_)
                  refine lv_iadd (pc := 110) hx hb dX10_laysAsks_110 ?_
                  refine lv_topi (fun v39 ev39 => ?_)
                  replace hF := bl_e hF ev39
                  refine lv_istore_n (pc := 111) hx hb dX10_laysAsks_111 rfl hl (by decide) rfl (fun ls hl => ?_)
                  replace hl : lv_has ls 4 [(2, .int v39), (0, .ref (B + a0)), (1, .int vp1), (3, .int v22)] := hl
                  obtain ⟨v40, ev40, hF⟩ := bl_o hF
                  refine lv_iinc (pc := 112) (k := 3) (v := v40) hx hb dX10_laysAsks_112 hl rfl ev40 (by decide) rfl (fun ls hl => ?_)
                  replace hl : lv_has ls 4 [(3, .int v40), (2, .int v39), (0, .ref (B + a0)), (1, .int vp1)] := hl
                  refine lv_goto (pc := 115) (tgt := 43) hx hb dX10_laysAsks_115 (by decide) ?_
                  exact ih _ _ _ _ _ _ P (lv_sub hl [2, 3, 1, 0] rfl) (hI18 _ (Option.some.inj hF).symm)
                replace hF := hA31
                refine lv_if_ne (pc := 84) (tgt := 98) hx hb dX10_laysAsks_84 (by decide) (fun hc => ?_) (fun hc => ?_)
                · rw [if_neg hc] at hF
                  refine lv_iconst (pc := 98) (v := 0) hx hb dX10_laysAsks_98 (by decide) ?_
                  exact hJ31 _ _ _ _ _ P (lv_sub hl [0, 1, 2, 3] rfl) (Option.some.inj hF)
                · rw [if_pos hc] at hF
                  refine lv_aload_n (pc := 87) hx hb dX10_laysAsks_87 rfl (lv_at hl 0 rfl) ?_
                  refine lv_iload_n (pc := 88) hx hb dX10_laysAsks_88 rfl (lv_at hl 3 rfl) ?_
                  refine lv_bipush (pc := 89) (v := 6) hx hb dX10_laysAsks_89 (by decide) ?_
                  refine lv_iconst (pc := 91) (v := 0) hx hb dX10_laysAsks_91 (by decide) ?_
                  refine r_cVi (pc := 92) (As := [.int v22, .int 6, .int 0]) (rest := [.int (12 + v22), .ref (B + a28)]) CX P hl.1 hF kv_X10_114 (fun r h1 q => c_X10_ofProcess l G B _ _ _ _ _ _ _ q) rfl rfl ⟨by show _ ≤ (rmM _ _ _ _).frames; simp only [rmM]; omega, by show _ ≤ (rmM _ _ _ _).locals; simp only [rmM]; omega⟩ (Nat.le_of_ble_eq_true rfl) ⟨Nat.le_of_ble_eq_true rfl, Nat.le_of_ble_eq_true rfl⟩ dX10_laysAsks_92 (fun v32 h33 H locs P hF => ?_)
                  replace hF := un_i hF
                  refine lv_goto (pc := 95) (tgt := 99) hx hb dX10_laysAsks_95 (by decide) ?_
                  exact hJ31 _ _ _ _ _ P (lv_sub hl [0, 1, 2, 3] rfl) (Option.some.inj hF)
              · rw [if_neg hc] at hF
                refine lv_goto (pc := 66) (tgt := 112) hx hb dX10_laysAsks_66 (by decide) ?_
                obtain ⟨v41, ev41, hF⟩ := bl_o hF
                refine lv_iinc (pc := 112) (k := 3) (v := v41) hx hb dX10_laysAsks_112 hl rfl ev41 (by decide) rfl (fun ls hl => ?_)
                replace hl : lv_has ls 4 [(3, .int v41), (0, .ref (B + a0)), (1, .int vp1), (2, .int v21)] := hl
                refine lv_goto (pc := 115) (tgt := 43) hx hb dX10_laysAsks_115 (by decide) ?_
                exact ih _ _ _ _ _ _ P (lv_sub hl [1, 2, 3, 0] rfl) (hI18 _ (Option.some.inj hF).symm)
      exact hL18 _ _ _ _ _ _ _ P (lv_sub hl [1, 2, 3, 0] rfl) hLp18
    have hL1 : ∀ (n : Nat) (v4 : Int32) (v5 : Int32) (h6 : Hp) (H : Heap) (locs : List Loc) (ls : Array Slot), Pic G B h6 s H locs → lv_has ls 4 [(0, .ref (B + a0)), (1, .int vp1), (2, .int v4), (3, .int v5)] → loopF (fun x => F_X10_laysAsks_L4 (F_X10_laysAsks d) a0 vp1 x.1 x.2.1 x.2.2) n (v4, v5, h6) = some r1 → W p l e (rmM (2 + (d + 1)) (46 + 60 * (d + 1)) 0 0) s m args below meth c H locs 0 0 Q (F0 m 4 ls []) := by
      intro n
      induction n with
      | zero => intro v4 v5 h6 H locs ls P hl hq; cases hq
      | succ n ih =>
        intro v4 v5 h6 H locs ls P hl hq
        obtain ⟨z1, hS1, hI1, hR1⟩ := loop_some hq
        have hF : F_X10_laysAsks_L4 (F_X10_laysAsks d) a0 vp1 v4 v5 h6 = some z1 := hS1
        unfold F_X10_laysAsks_L4 at hF
        refine lv_iload_n (pc := 4) hx hb dX10_laysAsks_4 rfl (lv_at hl 3 rfl) ?_
        refine lv_bipush (pc := 5) (v := 12) hx hb dX10_laysAsks_5 (by decide) ?_
        refine lv_icmp_ge (pc := 7) (tgt := 41) hx hb dX10_laysAsks_7 (by decide) (fun hc => ?_) (fun hc => ?_)
        · rw [if_pos hc] at hF
          exact hX1 _ _ _ _ _ P (lv_sub hl [0, 1, 2] rfl) (hR1 _ (Option.some.inj hF).symm)
        · rw [if_neg hc] at hF
          refine lv_aload_n (pc := 10) hx hb dX10_laysAsks_10 rfl (lv_at hl 0 rfl) ?_
          refine lv_iload_n (pc := 11) hx hb dX10_laysAsks_11 rfl (lv_at hl 3 rfl) ?_
          refine r_cVp (pc := 12) (As := [.int v5]) (rest := []) CX P hl.1 hF kv_X10_107 (fun r q => c_X10_isGroup l G B _ _ _ _ q) rfl rfl ⟨by show _ ≤ (rmM _ _ _ _).frames; simp only [rmM]; omega, by show _ ≤ (rmM _ _ _ _).locals; simp only [rmM]; omega⟩ (Nat.le_of_ble_eq_true rfl) ⟨Nat.le_of_ble_eq_true rfl, Nat.le_of_ble_eq_true rfl⟩ dX10_laysAsks_12 (fun v7 H locs P hF => ?_)
          refine lv_if_eq (pc := 15) (tgt := 35) hx hb dX10_laysAsks_15 (by decide) (fun hc => ?_) (fun hc => ?_)
          · rw [if_pos hc] at hF
            obtain ⟨v8, ev8, hF⟩ := bl_o hF
            refine lv_iinc (pc := 35) (k := 3) (v := v8) hx hb dX10_laysAsks_35 hl rfl ev8 (by decide) rfl (fun ls hl => ?_)
            replace hl : lv_has ls 4 [(3, .int v8), (0, .ref (B + a0)), (1, .int vp1), (2, .int v4)] := hl
            refine lv_goto (pc := 38) (tgt := 4) hx hb dX10_laysAsks_38 (by decide) ?_
            exact ih _ _ _ _ _ _ P (lv_sub hl [1, 2, 3, 0] rfl) (hI1 _ (Option.some.inj hF).symm)
          · rw [if_neg hc] at hF
            refine lv_aload_n (pc := 18) hx hb dX10_laysAsks_18 rfl (lv_at hl 0 rfl) ?_
            refine lv_iload_n (pc := 19) hx hb dX10_laysAsks_19 rfl (lv_at hl 3 rfl) ?_
            refine r_cVi (pc := 20) (As := [.int v5]) (rest := []) CX P hl.1 hF kv_X10_103 (fun r h1 q => c_X10_parentOf l G B _ _ _ _ _ q) rfl rfl ⟨by show _ ≤ (rmM _ _ _ _).frames; simp only [rmM]; omega, by show _ ≤ (rmM _ _ _ _).locals; simp only [rmM]; omega⟩ (Nat.le_of_ble_eq_true rfl) ⟨Nat.le_of_ble_eq_true rfl, Nat.le_of_ble_eq_true rfl⟩ dX10_laysAsks_20 (fun v9 h10 H locs P hF => ?_)
            replace hF := un_i hF
            refine lv_iload_n (pc := 23) hx hb dX10_laysAsks_23 rfl (lv_at hl 1 rfl) ?_
            refine lv_icmp_ne (pc := 24) (tgt := 35) hx hb dX10_laysAsks_24 (by decide) (fun hc => ?_) (fun hc => ?_)
            · rw [if_neg hc] at hF
              obtain ⟨v11, ev11, hF⟩ := bl_o hF
              refine lv_iinc (pc := 35) (k := 3) (v := v11) hx hb dX10_laysAsks_35 hl rfl ev11 (by decide) rfl (fun ls hl => ?_)
              replace hl : lv_has ls 4 [(3, .int v11), (0, .ref (B + a0)), (1, .int vp1), (2, .int v4)] := hl
              refine lv_goto (pc := 38) (tgt := 4) hx hb dX10_laysAsks_38 (by decide) ?_
              exact ih _ _ _ _ _ _ P (lv_sub hl [1, 2, 3, 0] rfl) (hI1 _ (Option.some.inj hF).symm)
            · rw [if_pos hc] at hF
              refine lv_iload_n (pc := 27) hx hb dX10_laysAsks_27 rfl (lv_at hl 2 rfl) ?_
              refine lv_aload_n (pc := 28) hx hb dX10_laysAsks_28 rfl (lv_at hl 0 rfl) ?_
              refine lv_iload_n (pc := 29) hx hb dX10_laysAsks_29 rfl (lv_at hl 3 rfl) ?_
              refine r_cVi (pc := 30) (As := [.int v5]) (rest := [.int v4]) CX P hl.1 hF kv_X10_261 (fun r h1 q => ihd l G B _ _ _ _ _ q) rfl rfl ⟨by show _ ≤ (rmM _ _ _ _).frames; simp only [rmM]; omega, by show _ ≤ (rmM _ _ _ _).locals; simp only [rmM]; omega⟩ (Nat.le_of_ble_eq_true rfl) ⟨Nat.le_of_ble_eq_true rfl, Nat.le_of_ble_eq_true rfl⟩ dX10_laysAsks_30 (fun v12 h13 H locs P hF => ?_)
              replace hF := un_i hF
              refine lv_iadd (pc := 33) hx hb dX10_laysAsks_33 ?_
              refine lv_topi (fun v14 ev14 => ?_)
              replace hF := bl_e hF ev14
              refine lv_istore_n (pc := 34) hx hb dX10_laysAsks_34 rfl hl (by decide) rfl (fun ls hl => ?_)
              replace hl : lv_has ls 4 [(2, .int v14), (0, .ref (B + a0)), (1, .int vp1), (3, .int v5)] := hl
              obtain ⟨v15, ev15, hF⟩ := bl_o hF
              refine lv_iinc (pc := 35) (k := 3) (v := v15) hx hb dX10_laysAsks_35 hl rfl ev15 (by decide) rfl (fun ls hl => ?_)
              replace hl : lv_has ls 4 [(3, .int v15), (2, .int v14), (0, .ref (B + a0)), (1, .int vp1)] := hl
              refine lv_goto (pc := 38) (tgt := 4) hx hb dX10_laysAsks_38 (by decide) ?_
              exact ih _ _ _ _ _ _ P (lv_sub hl [2, 3, 1, 0] rfl) (hI1 _ (Option.some.inj hF).symm)
    exact hL1 _ _ _ _ _ _ _ P (lv_sub hl [2, 3, 1, 0] rfl) hLp1
def F_X10_isOf (h : Hp) (a0 : Nat) (vp1 : Int32) (vp2 : Int32) : Option (Int32 × Hp) :=
if 12 ≤ vp1 then (
(cO h a0 10 (F_X10_isProcess h a0 (vp1 - 12))).bind fun v1 =>
if v1 = 0 then (
some (0, h)) else (
(cO h a0 10 (F_X10_groupOf h a0 (vp1 - 12))).bind (un fun v2 h3 =>
if v2 = vp2 then (
some (1, h3)) else (
some (0, h3))))) else (
if vp1 ≤ 0 then (
some (0, h)) else (
(cO h a0 10 (F_X10_isGroup h a0 vp1)).bind fun v4 =>
if v4 = 0 then (
some (0, h)) else (
(cO h a0 10 (F_X10_parentOf h a0 vp1)).bind (un fun v5 h6 =>
if v5 = vp2 then (
some (1, h6)) else (
some (0, h6))))))
set_option maxRecDepth 100000 in
set_option maxHeartbeats 4000000 in
theorem c_X10_isOf (l : Launch) (G : GG) (B : Nat) (h : Hp) (a0 : Nat) (vp1 : Int32) (vp2 : Int32) (r0 : Int32) (hr : Hp) (hF : F_X10_isOf h a0 vp1 vp2 = some (r0, hr)) : CI l yX10_isOf cX10_isOf 3 .boolean 2 46 0 0 G B h [.ref (B + a0), .int vp1, .int vp2] r0 hr := by
  refine ent_i rfl (Nat.le_of_ble_eq_true rfl) ?_
  intro p e s m args below meth c ls Q CX hnm hret P hl
  have CX : Cxt p m c cX10_isOf 3 s args RX10 G B := CX
  obtain ⟨⟨hx, hb, hml, hown, hts⟩, -, -⟩ := id CX
  replace hl : lv_has ls 3 [(0, .ref (B + a0)), (1, .int vp1), (2, .int vp2)] := hl
  generalize s.heap = H at P ⊢
  generalize ([] : List Loc) = locs at P ⊢
  unfold F_X10_isOf at hF
  refine lv_iload_n (pc := 0) hx hb dX10_isOf_0 rfl (lv_at hl 1 rfl) ?_
  refine lv_bipush (pc := 1) (v := 12) hx hb dX10_isOf_1 (by decide) ?_
  refine lv_icmp_ge (pc := 3) (tgt := 35) hx hb dX10_isOf_3 (by decide) (fun hc => ?_) (fun hc => ?_)
  · rw [if_pos hc] at hF
    refine lv_aload_n (pc := 35) hx hb dX10_isOf_35 rfl (lv_at hl 0 rfl) ?_
    refine lv_iload_n (pc := 36) hx hb dX10_isOf_36 rfl (lv_at hl 1 rfl) ?_
    refine lv_bipush (pc := 37) (v := 12) hx hb dX10_isOf_37 (by decide) ?_
    refine lv_isub (pc := 39) hx hb dX10_isOf_39 ?_
    refine r_cVp (pc := 40) (As := [.int (vp1 - 12)]) (rest := []) CX P hl.1 hF kv_X10_117 (fun r q => c_X10_isProcess l G B _ _ _ _ q) rfl rfl ⟨Nat.le_of_ble_eq_true rfl, Nat.le_of_ble_eq_true rfl⟩ (Nat.le_of_ble_eq_true rfl) ⟨Nat.le_of_ble_eq_true rfl, Nat.le_of_ble_eq_true rfl⟩ dX10_isOf_40 (fun v1 H locs P hF => ?_)
    refine lv_if_eq (pc := 43) (tgt := 62) hx hb dX10_isOf_43 (by decide) (fun hc => ?_) (fun hc => ?_)
    · rw [if_pos hc] at hF
      refine lv_iconst (pc := 62) (v := 0) hx hb dX10_isOf_62 (by decide) ?_
      cases hF
      exact hret _ _ _ _ P rfl dX10_isOf_63
    · rw [if_neg hc] at hF
      refine lv_aload_n (pc := 46) hx hb dX10_isOf_46 rfl (lv_at hl 0 rfl) ?_
      refine lv_iload_n (pc := 47) hx hb dX10_isOf_47 rfl (lv_at hl 1 rfl) ?_
      refine lv_bipush (pc := 48) (v := 12) hx hb dX10_isOf_48 (by decide) ?_
      refine lv_isub (pc := 50) hx hb dX10_isOf_50 ?_
      refine r_cVi (pc := 51) (As := [.int (vp1 - 12)]) (rest := []) CX P hl.1 hF kv_X10_120 (fun r h1 q => c_X10_groupOf l G B _ _ _ _ _ q) rfl rfl ⟨Nat.le_of_ble_eq_true rfl, Nat.le_of_ble_eq_true rfl⟩ (Nat.le_of_ble_eq_true rfl) ⟨Nat.le_of_ble_eq_true rfl, Nat.le_of_ble_eq_true rfl⟩ dX10_isOf_51 (fun v2 h3 H locs P hF => ?_)
      replace hF := un_i hF
      refine lv_iload_n (pc := 54) hx hb dX10_isOf_54 rfl (lv_at hl 2 rfl) ?_
      refine lv_icmp_ne (pc := 55) (tgt := 62) hx hb dX10_isOf_55 (by decide) (fun hc => ?_) (fun hc => ?_)
      · rw [if_neg hc] at hF
        refine lv_iconst (pc := 62) (v := 0) hx hb dX10_isOf_62 (by decide) ?_
        cases hF
        exact hret _ _ _ _ P rfl dX10_isOf_63
      · rw [if_pos hc] at hF
        refine lv_iconst (pc := 58) (v := 1) hx hb dX10_isOf_58 (by decide) ?_
        refine lv_goto (pc := 59) (tgt := 63) hx hb dX10_isOf_59 (by decide) ?_
        cases hF
        exact hret _ _ _ _ P rfl dX10_isOf_63
  · rw [if_neg hc] at hF
    refine lv_iload_n (pc := 6) hx hb dX10_isOf_6 rfl (lv_at hl 1 rfl) ?_
    refine lv_if_le (pc := 7) (tgt := 31) hx hb dX10_isOf_7 (by decide) (fun hc => ?_) (fun hc => ?_)
    · rw [if_pos hc] at hF
      refine lv_iconst (pc := 31) (v := 0) hx hb dX10_isOf_31 (by decide) ?_
      refine lv_goto (pc := 32) (tgt := 63) hx hb dX10_isOf_32 (by decide) ?_
      cases hF
      exact hret _ _ _ _ P rfl dX10_isOf_63
    · rw [if_neg hc] at hF
      refine lv_aload_n (pc := 10) hx hb dX10_isOf_10 rfl (lv_at hl 0 rfl) ?_
      refine lv_iload_n (pc := 11) hx hb dX10_isOf_11 rfl (lv_at hl 1 rfl) ?_
      refine r_cVp (pc := 12) (As := [.int vp1]) (rest := []) CX P hl.1 hF kv_X10_107 (fun r q => c_X10_isGroup l G B _ _ _ _ q) rfl rfl ⟨Nat.le_of_ble_eq_true rfl, Nat.le_of_ble_eq_true rfl⟩ (Nat.le_of_ble_eq_true rfl) ⟨Nat.le_of_ble_eq_true rfl, Nat.le_of_ble_eq_true rfl⟩ dX10_isOf_12 (fun v4 H locs P hF => ?_)
      refine lv_if_eq (pc := 15) (tgt := 31) hx hb dX10_isOf_15 (by decide) (fun hc => ?_) (fun hc => ?_)
      · rw [if_pos hc] at hF
        refine lv_iconst (pc := 31) (v := 0) hx hb dX10_isOf_31 (by decide) ?_
        refine lv_goto (pc := 32) (tgt := 63) hx hb dX10_isOf_32 (by decide) ?_
        cases hF
        exact hret _ _ _ _ P rfl dX10_isOf_63
      · rw [if_neg hc] at hF
        refine lv_aload_n (pc := 18) hx hb dX10_isOf_18 rfl (lv_at hl 0 rfl) ?_
        refine lv_iload_n (pc := 19) hx hb dX10_isOf_19 rfl (lv_at hl 1 rfl) ?_
        refine r_cVi (pc := 20) (As := [.int vp1]) (rest := []) CX P hl.1 hF kv_X10_103 (fun r h1 q => c_X10_parentOf l G B _ _ _ _ _ q) rfl rfl ⟨Nat.le_of_ble_eq_true rfl, Nat.le_of_ble_eq_true rfl⟩ (Nat.le_of_ble_eq_true rfl) ⟨Nat.le_of_ble_eq_true rfl, Nat.le_of_ble_eq_true rfl⟩ dX10_isOf_20 (fun v5 h6 H locs P hF => ?_)
        replace hF := un_i hF
        refine lv_iload_n (pc := 23) hx hb dX10_isOf_23 rfl (lv_at hl 2 rfl) ?_
        refine lv_icmp_ne (pc := 24) (tgt := 31) hx hb dX10_isOf_24 (by decide) (fun hc => ?_) (fun hc => ?_)
        · rw [if_neg hc] at hF
          refine lv_iconst (pc := 31) (v := 0) hx hb dX10_isOf_31 (by decide) ?_
          refine lv_goto (pc := 32) (tgt := 63) hx hb dX10_isOf_32 (by decide) ?_
          cases hF
          exact hret _ _ _ _ P rfl dX10_isOf_63
        · rw [if_pos hc] at hF
          refine lv_iconst (pc := 27) (v := 1) hx hb dX10_isOf_27 (by decide) ?_
          refine lv_goto (pc := 28) (tgt := 63) hx hb dX10_isOf_28 (by decide) ?_
          cases hF
          exact hret _ _ _ _ P rfl dX10_isOf_63
def F_X10_weightOf (h : Hp) (a0 : Nat) (vp1 : Int32) : Option (Int32 × Hp) :=
if 12 ≤ vp1 then (
some (1, h)) else (
(cO h a0 10 (F_X10_of h a0 vp1 6 0)).bind (un fun v1 h2 =>
some (v1, h2)))
set_option maxRecDepth 100000 in
set_option maxHeartbeats 4000000 in
theorem c_X10_weightOf (l : Launch) (G : GG) (B : Nat) (h : Hp) (a0 : Nat) (vp1 : Int32) (r0 : Int32) (hr : Hp) (hF : F_X10_weightOf h a0 vp1 = some (r0, hr)) : CI l yX10_weightOf cX10_weightOf 2 .int 1 23 0 0 G B h [.ref (B + a0), .int vp1] r0 hr := by
  refine ent_i rfl (Nat.le_of_ble_eq_true rfl) ?_
  intro p e s m args below meth c ls Q CX hnm hret P hl
  have CX : Cxt p m c cX10_weightOf 2 s args RX10 G B := CX
  obtain ⟨⟨hx, hb, hml, hown, hts⟩, -, -⟩ := id CX
  replace hl : lv_has ls 2 [(0, .ref (B + a0)), (1, .int vp1)] := hl
  generalize s.heap = H at P ⊢
  generalize ([] : List Loc) = locs at P ⊢
  unfold F_X10_weightOf at hF
  refine lv_iload_n (pc := 0) hx hb dX10_weightOf_0 rfl (lv_at hl 1 rfl) ?_
  refine lv_bipush (pc := 1) (v := 12) hx hb dX10_weightOf_1 (by decide) ?_
  refine lv_icmp_ge (pc := 3) (tgt := 17) hx hb dX10_weightOf_3 (by decide) (fun hc => ?_) (fun hc => ?_)
  · rw [if_pos hc] at hF
    refine lv_iconst (pc := 17) (v := 1) hx hb dX10_weightOf_17 (by decide) ?_
    cases hF
    exact hret _ _ _ _ P rfl dX10_weightOf_18
  · rw [if_neg hc] at hF
    refine lv_aload_n (pc := 6) hx hb dX10_weightOf_6 rfl (lv_at hl 0 rfl) ?_
    refine lv_iload_n (pc := 7) hx hb dX10_weightOf_7 rfl (lv_at hl 1 rfl) ?_
    refine lv_bipush (pc := 8) (v := 6) hx hb dX10_weightOf_8 (by decide) ?_
    refine lv_iconst (pc := 10) (v := 0) hx hb dX10_weightOf_10 (by decide) ?_
    refine r_cVi (pc := 11) (As := [.int vp1, .int 6, .int 0]) (rest := []) CX P hl.1 hF kv_X10_99 (fun r h1 q => c_X10_of l G B _ _ _ _ _ _ _ q) rfl rfl ⟨Nat.le_of_ble_eq_true rfl, Nat.le_of_ble_eq_true rfl⟩ (Nat.le_of_ble_eq_true rfl) ⟨Nat.le_of_ble_eq_true rfl, Nat.le_of_ble_eq_true rfl⟩ dX10_weightOf_11 (fun v1 h2 H locs P hF => ?_)
    replace hF := un_i hF
    refine lv_goto (pc := 14) (tgt := 18) hx hb dX10_weightOf_14 (by decide) ?_
    cases hF
    exact hret _ _ _ _ P rfl dX10_weightOf_18
def F_X10_round_L8 (a2 : Nat) (v3 : Int32) (v4 : Int32) (v5 : Int32) (v6 : Int32) (v7 : Int32) (h8 : Hp) : Option ((Int32 × Int32 × Int32 × Hp) ⊕ (Int32 × Int32 × Hp)) :=
if 28 ≤ v7 then (
some (.inr (v5, v6, h8))) else (
(gR h8 a2 10 19).bind fun a9 =>
(cO h8 a2 10 (F_X10_isOf h8 a2 v7 v3)).bind (un fun v10 h11 =>
bl (fun (v33 : Int32) (v34 : Int32) (v35 : Int32) (h36 : Hp) =>
(sB h36 a9 v7 0).bind fun h37 =>
(gR h37 a2 10 19).bind fun a38 =>
(aB h37 a38 v35).bind fun v39 =>
if v39 = 0 then (
bl (v35 + 1) fun v52 =>
some (.inl (v33, v34, v52, h37))) else (
(cO h37 a2 10 (F_X10_weightOf h37 a2 v35)).bind (un fun v40 h41 =>
bl (v33 + v40) fun v42 =>
bl (fun (v49 : Int32) (h50 : Hp) =>
bl (v49 + 1) fun v51 =>
some (.inl (v42, v49, v51, h50))) fun k43 =>
if v34 = (-1) then (
k43 v35 h41) else (
(cO h41 a2 10 (F_X10_weightOf h41 a2 v35)).bind (un fun v44 h45 =>
(cO h45 a2 10 (F_X10_weightOf h45 a2 v34)).bind (un fun v46 h47 =>
if v44 ≤ v46 then (
bl (v35 + 1) fun v48 =>
some (.inl (v42, v34, v48, h47))) else (
k43 v35 h47))))))) fun k12 =>
if v10 = 0 then (
k12 v5 v6 v7 h11) else (
(gR h11 a2 10 18).bind fun a13 =>
(aI h11 a13 v7).bind fun v14 =>
(gR h11 a2 10 17).bind fun a15 =>
(aI h11 a15 v7).bind fun v16 =>
if v16 ≤ v14 then (
k12 v5 v6 v7 h11) else (
(sB h11 a9 v7 1).bind fun h17 =>
(gR h17 a2 10 19).bind fun a18 =>
(aB h17 a18 v7).bind fun v19 =>
if v19 = 0 then (
bl (v7 + 1) fun v32 =>
some (.inl (v5, v6, v32, h17))) else (
(cO h17 a2 10 (F_X10_weightOf h17 a2 v7)).bind (un fun v20 h21 =>
bl (v5 + v20) fun v22 =>
bl (fun (v29 : Int32) (h30 : Hp) =>
bl (v29 + 1) fun v31 =>
some (.inl (v22, v29, v31, h30))) fun k23 =>
if v6 = (-1) then (
k23 v7 h21) else (
(cO h21 a2 10 (F_X10_weightOf h21 a2 v7)).bind (un fun v24 h25 =>
(cO h25 a2 10 (F_X10_weightOf h25 a2 v6)).bind (un fun v26 h27 =>
if v24 ≤ v26 then (
bl (v7 + 1) fun v28 =>
some (.inl (v22, v6, v28, h27))) else (
k23 v7 h27))))))))))
def F_X10_round_L121 (a57 : Nat) (v58 : Int32) (v59 : Int32) (v60 : Int32) (v61 : Int32) (v62 : Int32) (h63 : Hp) : Option ((Int32 × Int32 × Hp) ⊕ (Int32 × Hp)) :=
if 28 ≤ v62 then (
some (.inr (v61, h63))) else (
(gR h63 a57 10 19).bind fun a64 =>
(aB h63 a64 v62).bind fun v65 =>
if v65 = 0 then (
bl (v62 + 1) fun v79 =>
some (.inl (v61, v79, h63))) else (
(cO h63 a57 10 (F_X10_weightOf h63 a57 v62)).bind (un fun v66 h67 =>
(dvI (v58 * v66) v59).bind fun v68 =>
(gR h67 a57 10 17).bind fun a69 =>
(aI h67 a69 v62).bind fun v70 =>
(gR h67 a57 10 18).bind fun a71 =>
(aI h67 a71 v62).bind fun v72 =>
(F_X10_lesser h67 v68 (v70 - v72)).bind fun v73 =>
(gR h67 a57 10 18).bind fun a74 =>
(aI h67 a74 v62).bind fun v75 =>
(sI h67 a74 v62 (v75 + v73)).bind fun h76 =>
bl (v61 + v73) fun v77 =>
bl (v62 + 1) fun v78 =>
some (.inl (v77, v78, h76)))))
def F_X10_round (h : Hp) (a0 : Nat) (vp1 : Int32) (vp2 : Int32) : Option (Int32 × Hp) :=
(loopF (fun x => F_X10_round_L8 a0 vp1 vp2 x.1 x.2.1 x.2.2.1 x.2.2.2) 6000 (0, (-1), 0, h)).bind fun q1 =>
bl q1.1 fun v53 =>
bl q1.2.1 fun v54 =>
bl q1.2.2 fun h55 =>
if v54 = (-1) then (
some (0, h55)) else (
(loopF (fun x => F_X10_round_L121 a0 vp2 v53 v54 x.1 x.2.1 x.2.2) 6000 (0, 0, h55)).bind fun q56 =>
bl q56.1 fun v80 =>
bl q56.2 fun h81 =>
if v80 ≤ 0 then (
(gR h81 a0 10 18).bind fun a82 =>
(aI h81 a82 v54).bind fun v83 =>
(sI h81 a82 v54 (v83 + 1)).bind fun h84 =>
some (1, h84)) else (
some (v80, h81)))
set_option maxRecDepth 100000 in
set_option maxHeartbeats 4000000 in
theorem c_X10_round (l : Launch) (G : GG) (B : Nat) (h : Hp) (a0 : Nat) (vp1 : Int32) (vp2 : Int32) (r0 : Int32) (hr : Hp) (hF : F_X10_round h a0 vp1 vp2 = some (r0, hr)) : CI l yX10_round cX10_round 8 .int 3 68 0 0 G B h [.ref (B + a0), .int vp1, .int vp2] r0 hr := by
  refine ent_i rfl (Nat.le_of_ble_eq_true rfl) ?_
  intro p e s m args below meth c ls Q CX hnm hret P hl
  have CX : Cxt p m c cX10_round 8 s args RX10 G B := CX
  obtain ⟨⟨hx, hb, hml, hown, hts⟩, -, -⟩ := id CX
  replace hl : lv_has ls 8 [(0, .ref (B + a0)), (1, .int vp1), (2, .int vp2)] := hl
  generalize s.heap = H at P ⊢
  generalize ([] : List Loc) = locs at P ⊢
  unfold F_X10_round at hF
  refine lv_iconst (pc := 0) (v := 0) hx hb dX10_round_0 (by decide) ?_
  refine lv_istore_n (pc := 1) hx hb dX10_round_1 rfl hl (by decide) rfl (fun ls hl => ?_)
  replace hl : lv_has ls 8 [(3, .int 0), (0, .ref (B + a0)), (1, .int vp1), (2, .int vp2)] := hl
  refine lv_iconst (pc := 2) (v := (-1)) hx hb dX10_round_2 (by decide) ?_
  refine lv_istore (pc := 3) hx hb dX10_round_3 hl (by decide) rfl (fun ls hl => ?_)
  replace hl : lv_has ls 8 [(4, .int (-1)), (3, .int 0), (0, .ref (B + a0)), (1, .int vp1), (2, .int vp2)] := hl
  refine lv_iconst (pc := 5) (v := 0) hx hb dX10_round_5 (by decide) ?_
  refine lv_istore (pc := 6) hx hb dX10_round_6 hl (by decide) rfl (fun ls hl => ?_)
  replace hl : lv_has ls 8 [(5, .int 0), (4, .int (-1)), (3, .int 0), (0, .ref (B + a0)), (1, .int vp1), (2, .int vp2)] := hl
  obtain ⟨r1, hLp1, hK1⟩ := bd_some hF
  have hX1 : ∀ (v53 : Int32) (v54 : Int32) (h55 : Hp) (H : Heap) (locs : List Loc) (ls : Array Slot), Pic G B h55 s H locs → lv_has ls 8 [(0, .ref (B + a0)), (2, .int vp2), (3, .int v53), (4, .int v54)] → (v53, v54, h55) = r1 → W p l e (rmM 3 68 0 0) s m args below meth c H locs 0 0 Q (F0 m 107 ls []) := by
    intro v53 v54 h55 H locs ls P hl er
    subst er
    have hF := hK1
    replace hF := bl_i hF
    replace hF := bl_i hF
    replace hF := bl_i hF
    dsimp only at hF
    refine lv_iload (pc := 107) hx hb dX10_round_107 (lv_at hl 3 rfl) ?_
    refine lv_iconst (pc := 109) (v := (-1)) hx hb dX10_round_109 (by decide) ?_
    refine lv_icmp_ne (pc := 110) (tgt := 115) hx hb dX10_round_110 (by decide) (fun hc => ?_) (fun hc => ?_)
    · rw [if_neg hc] at hF
      refine lv_iconst (pc := 115) (v := 0) hx hb dX10_round_115 (by decide) ?_
      refine lv_istore (pc := 116) hx hb dX10_round_116 hl (by decide) rfl (fun ls hl => ?_)
      replace hl : lv_has ls 8 [(5, .int 0), (0, .ref (B + a0)), (2, .int vp2), (3, .int v53), (4, .int v54)] := hl
      refine lv_iconst (pc := 118) (v := 0) hx hb dX10_round_118 (by decide) ?_
      refine lv_istore (pc := 119) hx hb dX10_round_119 hl (by decide) rfl (fun ls hl => ?_)
      replace hl : lv_has ls 8 [(6, .int 0), (5, .int 0), (0, .ref (B + a0)), (2, .int vp2), (3, .int v53), (4, .int v54)] := hl
      obtain ⟨r56, hLp56, hK56⟩ := bd_some hF
      have hX56 : ∀ (v80 : Int32) (h81 : Hp) (H : Heap) (locs : List Loc) (ls : Array Slot), Pic G B h81 s H locs → lv_has ls 8 [(0, .ref (B + a0)), (4, .int v54), (5, .int v80)] → (v80, h81) = r56 → W p l e (rmM 3 68 0 0) s m args below meth c H locs 0 0 Q (F0 m 196 ls []) := by
        intro v80 h81 H locs ls P hl er
        subst er
        have hF := hK56
        replace hF := bl_i hF
        replace hF := bl_i hF
        dsimp only at hF
        refine lv_iload (pc := 196) hx hb dX10_round_196 (lv_at hl 2 rfl) ?_
        refine lv_if_le (pc := 198) (tgt := 204) hx hb dX10_round_198 (by decide) (fun hc => ?_) (fun hc => ?_)
        · rw [if_pos hc] at hF
          refine lv_aload_n (pc := 204) hx hb dX10_round_204 rfl (lv_at hl 0 rfl) ?_
          refine r_gR (pc := 205) CX P hF fl_X10_63 dX10_round_205 (fun a82 hF => ?_)
          refine lv_iload (pc := 208) hx hb dX10_round_208 (lv_at hl 1 rfl) ?_
          refine lv_dup2_11 (pc := 210) hx hb dX10_round_210 rfl rfl ?_
          refine r_aI (pc := 211) CX P hF dX10_round_211 (fun v83 hF => ?_)
          refine lv_iconst (pc := 212) (v := 1) hx hb dX10_round_212 (by decide) ?_
          refine lv_iadd (pc := 213) hx hb dX10_round_213 ?_
          refine r_sI (pc := 214) CX P hF dX10_round_214 (fun h84 H locs P hF => ?_)
          refine lv_iconst (pc := 215) (v := 1) hx hb dX10_round_215 (by decide) ?_
          cases hF
          exact hret _ _ _ _ P rfl dX10_round_216
        · rw [if_neg hc] at hF
          refine lv_iload (pc := 201) hx hb dX10_round_201 (lv_at hl 2 rfl) ?_
          cases hF
          exact hret _ _ _ _ P rfl dX10_round_203
      have hL56 : ∀ (n : Nat) (v61 : Int32) (v62 : Int32) (h63 : Hp) (H : Heap) (locs : List Loc) (ls : Array Slot), Pic G B h63 s H locs → lv_has ls 8 [(0, .ref (B + a0)), (2, .int vp2), (3, .int v53), (4, .int v54), (5, .int v61), (6, .int v62)] → loopF (fun x => F_X10_round_L121 a0 vp2 v53 v54 x.1 x.2.1 x.2.2) n (v61, v62, h63) = some r56 → W p l e (rmM 3 68 0 0) s m args below meth c H locs 0 0 Q (F0 m 121 ls []) := by
        intro n
        induction n with
        | zero => intro v61 v62 h63 H locs ls P hl hq; cases hq
        | succ n ih =>
          intro v61 v62 h63 H locs ls P hl hq
          obtain ⟨z56, hS56, hI56, hR56⟩ := loop_some hq
          have hF : F_X10_round_L121 a0 vp2 v53 v54 v61 v62 h63 = some z56 := hS56
          unfold F_X10_round_L121 at hF
          refine lv_iload (pc := 121) hx hb dX10_round_121 (lv_at hl 5 rfl) ?_
          refine lv_bipush (pc := 123) (v := 28) hx hb dX10_round_123 (by decide) ?_
          refine lv_icmp_ge (pc := 125) (tgt := 196) hx hb dX10_round_125 (by decide) (fun hc => ?_) (fun hc => ?_)
          · rw [if_pos hc] at hF
            exact hX56 _ _ _ _ _ P (lv_sub hl [0, 3, 4] rfl) (hR56 _ (Option.some.inj hF).symm)
          · rw [if_neg hc] at hF
            refine lv_aload_n (pc := 128) hx hb dX10_round_128 rfl (lv_at hl 0 rfl) ?_
            refine r_gR (pc := 129) CX P hF fl_X10_66 dX10_round_129 (fun a64 hF => ?_)
            refine lv_iload (pc := 132) hx hb dX10_round_132 (lv_at hl 5 rfl) ?_
            refine r_aB (pc := 134) CX P hF dX10_round_134 (fun v65 hF => ?_)
            refine lv_if_ne (pc := 135) (tgt := 141) hx hb dX10_round_135 (by decide) (fun hc => ?_) (fun hc => ?_)
            · rw [if_neg hc] at hF
              refine lv_iload_n (pc := 141) hx hb dX10_round_141 rfl (lv_at hl 1 rfl) ?_
              refine lv_aload_n (pc := 142) hx hb dX10_round_142 rfl (lv_at hl 0 rfl) ?_
              refine lv_iload (pc := 143) hx hb dX10_round_143 (lv_at hl 5 rfl) ?_
              refine r_cVi (pc := 145) (As := [.int v62]) (rest := [.int vp2]) CX P hl.1 hF kv_X10_267 (fun r h1 q => c_X10_weightOf l G B _ _ _ _ _ q) rfl rfl ⟨Nat.le_of_ble_eq_true rfl, Nat.le_of_ble_eq_true rfl⟩ (Nat.le_of_ble_eq_true rfl) ⟨Nat.le_of_ble_eq_true rfl, Nat.le_of_ble_eq_true rfl⟩ dX10_round_145 (fun v66 h67 H locs P hF => ?_)
              replace hF := un_i hF
              refine lv_imul (pc := 148) hx hb dX10_round_148 ?_
              refine lv_iload_n (pc := 149) hx hb dX10_round_149 rfl (lv_at hl 2 rfl) ?_
              refine r_dv (pc := 150) hx hb hF dX10_round_150 (fun v68 hF => ?_)
              refine lv_aload_n (pc := 151) hx hb dX10_round_151 rfl (lv_at hl 0 rfl) ?_
              refine r_gR (pc := 152) CX P hF fl_X10_60 dX10_round_152 (fun a69 hF => ?_)
              refine lv_iload (pc := 155) hx hb dX10_round_155 (lv_at hl 5 rfl) ?_
              refine r_aI (pc := 157) CX P hF dX10_round_157 (fun v70 hF => ?_)
              refine lv_aload_n (pc := 158) hx hb dX10_round_158 rfl (lv_at hl 0 rfl) ?_
              refine r_gR (pc := 159) CX P hF fl_X10_63 dX10_round_159 (fun a71 hF => ?_)
              refine lv_iload (pc := 162) hx hb dX10_round_162 (lv_at hl 5 rfl) ?_
              refine r_aI (pc := 164) CX P hF dX10_round_164 (fun v72 hF => ?_)
              refine lv_isub (pc := 165) hx hb dX10_round_165 ?_
              refine r_cSp (pc := 166) (As := [.int v68, .int (v70 - v72)]) (rest := []) CX P hl.1 hF ks_X10_137 (fun r q => c_X10_lesser l G B _ _ _ _ q) rfl rfl ⟨Nat.le_of_ble_eq_true rfl, Nat.le_of_ble_eq_true rfl⟩ (Nat.le_of_ble_eq_true rfl) ⟨Nat.le_of_ble_eq_true rfl, Nat.le_of_ble_eq_true rfl⟩ dX10_round_166 (fun v73 H locs P hF => ?_)
              refine lv_istore (pc := 169) hx hb dX10_round_169 hl (by decide) rfl (fun ls hl => ?_)
              replace hl : lv_has ls 8 [(7, .int v73), (0, .ref (B + a0)), (2, .int vp2), (3, .int v53), (4, .int v54), (5, .int v61), (6, .int v62)] := hl
              refine lv_aload_n (pc := 171) hx hb dX10_round_171 rfl (lv_at hl 1 rfl) ?_
              refine r_gR (pc := 172) CX P hF fl_X10_63 dX10_round_172 (fun a74 hF => ?_)
              refine lv_iload (pc := 175) hx hb dX10_round_175 (lv_at hl 6 rfl) ?_
              refine lv_dup2_11 (pc := 177) hx hb dX10_round_177 rfl rfl ?_
              refine r_aI (pc := 178) CX P hF dX10_round_178 (fun v75 hF => ?_)
              refine lv_iload (pc := 179) hx hb dX10_round_179 (lv_at hl 0 rfl) ?_
              refine lv_iadd (pc := 181) hx hb dX10_round_181 ?_
              refine r_sI (pc := 182) CX P hF dX10_round_182 (fun h76 H locs P hF => ?_)
              refine lv_iload (pc := 183) hx hb dX10_round_183 (lv_at hl 5 rfl) ?_
              refine lv_iload (pc := 185) hx hb dX10_round_185 (lv_at hl 0 rfl) ?_
              refine lv_iadd (pc := 187) hx hb dX10_round_187 ?_
              refine lv_topi (fun v77 ev77 => ?_)
              replace hF := bl_e hF ev77
              refine lv_istore (pc := 188) hx hb dX10_round_188 hl (by decide) rfl (fun ls hl => ?_)
              replace hl : lv_has ls 8 [(5, .int v77), (7, .int v73), (0, .ref (B + a0)), (2, .int vp2), (3, .int v53), (4, .int v54), (6, .int v62)] := hl
              obtain ⟨v78, ev78, hF⟩ := bl_o hF
              refine lv_iinc (pc := 190) (k := 6) (v := v78) hx hb dX10_round_190 hl rfl ev78 (by decide) rfl (fun ls hl => ?_)
              replace hl : lv_has ls 8 [(6, .int v78), (5, .int v77), (7, .int v73), (0, .ref (B + a0)), (2, .int vp2), (3, .int v53), (4, .int v54)] := hl
              refine lv_goto (pc := 193) (tgt := 121) hx hb dX10_round_193 (by decide) ?_
              exact ih _ _ _ _ _ _ P (lv_sub hl [3, 4, 5, 6, 1, 0] rfl) (hI56 _ (Option.some.inj hF).symm)
            · rw [if_pos hc] at hF
              refine lv_goto (pc := 138) (tgt := 190) hx hb dX10_round_138 (by decide) ?_
              obtain ⟨v79, ev79, hF⟩ := bl_o hF
              refine lv_iinc (pc := 190) (k := 5) (v := v79) hx hb dX10_round_190 hl rfl ev79 (by decide) rfl (fun ls hl => ?_)
              replace hl : lv_has ls 8 [(6, .int v79), (0, .ref (B + a0)), (2, .int vp2), (3, .int v53), (4, .int v54), (5, .int v61)] := hl
              refine lv_goto (pc := 193) (tgt := 121) hx hb dX10_round_193 (by decide) ?_
              exact ih _ _ _ _ _ _ P (lv_sub hl [1, 2, 3, 4, 5, 0] rfl) (hI56 _ (Option.some.inj hF).symm)
      exact hL56 _ _ _ _ _ _ _ P (lv_sub hl [2, 3, 4, 5, 1, 0] rfl) hLp56
    · rw [if_pos hc] at hF
      refine lv_iconst (pc := 113) (v := 0) hx hb dX10_round_113 (by decide) ?_
      cases hF
      exact hret _ _ _ _ P rfl dX10_round_114
  have hL1 : ∀ (n : Nat) (v5 : Int32) (v6 : Int32) (v7 : Int32) (h8 : Hp) (H : Heap) (locs : List Loc) (ls : Array Slot), Pic G B h8 s H locs → lv_has ls 8 [(0, .ref (B + a0)), (1, .int vp1), (2, .int vp2), (3, .int v5), (4, .int v6), (5, .int v7)] → loopF (fun x => F_X10_round_L8 a0 vp1 vp2 x.1 x.2.1 x.2.2.1 x.2.2.2) n (v5, v6, v7, h8) = some r1 → W p l e (rmM 3 68 0 0) s m args below meth c H locs 0 0 Q (F0 m 8 ls []) := by
    intro n
    induction n with
    | zero => intro v5 v6 v7 h8 H locs ls P hl hq; cases hq
    | succ n ih =>
      intro v5 v6 v7 h8 H locs ls P hl hq
      obtain ⟨z1, hS1, hI1, hR1⟩ := loop_some hq
      have hF : F_X10_round_L8 a0 vp1 vp2 v5 v6 v7 h8 = some z1 := hS1
      unfold F_X10_round_L8 at hF
      refine lv_iload (pc := 8) hx hb dX10_round_8 (lv_at hl 5 rfl) ?_
      refine lv_bipush (pc := 10) (v := 28) hx hb dX10_round_10 (by decide) ?_
      refine lv_icmp_ge (pc := 12) (tgt := 107) hx hb dX10_round_12 (by decide) (fun hc => ?_) (fun hc => ?_)
      · rw [if_pos hc] at hF
        exact hX1 _ _ _ _ _ _ P (lv_sub hl [0, 2, 3, 4] rfl) (hR1 _ (Option.some.inj hF).symm)
      · rw [if_neg hc] at hF
        refine lv_aload_n (pc := 15) hx hb dX10_round_15 rfl (lv_at hl 0 rfl) ?_
        refine r_gR (pc := 16) CX P hF fl_X10_66 dX10_round_16 (fun a9 hF => ?_)
        refine lv_iload (pc := 19) hx hb dX10_round_19 (lv_at hl 5 rfl) ?_
        refine lv_aload_n (pc := 21) hx hb dX10_round_21 rfl (lv_at hl 0 rfl) ?_
        refine lv_iload (pc := 22) hx hb dX10_round_22 (lv_at hl 5 rfl) ?_
        refine lv_iload_n (pc := 24) hx hb dX10_round_24 rfl (lv_at hl 1 rfl) ?_
        refine r_cVi (pc := 25) (As := [.int v7, .int vp1]) (rest := [.int v7, .ref (B + a9)]) CX P hl.1 hF kv_X10_264 (fun r h1 q => c_X10_isOf l G B _ _ _ _ _ _ q) rfl rfl ⟨Nat.le_of_ble_eq_true rfl, Nat.le_of_ble_eq_true rfl⟩ (Nat.le_of_ble_eq_true rfl) ⟨Nat.le_of_ble_eq_true rfl, Nat.le_of_ble_eq_true rfl⟩ dX10_round_25 (fun v10 h11 H locs P hF => ?_)
        replace hF := un_i hF
        obtain ⟨k12, ek12, hF⟩ := bl_o hF
        have hJ12 : ∀ (v33 : Int32) (v34 : Int32) (v35 : Int32) (h36 : Hp) (H : Heap) (locs : List Loc) (ls : Array Slot), Pic G B h36 s H locs → lv_has ls 8 [(0, .ref (B + a0)), (1, .int vp1), (2, .int vp2), (3, .int v33), (4, .int v34), (5, .int v35)] → k12 v33 v34 v35 h36 = some z1 → W p l e (rmM 3 68 0 0) s m args below meth c H locs 0 0 Q (F0 m 52 ls [.int v7, .ref (B + a9)]) := by
          intro v33 v34 v35 h36 H locs ls P hl hF
          rw [← ek12] at hF
          dsimp only at hF
          refine lv_iconst (pc := 52) (v := 0) hx hb dX10_round_52 (by decide) ?_
          refine r_sB (pc := 53) CX P hF dX10_round_53 (fun h37 H locs P hF => ?_)
          refine lv_aload_n (pc := 54) hx hb dX10_round_54 rfl (lv_at hl 0 rfl) ?_
          refine r_gR (pc := 55) CX P hF fl_X10_66 dX10_round_55 (fun a38 hF => ?_)
          refine lv_iload (pc := 58) hx hb dX10_round_58 (lv_at hl 5 rfl) ?_
          refine r_aB (pc := 60) CX P hF dX10_round_60 (fun v39 hF => ?_)
          refine lv_if_ne (pc := 61) (tgt := 67) hx hb dX10_round_61 (by decide) (fun hc => ?_) (fun hc => ?_)
          · rw [if_neg hc] at hF
            refine lv_iload_n (pc := 67) hx hb dX10_round_67 rfl (lv_at hl 3 rfl) ?_
            refine lv_aload_n (pc := 68) hx hb dX10_round_68 rfl (lv_at hl 0 rfl) ?_
            refine lv_iload (pc := 69) hx hb dX10_round_69 (lv_at hl 5 rfl) ?_
            refine r_cVi (pc := 71) (As := [.int v35]) (rest := [.int v33]) CX P hl.1 hF kv_X10_267 (fun r h1 q => c_X10_weightOf l G B _ _ _ _ _ q) rfl rfl ⟨Nat.le_of_ble_eq_true rfl, Nat.le_of_ble_eq_true rfl⟩ (Nat.le_of_ble_eq_true rfl) ⟨Nat.le_of_ble_eq_true rfl, Nat.le_of_ble_eq_true rfl⟩ dX10_round_71 (fun v40 h41 H locs P hF => ?_)
            replace hF := un_i hF
            refine lv_iadd (pc := 74) hx hb dX10_round_74 ?_
            refine lv_topi (fun v42 ev42 => ?_)
            replace hF := bl_e hF ev42
            refine lv_istore_n (pc := 75) hx hb dX10_round_75 rfl hl (by decide) rfl (fun ls hl => ?_)
            replace hl : lv_has ls 8 [(3, .int v42), (0, .ref (B + a0)), (1, .int vp1), (2, .int vp2), (4, .int v34), (5, .int v35)] := hl
            refine lv_iload (pc := 76) hx hb dX10_round_76 (lv_at hl 4 rfl) ?_
            refine lv_iconst (pc := 78) (v := (-1)) hx hb dX10_round_78 (by decide) ?_
            obtain ⟨k43, ek43, hF⟩ := bl_o hF
            have hJ43 : ∀ (v49 : Int32) (h50 : Hp) (H : Heap) (locs : List Loc) (ls : Array Slot), Pic G B h50 s H locs → lv_has ls 8 [(0, .ref (B + a0)), (1, .int vp1), (2, .int vp2), (3, .int v42), (5, .int v49)] → k43 v49 h50 = some z1 → W p l e (rmM 3 68 0 0) s m args below meth c H locs 0 0 Q (F0 m 97 ls []) := by
              intro v49 h50 H locs ls P hl hF
              rw [← ek43] at hF
              dsimp only at hF
              refine lv_iload (pc := 97) hx hb dX10_round_97 (lv_at hl 4 rfl) ?_
              refine lv_istore (pc := 99) hx hb dX10_round_99 hl (by decide) rfl (fun ls hl => ?_)
              replace hl : lv_has ls 8 [(4, .int v49), (0, .ref (B + a0)), (1, .int vp1), (2, .int vp2), (3, .int v42), (5, .int v49)] := hl
              obtain ⟨v51, ev51, hF⟩ := bl_o hF
              refine lv_iinc (pc := 101) (k := 5) (v := v51) hx hb dX10_round_101 hl rfl ev51 (by decide) rfl (fun ls hl => ?_)
              replace hl : lv_has ls 8 [(5, .int v51), (4, .int v49), (0, .ref (B + a0)), (1, .int vp1), (2, .int vp2), (3, .int v42)] := hl
              refine lv_goto (pc := 104) (tgt := 8) hx hb dX10_round_104 (by decide) ?_
              exact ih _ _ _ _ _ _ _ P (lv_sub hl [2, 3, 4, 5, 1, 0] rfl) (hI1 _ (Option.some.inj hF).symm)
            refine lv_icmp_eq (pc := 79) (tgt := 97) hx hb dX10_round_79 (by decide) (fun hc => ?_) (fun hc => ?_)
            · rw [if_pos hc] at hF
              exact hJ43 _ _ _ _ _ P (lv_sub hl [1, 2, 3, 0, 5] rfl) hF
            · rw [if_neg hc] at hF
              refine lv_aload_n (pc := 82) hx hb dX10_round_82 rfl (lv_at hl 1 rfl) ?_
              refine lv_iload (pc := 83) hx hb dX10_round_83 (lv_at hl 5 rfl) ?_
              refine r_cVi (pc := 85) (As := [.int v35]) (rest := []) CX P hl.1 hF kv_X10_267 (fun r h1 q => c_X10_weightOf l G B _ _ _ _ _ q) rfl rfl ⟨Nat.le_of_ble_eq_true rfl, Nat.le_of_ble_eq_true rfl⟩ (Nat.le_of_ble_eq_true rfl) ⟨Nat.le_of_ble_eq_true rfl, Nat.le_of_ble_eq_true rfl⟩ dX10_round_85 (fun v44 h45 H locs P hF => ?_)
              replace hF := un_i hF
              refine lv_aload_n (pc := 88) hx hb dX10_round_88 rfl (lv_at hl 1 rfl) ?_
              refine lv_iload (pc := 89) hx hb dX10_round_89 (lv_at hl 4 rfl) ?_
              refine r_cVi (pc := 91) (As := [.int v34]) (rest := [.int v44]) CX P hl.1 hF kv_X10_267 (fun r h1 q => c_X10_weightOf l G B _ _ _ _ _ q) rfl rfl ⟨Nat.le_of_ble_eq_true rfl, Nat.le_of_ble_eq_true rfl⟩ (Nat.le_of_ble_eq_true rfl) ⟨Nat.le_of_ble_eq_true rfl, Nat.le_of_ble_eq_true rfl⟩ dX10_round_91 (fun v46 h47 H locs P hF => ?_)
              replace hF := un_i hF
              refine lv_icmp_le (pc := 94) (tgt := 101) hx hb dX10_round_94 (by decide) (fun hc => ?_) (fun hc => ?_)
              · rw [if_pos hc] at hF
                obtain ⟨v48, ev48, hF⟩ := bl_o hF
                refine lv_iinc (pc := 101) (k := 5) (v := v48) hx hb dX10_round_101 hl rfl ev48 (by decide) rfl (fun ls hl => ?_)
                replace hl : lv_has ls 8 [(5, .int v48), (3, .int v42), (0, .ref (B + a0)), (1, .int vp1), (2, .int vp2), (4, .int v34)] := hl
                refine lv_goto (pc := 104) (tgt := 8) hx hb dX10_round_104 (by decide) ?_
                exact ih _ _ _ _ _ _ _ P (lv_sub hl [2, 3, 4, 1, 5, 0] rfl) (hI1 _ (Option.some.inj hF).symm)
              · rw [if_neg hc] at hF
                exact hJ43 _ _ _ _ _ P (lv_sub hl [1, 2, 3, 0, 5] rfl) hF
          · rw [if_pos hc] at hF
            refine lv_goto (pc := 64) (tgt := 101) hx hb dX10_round_64 (by decide) ?_
            obtain ⟨v52, ev52, hF⟩ := bl_o hF
            refine lv_iinc (pc := 101) (k := 5) (v := v52) hx hb dX10_round_101 hl rfl ev52 (by decide) rfl (fun ls hl => ?_)
            replace hl : lv_has ls 8 [(5, .int v52), (0, .ref (B + a0)), (1, .int vp1), (2, .int vp2), (3, .int v33), (4, .int v34)] := hl
            refine lv_goto (pc := 104) (tgt := 8) hx hb dX10_round_104 (by decide) ?_
            exact ih _ _ _ _ _ _ _ P (lv_sub hl [1, 2, 3, 4, 5, 0] rfl) (hI1 _ (Option.some.inj hF).symm)
        refine lv_if_eq (pc := 28) (tgt := 52) hx hb dX10_round_28 (by decide) (fun hc => ?_) (fun hc => ?_)
        · rw [if_pos hc] at hF
          exact hJ12 _ _ _ _ _ _ _ P (lv_sub hl [0, 1, 2, 3, 4, 5] rfl) hF
        · rw [if_neg hc] at hF
          refine lv_aload_n (pc := 31) hx hb dX10_round_31 rfl (lv_at hl 0 rfl) ?_
          refine r_gR (pc := 32) CX P hF fl_X10_63 dX10_round_32 (fun a13 hF => ?_)
          refine lv_iload (pc := 35) hx hb dX10_round_35 (lv_at hl 5 rfl) ?_
          refine r_aI (pc := 37) CX P hF dX10_round_37 (fun v14 hF => ?_)
          refine lv_aload_n (pc := 38) hx hb dX10_round_38 rfl (lv_at hl 0 rfl) ?_
          refine r_gR (pc := 39) CX P hF fl_X10_60 dX10_round_39 (fun a15 hF => ?_)
          refine lv_iload (pc := 42) hx hb dX10_round_42 (lv_at hl 5 rfl) ?_
          refine r_aI (pc := 44) CX P hF dX10_round_44 (fun v16 hF => ?_)
          refine lv_icmp_ge (pc := 45) (tgt := 52) hx hb dX10_round_45 (by decide) (fun hc => ?_) (fun hc => ?_)
          · rw [if_pos hc] at hF
            exact hJ12 _ _ _ _ _ _ _ P (lv_sub hl [0, 1, 2, 3, 4, 5] rfl) hF
          · rw [if_neg hc] at hF
            refine lv_iconst (pc := 48) (v := 1) hx hb dX10_round_48 (by decide) ?_
            refine lv_goto (pc := 49) (tgt := 53) hx hb dX10_round_49 (by decide) ?_
            refine r_sB (pc := 53) CX P hF dX10_round_53 (fun h17 H locs P hF => ?_)
            refine lv_aload_n (pc := 54) hx hb dX10_round_54 rfl (lv_at hl 0 rfl) ?_
            refine r_gR (pc := 55) CX P hF fl_X10_66 dX10_round_55 (fun a18 hF => ?_)
            refine lv_iload (pc := 58) hx hb dX10_round_58 (lv_at hl 5 rfl) ?_
            refine r_aB (pc := 60) CX P hF dX10_round_60 (fun v19 hF => ?_)
            refine lv_if_ne (pc := 61) (tgt := 67) hx hb dX10_round_61 (by decide) (fun hc => ?_) (fun hc => ?_)
            · rw [if_neg hc] at hF
              refine lv_iload_n (pc := 67) hx hb dX10_round_67 rfl (lv_at hl 3 rfl) ?_
              refine lv_aload_n (pc := 68) hx hb dX10_round_68 rfl (lv_at hl 0 rfl) ?_
              refine lv_iload (pc := 69) hx hb dX10_round_69 (lv_at hl 5 rfl) ?_
              refine r_cVi (pc := 71) (As := [.int v7]) (rest := [.int v5]) CX P hl.1 hF kv_X10_267 (fun r h1 q => c_X10_weightOf l G B _ _ _ _ _ q) rfl rfl ⟨Nat.le_of_ble_eq_true rfl, Nat.le_of_ble_eq_true rfl⟩ (Nat.le_of_ble_eq_true rfl) ⟨Nat.le_of_ble_eq_true rfl, Nat.le_of_ble_eq_true rfl⟩ dX10_round_71 (fun v20 h21 H locs P hF => ?_)
              replace hF := un_i hF
              refine lv_iadd (pc := 74) hx hb dX10_round_74 ?_
              refine lv_topi (fun v22 ev22 => ?_)
              replace hF := bl_e hF ev22
              refine lv_istore_n (pc := 75) hx hb dX10_round_75 rfl hl (by decide) rfl (fun ls hl => ?_)
              replace hl : lv_has ls 8 [(3, .int v22), (0, .ref (B + a0)), (1, .int vp1), (2, .int vp2), (4, .int v6), (5, .int v7)] := hl
              refine lv_iload (pc := 76) hx hb dX10_round_76 (lv_at hl 4 rfl) ?_
              refine lv_iconst (pc := 78) (v := (-1)) hx hb dX10_round_78 (by decide) ?_
              obtain ⟨k23, ek23, hF⟩ := bl_o hF
              have hJ23 : ∀ (v29 : Int32) (h30 : Hp) (H : Heap) (locs : List Loc) (ls : Array Slot), Pic G B h30 s H locs → lv_has ls 8 [(0, .ref (B + a0)), (1, .int vp1), (2, .int vp2), (3, .int v22), (5, .int v29)] → k23 v29 h30 = some z1 → W p l e (rmM 3 68 0 0) s m args below meth c H locs 0 0 Q (F0 m 97 ls []) := by
                intro v29 h30 H locs ls P hl hF
                rw [← ek23] at hF
                dsimp only at hF
                refine lv_iload (pc := 97) hx hb dX10_round_97 (lv_at hl 4 rfl) ?_
                refine lv_istore (pc := 99) hx hb dX10_round_99 hl (by decide) rfl (fun ls hl => ?_)
                replace hl : lv_has ls 8 [(4, .int v29), (0, .ref (B + a0)), (1, .int vp1), (2, .int vp2), (3, .int v22), (5, .int v29)] := hl
                obtain ⟨v31, ev31, hF⟩ := bl_o hF
                refine lv_iinc (pc := 101) (k := 5) (v := v31) hx hb dX10_round_101 hl rfl ev31 (by decide) rfl (fun ls hl => ?_)
                replace hl : lv_has ls 8 [(5, .int v31), (4, .int v29), (0, .ref (B + a0)), (1, .int vp1), (2, .int vp2), (3, .int v22)] := hl
                refine lv_goto (pc := 104) (tgt := 8) hx hb dX10_round_104 (by decide) ?_
                exact ih _ _ _ _ _ _ _ P (lv_sub hl [2, 3, 4, 5, 1, 0] rfl) (hI1 _ (Option.some.inj hF).symm)
              refine lv_icmp_eq (pc := 79) (tgt := 97) hx hb dX10_round_79 (by decide) (fun hc => ?_) (fun hc => ?_)
              · rw [if_pos hc] at hF
                exact hJ23 _ _ _ _ _ P (lv_sub hl [1, 2, 3, 0, 5] rfl) hF
              · rw [if_neg hc] at hF
                refine lv_aload_n (pc := 82) hx hb dX10_round_82 rfl (lv_at hl 1 rfl) ?_
                refine lv_iload (pc := 83) hx hb dX10_round_83 (lv_at hl 5 rfl) ?_
                refine r_cVi (pc := 85) (As := [.int v7]) (rest := []) CX P hl.1 hF kv_X10_267 (fun r h1 q => c_X10_weightOf l G B _ _ _ _ _ q) rfl rfl ⟨Nat.le_of_ble_eq_true rfl, Nat.le_of_ble_eq_true rfl⟩ (Nat.le_of_ble_eq_true rfl) ⟨Nat.le_of_ble_eq_true rfl, Nat.le_of_ble_eq_true rfl⟩ dX10_round_85 (fun v24 h25 H locs P hF => ?_)
                replace hF := un_i hF
                refine lv_aload_n (pc := 88) hx hb dX10_round_88 rfl (lv_at hl 1 rfl) ?_
                refine lv_iload (pc := 89) hx hb dX10_round_89 (lv_at hl 4 rfl) ?_
                refine r_cVi (pc := 91) (As := [.int v6]) (rest := [.int v24]) CX P hl.1 hF kv_X10_267 (fun r h1 q => c_X10_weightOf l G B _ _ _ _ _ q) rfl rfl ⟨Nat.le_of_ble_eq_true rfl, Nat.le_of_ble_eq_true rfl⟩ (Nat.le_of_ble_eq_true rfl) ⟨Nat.le_of_ble_eq_true rfl, Nat.le_of_ble_eq_true rfl⟩ dX10_round_91 (fun v26 h27 H locs P hF => ?_)
                replace hF := un_i hF
                refine lv_icmp_le (pc := 94) (tgt := 101) hx hb dX10_round_94 (by decide) (fun hc => ?_) (fun hc => ?_)
                · rw [if_pos hc] at hF
                  obtain ⟨v28, ev28, hF⟩ := bl_o hF
                  refine lv_iinc (pc := 101) (k := 5) (v := v28) hx hb dX10_round_101 hl rfl ev28 (by decide) rfl (fun ls hl => ?_)
                  replace hl : lv_has ls 8 [(5, .int v28), (3, .int v22), (0, .ref (B + a0)), (1, .int vp1), (2, .int vp2), (4, .int v6)] := hl
                  refine lv_goto (pc := 104) (tgt := 8) hx hb dX10_round_104 (by decide) ?_
                  exact ih _ _ _ _ _ _ _ P (lv_sub hl [2, 3, 4, 1, 5, 0] rfl) (hI1 _ (Option.some.inj hF).symm)
                · rw [if_neg hc] at hF
                  exact hJ23 _ _ _ _ _ P (lv_sub hl [1, 2, 3, 0, 5] rfl) hF
            · rw [if_pos hc] at hF
              refine lv_goto (pc := 64) (tgt := 101) hx hb dX10_round_64 (by decide) ?_
              obtain ⟨v32, ev32, hF⟩ := bl_o hF
              refine lv_iinc (pc := 101) (k := 5) (v := v32) hx hb dX10_round_101 hl rfl ev32 (by decide) rfl (fun ls hl => ?_)
              replace hl : lv_has ls 8 [(5, .int v32), (0, .ref (B + a0)), (1, .int vp1), (2, .int vp2), (3, .int v5), (4, .int v6)] := hl
              refine lv_goto (pc := 104) (tgt := 8) hx hb dX10_round_104 (by decide) ?_
              exact ih _ _ _ _ _ _ _ P (lv_sub hl [1, 2, 3, 4, 5, 0] rfl) (hI1 _ (Option.some.inj hF).symm)
  exact hL1 _ _ _ _ _ _ _ _ P (lv_sub hl [3, 4, 5, 2, 1, 0] rfl) hLp1
