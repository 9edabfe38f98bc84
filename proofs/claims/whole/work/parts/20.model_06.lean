def F_X10_remove_L86 (a21 : Nat) (v22 : Int32) (v23 : Int32) (v24 : Int32) (v25 : Int32) (v26 : Int32) (v27 : Int32) (h28 : Hp) : Option ((Int32 × Hp) ⊕ (Hp)) :=
if 4 ≤ v27 then (
some (.inr h28)) else (
(gR h28 a21 10 1).bind fun a29 =>
(gR h28 a21 10 1).bind fun a30 =>
(aI h28 a30 (v26 + v27)).bind fun v31 =>
(sI h28 a29 ((543 + (4 * v24)) + v27) v31).bind fun h32 =>
bl (v27 + 1) fun v33 =>
some (.inl (v33, h32)))
def F_X10_remove_L46 (a9 : Nat) (v10 : Int32) (v11 : Int32) (v12 : Int32) (v13 : Int32) (h14 : Hp) : Option ((Int32 × Int32 × Hp) ⊕ (Int32 × Hp)) :=
(gR h14 a9 10 1).bind fun a15 =>
(aI h14 a15 4).bind fun v16 =>
if v16 ≤ v13 then (
some (.inr (v12, h14))) else (
bl (543 + (4 * v13)) fun v17 =>
(gR h14 a9 10 1).bind fun a18 =>
(aI h14 a18 (v17 + 0)).bind fun v19 =>
if v19 = v10 then (
bl (v13 + 1) fun v37 =>
some (.inl (v12, v37, h14))) else (
(loopF (fun x => F_X10_remove_L86 a9 v10 v11 v12 v13 v17 x.1 x.2) 6000 (0, h14)).bind fun h34 =>
bl (v12 + 1) fun v35 =>
bl (v13 + 1) fun v36 =>
some (.inl (v35, v36, h34))))
def F_X10_remove_L156 (a46 : Nat) (v47 : Int32) (v48 : Int32) (v49 : Int32) (h50 : Hp) : Option ((Int32 × Hp) ⊕ (Hp)) :=
if 34 ≤ v49 then (
some (.inr h50)) else (
(cO h50 a46 10 (F_X10_lays h50 a46 v47 v49 0)).bind fun h51 =>
bl (v49 + 1) fun v52 =>
some (.inl (v52, h51)))
def F_X10_remove (h : Hp) (a0 : Nat) (vp1 : Int32) : Option (Int32 × Hp) :=
(pI h a0 10 0 0).bind fun h1 =>
(cO h1 a0 10 (F_X10_isGroup h1 a0 vp1)).bind fun v2 =>
if v2 = 0 then (
some ((-2), h1)) else (
if vp1 = 0 then (
some ((-5), h1)) else (
(cO h1 a0 10 (F_X10_isInUse h1 a0 vp1)).bind (un fun v3 h4 =>
if v3 = 0 then (
(cO h4 a0 10 (F_X10_begins h4 a0)).bind fun h5 =>
(cO h5 a0 10 (F_X10_parentOf h5 a0 vp1)).bind (un fun v6 h7 =>
(loopF (fun x => F_X10_remove_L46 a0 vp1 v6 x.1 x.2.1 x.2.2) 6000 (0, 0, h7)).bind fun q8 =>
bl q8.1 fun v38 =>
bl q8.2 fun h39 =>
(gR h39 a0 10 1).bind fun a40 =>
(sI h39 a40 4 v38).bind fun h41 =>
(gR h41 a0 10 1).bind fun a42 =>
(aI h41 a42 0).bind fun v43 =>
(sI h41 a42 0 (v43 &&& ((1 <<< (vp1 &&& 31)) ^^^ (-1)))).bind fun h44 =>
(loopF (fun x => F_X10_remove_L156 a0 vp1 v6 x.1 x.2) 6000 (0, h44)).bind fun h53 =>
(cO h53 a0 10 (F_X10_ends h53 a0 v6 1)).bind (un fun v54 h55 =>
some (v54, h55)))) else (
some ((-5), h4)))))
set_option maxRecDepth 100000 in
set_option maxHeartbeats 4000000 in
theorem c_X10_remove (l : Launch) (G : GG) (B : Nat) (h : Hp) (a0 : Nat) (vp1 : Int32) (r0 : Int32) (hr : Hp) (hF : F_X10_remove h a0 vp1 = some (r0, hr)) : CI l yX10_remove cX10_remove 7 .int 3 68 0 0 G B h [.ref (B + a0), .int vp1] r0 hr := by
  refine ent_i rfl (Nat.le_of_ble_eq_true rfl) ?_
  intro p e s m args below meth c ls Q CX hnm hret P hl
  have CX : Cxt p m c cX10_remove 7 s args RX10 G B := CX
  obtain ⟨⟨hx, hb, hml, hown, hts⟩, -, -⟩ := id CX
  replace hl : lv_has ls 7 [(0, .ref (B + a0)), (1, .int vp1)] := hl
  generalize s.heap = H at P ⊢
  generalize ([] : List Loc) = locs at P ⊢
  unfold F_X10_remove at hF
  refine lv_aload_n (pc := 0) hx hb dX10_remove_0 rfl (lv_at hl 0 rfl) ?_
  refine lv_iconst (pc := 1) (v := 0) hx hb dX10_remove_1 (by decide) ?_
  refine r_pI (pc := 2) CX P hF fl_X10_1 dX10_remove_2 (fun h1 H locs P hF => ?_)
  refine lv_aload_n (pc := 5) hx hb dX10_remove_5 rfl (lv_at hl 0 rfl) ?_
  refine lv_iload_n (pc := 6) hx hb dX10_remove_6 rfl (lv_at hl 1 rfl) ?_
  refine r_cVp (pc := 7) (As := [.int vp1]) (rest := []) CX P hl.1 hF kv_X10_107 (fun r q => c_X10_isGroup l G B _ _ _ _ q) rfl rfl ⟨Nat.le_of_ble_eq_true rfl, Nat.le_of_ble_eq_true rfl⟩ (Nat.le_of_ble_eq_true rfl) ⟨Nat.le_of_ble_eq_true rfl, Nat.le_of_ble_eq_true rfl⟩ dX10_remove_7 (fun v2 H locs P hF => ?_)
  refine lv_if_ne (pc := 10) (tgt := 16) hx hb dX10_remove_10 (by decide) (fun hc => ?_) (fun hc => ?_)
  · rw [if_neg hc] at hF
    refine lv_iload_n (pc := 16) hx hb dX10_remove_16 rfl (lv_at hl 1 rfl) ?_
    refine lv_if_eq (pc := 17) (tgt := 28) hx hb dX10_remove_17 (by decide) (fun hc => ?_) (fun hc => ?_)
    · rw [if_pos hc] at hF
      refine lv_bipush (pc := 28) (v := (-5)) hx hb dX10_remove_28 (by decide) ?_
      cases hF
      exact hret _ _ _ _ P rfl dX10_remove_30
    · rw [if_neg hc] at hF
      refine lv_aload_n (pc := 20) hx hb dX10_remove_20 rfl (lv_at hl 0 rfl) ?_
      refine lv_iload_n (pc := 21) hx hb dX10_remove_21 rfl (lv_at hl 1 rfl) ?_
      refine r_cVi (pc := 22) (As := [.int vp1]) (rest := []) CX P hl.1 hF kv_X10_218 (fun r h1 q => c_X10_isInUse l G B _ _ _ _ _ q) rfl rfl ⟨Nat.le_of_ble_eq_true rfl, Nat.le_of_ble_eq_true rfl⟩ (Nat.le_of_ble_eq_true rfl) ⟨Nat.le_of_ble_eq_true rfl, Nat.le_of_ble_eq_true rfl⟩ dX10_remove_22 (fun v3 h4 H locs P hF => ?_)
      replace hF := un_i hF
      refine lv_if_eq (pc := 25) (tgt := 31) hx hb dX10_remove_25 (by decide) (fun hc => ?_) (fun hc => ?_)
      · rw [if_pos hc] at hF
        refine lv_aload_n (pc := 31) hx hb dX10_remove_31 rfl (lv_at hl 0 rfl) ?_
        refine r_cVv (pc := 32) (As := []) (rest := []) CX P hl.1 hF kv_X10_211 (fun h1 q => c_X10_begins l G B _ _ _ q) rfl rfl ⟨Nat.le_of_ble_eq_true rfl, Nat.le_of_ble_eq_true rfl⟩ (Nat.le_of_ble_eq_true rfl) ⟨Nat.le_of_ble_eq_true rfl, Nat.le_of_ble_eq_true rfl⟩ dX10_remove_32 (fun h5 H locs P hF => ?_)
        refine lv_aload_n (pc := 35) hx hb dX10_remove_35 rfl (lv_at hl 0 rfl) ?_
        refine lv_iload_n (pc := 36) hx hb dX10_remove_36 rfl (lv_at hl 1 rfl) ?_
        refine r_cVi (pc := 37) (As := [.int vp1]) (rest := []) CX P hl.1 hF kv_X10_103 (fun r h1 q => c_X10_parentOf l G B _ _ _ _ _ q) rfl rfl ⟨Nat.le_of_ble_eq_true rfl, Nat.le_of_ble_eq_true rfl⟩ (Nat.le_of_ble_eq_true rfl) ⟨Nat.le_of_ble_eq_true rfl, Nat.le_of_ble_eq_true rfl⟩ dX10_remove_37 (fun v6 h7 H locs P hF => ?_)
        replace hF := un_i hF
        refine lv_istore_n (pc := 40) hx hb dX10_remove_40 rfl hl (by decide) rfl (fun ls hl => ?_)
        replace hl : lv_has ls 7 [(2, .int v6), (0, .ref (B + a0)), (1, .int vp1)] := hl
        refine lv_iconst (pc := 41) (v := 0) hx hb dX10_remove_41 (by decide) ?_
        refine lv_istore_n (pc := 42) hx hb dX10_remove_42 rfl hl (by decide) rfl (fun ls hl => ?_)
        replace hl : lv_has ls 7 [(3, .int 0), (2, .int v6), (0, .ref (B + a0)), (1, .int vp1)] := hl
        refine lv_iconst (pc := 43) (v := 0) hx hb dX10_remove_43 (by decide) ?_
        refine lv_istore (pc := 44) hx hb dX10_remove_44 hl (by decide) rfl (fun ls hl => ?_)
        replace hl : lv_has ls 7 [(4, .int 0), (3, .int 0), (2, .int v6), (0, .ref (B + a0)), (1, .int vp1)] := hl
        obtain ⟨r8, hLp8, hK8⟩ := bd_some hF
        have hX8 : ∀ (v38 : Int32) (h39 : Hp) (H : Heap) (locs : List Loc) (ls : Array Slot), Pic G B h39 s H locs → lv_has ls 7 [(0, .ref (B + a0)), (1, .int vp1), (2, .int v6), (3, .int v38)] → (v38, h39) = r8 → W p l e (rmM 3 68 0 0) s m args below meth c H locs 0 0 Q (F0 m 132 ls []) := by
          intro v38 h39 H locs ls P hl er
          subst er
          have hF := hK8
          replace hF := bl_i hF
          replace hF := bl_i hF
          try dsimp only at hF
          refine lv_aload_n (pc := 132) hx hb dX10_remove_132 rfl (lv_at hl 0 rfl) ?_
          refine r_gR (pc := 133) CX P hF fl_X10_13 dX10_remove_133 (fun a40 hF => ?_)
          refine lv_iconst (pc := 136) (v := 4) hx hb dX10_remove_136 (by decide) ?_
          refine lv_iload_n (pc := 137) hx hb dX10_remove_137 rfl (lv_at hl 3 rfl) ?_
          refine r_sI (pc := 138) CX P hF dX10_remove_138 (fun h41 H locs P hF => ?_)
          refine lv_aload_n (pc := 139) hx hb dX10_remove_139 rfl (lv_at hl 0 rfl) ?_
          refine r_gR (pc := 140) CX P hF fl_X10_13 dX10_remove_140 (fun a42 hF => ?_)
          refine lv_iconst (pc := 143) (v := 0) hx hb dX10_remove_143 (by decide) ?_
          refine lv_dup2_11 (pc := 144) hx hb dX10_remove_144 rfl rfl ?_
          refine r_aI (pc := 145) CX P hF dX10_remove_145 (fun v43 hF => ?_)
          refine lv_iconst (pc := 146) (v := 1) hx hb dX10_remove_146 (by decide) ?_
          refine lv_iload_n (pc := 147) hx hb dX10_remove_147 rfl (lv_at hl 1 rfl) ?_
          refine lv_ishl (pc := 148) hx hb dX10_remove_148 ?_
          refine lv_iconst (pc := 149) (v := (-1)) hx hb dX10_remove_149 (by decide) ?_
          refine lv_ixor (pc := 150) hx hb dX10_remove_150 ?_
          refine lv_iand (pc := 151) hx hb dX10_remove_151 ?_
          refine r_sI (pc := 152) CX P hF dX10_remove_152 (fun h44 H locs P hF => ?_)
          refine lv_iconst (pc := 153) (v := 0) hx hb dX10_remove_153 (by decide) ?_
          refine lv_istore (pc := 154) hx hb dX10_remove_154 hl (by decide) rfl (fun ls hl => ?_)
          replace hl : lv_has ls 7 [(4, .int 0), (0, .ref (B + a0)), (1, .int vp1), (2, .int v6), (3, .int v38)] := hl
          obtain ⟨r45, hLp45, hK45⟩ := bd_some hF
          have hX45 : ∀ (h53 : Hp) (H : Heap) (locs : List Loc) (ls : Array Slot), Pic G B h53 s H locs → lv_has ls 7 [(0, .ref (B + a0)), (2, .int v6)] → h53 = r45 → W p l e (rmM 3 68 0 0) s m args below meth c H locs 0 0 Q (F0 m 177 ls []) := by
            intro h53 H locs ls P hl er
            subst er
            have hF := hK45
            refine lv_aload_n (pc := 177) hx hb dX10_remove_177 rfl (lv_at hl 0 rfl) ?_
            refine lv_iload_n (pc := 178) hx hb dX10_remove_178 rfl (lv_at hl 1 rfl) ?_
            refine lv_iconst (pc := 179) (v := 1) hx hb dX10_remove_179 (by decide) ?_
            refine r_cVi (pc := 180) (As := [.int v6, .int 1]) (rest := []) CX P hl.1 hF kv_X10_214 (fun r h1 q => c_X10_ends l G B _ _ _ _ _ _ q) rfl rfl ⟨Nat.le_of_ble_eq_true rfl, Nat.le_of_ble_eq_true rfl⟩ (Nat.le_of_ble_eq_true rfl) ⟨Nat.le_of_ble_eq_true rfl, Nat.le_of_ble_eq_true rfl⟩ dX10_remove_180 (fun v54 h55 H locs P hF => ?_)
            replace hF := un_i hF
            cases hF
            exact hret _ _ _ _ P rfl dX10_remove_183
          have hL45 : ∀ (n : Nat) (v49 : Int32) (h50 : Hp) (H : Heap) (locs : List Loc) (ls : Array Slot), Pic G B h50 s H locs → lv_has ls 7 [(0, .ref (B + a0)), (1, .int vp1), (2, .int v6), (4, .int v49)] → loopF (fun x => F_X10_remove_L156 a0 vp1 v6 x.1 x.2) n (v49, h50) = some r45 → W p l e (rmM 3 68 0 0) s m args below meth c H locs 0 0 Q (F0 m 156 ls []) := by
            intro n
            induction n with
            | zero => intro v49 h50 H locs ls P hl hq; cases hq
            | succ n ih =>
              intro v49 h50 H locs ls P hl hq
              obtain ⟨z45, hS45, hI45, hR45⟩ := loop_some hq
              have hF : F_X10_remove_L156 a0 vp1 v6 v49 h50 = some z45 := hS45
              unfold F_X10_remove_L156 at hF
              refine lv_iload (pc := 156) hx hb dX10_remove_156 (lv_at hl 3 rfl) ?_
              refine lv_bipush (pc := 158) (v := 34) hx hb dX10_remove_158 (by decide) ?_
              refine lv_icmp_ge (pc := 160) (tgt := 177) hx hb dX10_remove_160 (by decide) (fun hc => ?_) (fun hc => ?_)
              · rw [if_pos hc] at hF
                exact hX45 _ _ _ _ P (lv_sub hl [0, 2] rfl) (hR45 _ (Option.some.inj hF).symm)
              · rw [if_neg hc] at hF
                refine lv_aload_n (pc := 163) hx hb dX10_remove_163 rfl (lv_at hl 0 rfl) ?_
                refine lv_iload_n (pc := 164) hx hb dX10_remove_164 rfl (lv_at hl 1 rfl) ?_
                refine lv_iload (pc := 165) hx hb dX10_remove_165 (lv_at hl 3 rfl) ?_
                refine lv_iconst (pc := 167) (v := 0) hx hb dX10_remove_167 (by decide) ?_
                refine r_cVv (pc := 168) (As := [.int vp1, .int v49, .int 0]) (rest := []) CX P hl.1 hF kv_X10_95 (fun h1 q => c_X10_lays l G B _ _ _ _ _ _ q) rfl rfl ⟨Nat.le_of_ble_eq_true rfl, Nat.le_of_ble_eq_true rfl⟩ (Nat.le_of_ble_eq_true rfl) ⟨Nat.le_of_ble_eq_true rfl, Nat.le_of_ble_eq_true rfl⟩ dX10_remove_168 (fun h51 H locs P hF => ?_)
                obtain ⟨v52, ev52, hF⟩ := bl_o hF
                refine lv_iinc (pc := 171) (k := 3) (v := v52) hx hb dX10_remove_171 hl rfl ev52 (by decide) rfl (fun ls hl => ?_)
                replace hl : lv_has ls 7 [(4, .int v52), (0, .ref (B + a0)), (1, .int vp1), (2, .int v6)] := hl
                refine lv_goto (pc := 174) (tgt := 156) hx hb dX10_remove_174 (by decide) ?_
                exact ih _ _ _ _ _ P (lv_sub hl [1, 2, 3, 0] rfl) (hI45 _ (Option.some.inj hF).symm)
          exact hL45 _ _ _ _ _ _ P (lv_sub hl [1, 2, 3, 0] rfl) hLp45
        have hL8 : ∀ (n : Nat) (v12 : Int32) (v13 : Int32) (h14 : Hp) (H : Heap) (locs : List Loc) (ls : Array Slot), Pic G B h14 s H locs → lv_has ls 7 [(0, .ref (B + a0)), (1, .int vp1), (2, .int v6), (3, .int v12), (4, .int v13)] → loopF (fun x => F_X10_remove_L46 a0 vp1 v6 x.1 x.2.1 x.2.2) n (v12, v13, h14) = some r8 → W p l e (rmM 3 68 0 0) s m args below meth c H locs 0 0 Q (F0 m 46 ls []) := by
          intro n
          induction n with
          | zero => intro v12 v13 h14 H locs ls P hl hq; cases hq
          | succ n ih =>
            intro v12 v13 h14 H locs ls P hl hq
            obtain ⟨z8, hS8, hI8, hR8⟩ := loop_some hq
            have hF : F_X10_remove_L46 a0 vp1 v6 v12 v13 h14 = some z8 := hS8
            unfold F_X10_remove_L46 at hF
            refine lv_iload (pc := 46) hx hb dX10_remove_46 (lv_at hl 4 rfl) ?_
            refine lv_aload_n (pc := 48) hx hb dX10_remove_48 rfl (lv_at hl 0 rfl) ?_
            refine r_gR (pc := 49) CX P hF fl_X10_13 dX10_remove_49 (fun a15 hF => ?_)
            refine lv_iconst (pc := 52) (v := 4) hx hb dX10_remove_52 (by decide) ?_
            refine r_aI (pc := 53) CX P hF dX10_remove_53 (fun v16 hF => ?_)
            refine lv_icmp_ge (pc := 54) (tgt := 132) hx hb dX10_remove_54 (by decide) (fun hc => ?_) (fun hc => ?_)
            · rw [if_pos hc] at hF
              exact hX8 _ _ _ _ _ P (lv_sub hl [0, 1, 2, 3] rfl) (hR8 _ (Option.some.inj hF).symm)
            · rw [if_neg hc] at hF
              refine lv_sipush (pc := 57) (v := 543) hx hb dX10_remove_57 (by decide) ?_
              refine lv_iconst (pc := 60) (v := 4) hx hb dX10_remove_60 (by decide) ?_
              refine lv_iload (pc := 61) hx hb dX10_remove_61 (lv_at hl 4 rfl) ?_
              refine lv_imul (pc := 63) hx hb dX10_remove_63 ?_
              refine lv_iadd (pc := 64) hx hb dX10_remove_64 ?_
              refine lv_topi (fun v17 ev17 => ?_)
              replace hF := bl_e hF ev17
              refine lv_istore (pc := 65) hx hb dX10_remove_65 hl (by decide) rfl (fun ls hl => ?_)
              replace hl : lv_has ls 7 [(5, .int v17), (0, .ref (B + a0)), (1, .int vp1), (2, .int v6), (3, .int v12), (4, .int v13)] := hl
              refine lv_aload_n (pc := 67) hx hb dX10_remove_67 rfl (lv_at hl 1 rfl) ?_
              refine r_gR (pc := 68) CX P hF fl_X10_13 dX10_remove_68 (fun a18 hF => ?_)
              refine lv_iload (pc := 71) hx hb dX10_remove_71 (lv_at hl 0 rfl) ?_
              refine lv_iconst (pc := 73) (v := 0) hx hb dX10_remove_73 (by decide) ?_
              refine lv_iadd (pc := 74) hx hb dX10_remove_74 ?_
              refine r_aI (pc := 75) CX P hF dX10_remove_75 (fun v19 hF => ?_)
              refine lv_iload_n (pc := 76) hx hb dX10_remove_76 rfl (lv_at hl 2 rfl) ?_
              refine lv_icmp_ne (pc := 77) (tgt := 83) hx hb dX10_remove_77 (by decide) (fun hc => ?_) (fun hc => ?_)
              · rw [if_neg hc] at hF
                refine lv_iconst (pc := 83) (v := 0) hx hb dX10_remove_83 (by decide) ?_
                refine lv_istore (pc := 84) hx hb dX10_remove_84 hl (by decide) rfl (fun ls hl => ?_)
                replace hl : lv_has ls 7 [(6, .int 0), (5, .int v17), (0, .ref (B + a0)), (1, .int vp1), (2, .int v6), (3, .int v12), (4, .int v13)] := hl
                obtain ⟨r20, hLp20, hK20⟩ := bd_some hF
                have hX20 : ∀ (h34 : Hp) (H : Heap) (locs : List Loc) (ls : Array Slot), Pic G B h34 s H locs → lv_has ls 7 [(0, .ref (B + a0)), (1, .int vp1), (2, .int v6), (3, .int v12), (4, .int v13)] → h34 = r20 → W p l e (rmM 3 68 0 0) s m args below meth c H locs 0 0 Q (F0 m 123 ls []) := by
                  intro h34 H locs ls P hl er
                  subst er
                  have hF := hK20
                  obtain ⟨v35, ev35, hF⟩ := bl_o hF
                  refine lv_iinc (pc := 123) (k := 3) (v := v35) hx hb dX10_remove_123 hl rfl ev35 (by decide) rfl (fun ls hl => ?_)
                  replace hl : lv_has ls 7 [(3, .int v35), (0, .ref (B + a0)), (1, .int vp1), (2, .int v6), (4, .int v13)] := hl
                  obtain ⟨v36, ev36, hF⟩ := bl_o hF
                  refine lv_iinc (pc := 126) (k := 4) (v := v36) hx hb dX10_remove_126 hl rfl ev36 (by decide) rfl (fun ls hl => ?_)
                  replace hl : lv_has ls 7 [(4, .int v36), (3, .int v35), (0, .ref (B + a0)), (1, .int vp1), (2, .int v6)] := hl
                  refine lv_goto (pc := 129) (tgt := 46) hx hb dX10_remove_129 (by decide) ?_
                  exact ih _ _ _ _ _ _ P (lv_sub hl [2, 3, 4, 1, 0] rfl) (hI8 _ (Option.some.inj hF).symm)
                have hL20 : ∀ (n : Nat) (v27 : Int32) (h28 : Hp) (H : Heap) (locs : List Loc) (ls : Array Slot), Pic G B h28 s H locs → lv_has ls 7 [(0, .ref (B + a0)), (1, .int vp1), (2, .int v6), (3, .int v12), (4, .int v13), (5, .int v17), (6, .int v27)] → loopF (fun x => F_X10_remove_L86 a0 vp1 v6 v12 v13 v17 x.1 x.2) n (v27, h28) = some r20 → W p l e (rmM 3 68 0 0) s m args below meth c H locs 0 0 Q (F0 m 86 ls []) := by
                  intro n
                  induction n with
                  | zero => intro v27 h28 H locs ls P hl hq; cases hq
                  | succ n ih =>
                    intro v27 h28 H locs ls P hl hq
                    obtain ⟨z20, hS20, hI20, hR20⟩ := loop_some hq
                    have hF : F_X10_remove_L86 a0 vp1 v6 v12 v13 v17 v27 h28 = some z20 := hS20
                    unfold F_X10_remove_L86 at hF
                    refine lv_iload (pc := 86) hx hb dX10_remove_86 (lv_at hl 6 rfl) ?_
                    refine lv_iconst (pc := 88) (v := 4) hx hb dX10_remove_88 (by decide) ?_
                    refine lv_icmp_ge (pc := 89) (tgt := 123) hx hb dX10_remove_89 (by decide) (fun hc => ?_) (fun hc => ?_)
                    · rw [if_pos hc] at hF
                      exact hX20 _ _ _ _ P (lv_sub hl [0, 1, 2, 3, 4] rfl) (hR20 _ (Option.some.inj hF).symm)
                    · rw [if_neg hc] at hF
                      refine lv_aload_n (pc := 92) hx hb dX10_remove_92 rfl (lv_at hl 0 rfl) ?_
                      refine r_gR (pc := 93) CX P hF fl_X10_13 dX10_remove_93 (fun a29 hF => ?_)
                      refine lv_sipush (pc := 96) (v := 543) hx hb dX10_remove_96 (by decide) ?_
                      refine lv_iconst (pc := 99) (v := 4) hx hb dX10_remove_99 (by decide) ?_
                      refine lv_iload_n (pc := 100) hx hb dX10_remove_100 rfl (lv_at hl 3 rfl) ?_
                      refine lv_imul (pc := 101) hx hb dX10_remove_101 ?_
                      refine lv_iadd (pc := 102) hx hb dX10_remove_102 ?_
                      refine lv_iload (pc := 103) hx hb dX10_remove_103 (lv_at hl 6 rfl) ?_
                      refine lv_iadd (pc := 105) hx hb dX10_remove_105 ?_
                      refine lv_aload_n (pc := 106) hx hb dX10_remove_106 rfl (lv_at hl 0 rfl) ?_
                      refine r_gR (pc := 107) CX P hF fl_X10_13 dX10_remove_107 (fun a30 hF => ?_)
                      refine lv_iload (pc := 110) hx hb dX10_remove_110 (lv_at hl 5 rfl) ?_
                      refine lv_iload (pc := 112) hx hb dX10_remove_112 (lv_at hl 6 rfl) ?_
                      refine lv_iadd (pc := 114) hx hb dX10_remove_114 ?_
                      refine r_aI (pc := 115) CX P hF dX10_remove_115 (fun v31 hF => ?_)
                      refine r_sI (pc := 116) CX P hF dX10_remove_116 (fun h32 H locs P hF => ?_)
                      obtain ⟨v33, ev33, hF⟩ := bl_o hF
                      refine lv_iinc (pc := 117) (k := 6) (v := v33) hx hb dX10_remove_117 hl rfl ev33 (by decide) rfl (fun ls hl => ?_)
                      replace hl : lv_has ls 7 [(6, .int v33), (0, .ref (B + a0)), (1, .int vp1), (2, .int v6), (3, .int v12), (4, .int v13), (5, .int v17)] := hl
                      refine lv_goto (pc := 120) (tgt := 86) hx hb dX10_remove_120 (by decide) ?_
                      exact ih _ _ _ _ _ P (lv_sub hl [1, 2, 3, 4, 5, 6, 0] rfl) (hI20 _ (Option.some.inj hF).symm)
                exact hL20 _ _ _ _ _ _ P (lv_sub hl [2, 3, 4, 5, 6, 1, 0] rfl) hLp20
              · rw [if_pos hc] at hF
                refine lv_goto (pc := 80) (tgt := 126) hx hb dX10_remove_80 (by decide) ?_
                obtain ⟨v37, ev37, hF⟩ := bl_o hF
                refine lv_iinc (pc := 126) (k := 5) (v := v37) hx hb dX10_remove_126 hl rfl ev37 (by decide) rfl (fun ls hl => ?_)
                replace hl : lv_has ls 7 [(4, .int v37), (5, .int v17), (0, .ref (B + a0)), (1, .int vp1), (2, .int v6), (3, .int v12)] := hl
                refine lv_goto (pc := 129) (tgt := 46) hx hb dX10_remove_129 (by decide) ?_
                exact ih _ _ _ _ _ _ P (lv_sub hl [2, 3, 4, 5, 0] rfl) (hI8 _ (Option.some.inj hF).symm)
        exact hL8 _ _ _ _ _ _ _ P (lv_sub hl [3, 4, 2, 1, 0] rfl) hLp8
      · rw [if_neg hc] at hF
        refine lv_bipush (pc := 28) (v := (-5)) hx hb dX10_remove_28 (by decide) ?_
        cases hF
        exact hret _ _ _ _ P rfl dX10_remove_30
  · rw [if_pos hc] at hF
    refine lv_bipush (pc := 13) (v := (-2)) hx hb dX10_remove_13 (by decide) ?_
    cases hF
    exact hret _ _ _ _ P rfl dX10_remove_15
def F_X10_limits_L40 (a17 : Nat) (v18 : Int32) (v19 : Int32) (v20 : Int32) (h21 : Hp) : Option ((Hp) ⊕ ((Int32 × Hp) ⊕ (Hp))) :=
if v19 = 3 then (
(cO h21 a17 10 (F_X10_totalOf h21 a17 v18)).bind (un fun v22 h23 =>
if v22 ≤ v20 then (
some (.inr (.inr h23))) else (
(cO h23 a17 10 (F_X10_deathBelow h23 a17 v18)).bind (un fun v24 h25 =>
if v24 = 0 then (
some (.inr (.inl (0, h25)))) else (
some (.inl h25)))))) else (
some (.inr (.inr h21)))
def F_X10_limits (h : Hp) (a0 : Nat) (vp1 : Int32) (vp2 : Int32) (vp3 : Int32) : Option (Int32 × Hp) :=
(cO h a0 10 (F_X10_lays h a0 vp1 vp2 vp3)).bind fun h1 =>
(if vp2 = 2 then (
(cO h1 a0 10 (F_X10_totalOf h1 a0 vp1)).bind (un fun v3 h4 =>
if v3 ≤ vp3 then (
some h4) else (
(cO h4 a0 10 (F_X10_totalOf h4 a0 vp1)).bind (un fun v5 h6 =>
(cO h6 a0 10 (F_X10_takes h6 a0 vp1 (v5 - vp3))).bind (un fun v7 h8 =>
some h8))))) else (
if vp2 = 3 then (
(cO h1 a0 10 (F_X10_totalOf h1 a0 vp1)).bind (un fun v9 h10 =>
if v9 ≤ vp3 then (
some h10) else (
(cO h10 a0 10 (F_X10_totalOf h10 a0 vp1)).bind (un fun v11 h12 =>
(cO h12 a0 10 (F_X10_takes h12 a0 vp1 (v11 - vp3))).bind (un fun v13 h14 =>
some h14))))) else (
some h1))).bind fun h15 =>
(loopF (fun x => F_X10_limits_L40 a0 vp1 vp2 vp3 x) 6000 h15).bind (sE (fun x => some x) (fun h26 =>
some (1, h26)))
set_option maxRecDepth 100000 in
set_option maxHeartbeats 4000000 in
theorem c_X10_limits (l : Launch) (G : GG) (B : Nat) (h : Hp) (a0 : Nat) (vp1 : Int32) (vp2 : Int32) (vp3 : Int32) (r0 : Int32) (hr : Hp) (hF : F_X10_limits h a0 vp1 vp2 vp3 = some (r0, hr)) : CI l yX10_limits cX10_limits 5 .boolean 8 191 0 0 G B h [.ref (B + a0), .int vp1, .int vp2, .int vp3] r0 hr := by
  refine ent_i rfl (Nat.le_of_ble_eq_true rfl) ?_
  intro p e s m args below meth c ls Q CX hnm hret P hl
  have CX : Cxt p m c cX10_limits 5 s args RX10 G B := CX
  obtain ⟨⟨hx, hb, hml, hown, hts⟩, -, -⟩ := id CX
  replace hl : lv_has ls 5 [(0, .ref (B + a0)), (1, .int vp1), (2, .int vp2), (3, .int vp3)] := hl
  generalize s.heap = H at P ⊢
  generalize ([] : List Loc) = locs at P ⊢
  unfold F_X10_limits at hF
  refine lv_aload_n (pc := 0) hx hb dX10_limits_0 rfl (lv_at hl 0 rfl) ?_
  refine lv_iload_n (pc := 1) hx hb dX10_limits_1 rfl (lv_at hl 1 rfl) ?_
  refine lv_iload_n (pc := 2) hx hb dX10_limits_2 rfl (lv_at hl 2 rfl) ?_
  refine lv_iload_n (pc := 3) hx hb dX10_limits_3 rfl (lv_at hl 3 rfl) ?_
  refine r_cVv (pc := 4) (As := [.int vp1, .int vp2, .int vp3]) (rest := []) CX P hl.1 hF kv_X10_95 (fun h1 q => c_X10_lays l G B _ _ _ _ _ _ q) rfl rfl ⟨Nat.le_of_ble_eq_true rfl, Nat.le_of_ble_eq_true rfl⟩ (Nat.le_of_ble_eq_true rfl) ⟨Nat.le_of_ble_eq_true rfl, Nat.le_of_ble_eq_true rfl⟩ dX10_limits_4 (fun h1 H locs P hF => ?_)
  refine lv_iload_n (pc := 7) hx hb dX10_limits_7 rfl (lv_at hl 2 rfl) ?_
  refine lv_iconst (pc := 8) (v := 2) hx hb dX10_limits_8 (by decide) ?_
  obtain ⟨j2, hA2, hK2⟩ := bd_some hF
  have hJ2 : ∀ (h15 : Hp) (H : Heap) (locs : List Loc) (ls : Array Slot), Pic G B h15 s H locs → lv_has ls 5 [(0, .ref (B + a0)), (1, .int vp1), (2, .int vp2), (3, .int vp3)] → h15 = j2 → W p l e (rmM 8 191 0 0) s m args below meth c H locs 0 0 Q (F0 m 40 ls []) := by
    intro h15 H locs ls P hl ej
    subst ej
    have hF := hK2
    obtain ⟨r16, hLp16, hK16⟩ := bd_some hF
    have hX16 : ∀ (h26 : Hp) (H : Heap) (locs : List Loc) (ls : Array Slot), Pic G B h26 s H locs → lv_has ls 5 [] → .inr h26 = r16 → W p l e (rmM 8 191 0 0) s m args below meth c H locs 0 0 Q (F0 m 64 ls []) := by
      intro h26 H locs ls P hl er
      subst er
      have hF := sE_ri hK16
      refine lv_iconst (pc := 64) (v := 1) hx hb dX10_limits_64 (by decide) ?_
      cases hF
      exact hret _ _ _ _ P rfl dX10_limits_65
    have hL16 : ∀ (n : Nat) (h21 : Hp) (H : Heap) (locs : List Loc) (ls : Array Slot), Pic G B h21 s H locs → lv_has ls 5 [(0, .ref (B + a0)), (1, .int vp1), (2, .int vp2), (3, .int vp3)] → loopF (fun x => F_X10_limits_L40 a0 vp1 vp2 vp3 x) n h21 = some r16 → W p l e (rmM 8 191 0 0) s m args below meth c H locs 0 0 Q (F0 m 40 ls []) := by
      intro n
      induction n with
      | zero => intro h21 H locs ls P hl hq; cases hq
      | succ n ih =>
        intro h21 H locs ls P hl hq
        obtain ⟨z16, hS16, hI16, hR16⟩ := loop_some hq
        have hF : F_X10_limits_L40 a0 vp1 vp2 vp3 h21 = some z16 := hS16
        unfold F_X10_limits_L40 at hF
        refine lv_iload_n (pc := 40) hx hb dX10_limits_40 rfl (lv_at hl 2 rfl) ?_
        refine lv_iconst (pc := 41) (v := 3) hx hb dX10_limits_41 (by decide) ?_
        refine lv_icmp_ne (pc := 42) (tgt := 64) hx hb dX10_limits_42 (by decide) (fun hc => ?_) (fun hc => ?_)
        · rw [if_neg hc] at hF
          exact hX16 _ _ _ _ P (lv_sub hl [] rfl) (hR16 _ (Option.some.inj hF).symm)
        · rw [if_pos hc] at hF
          refine lv_aload_n (pc := 45) hx hb dX10_limits_45 rfl (lv_at hl 0 rfl) ?_
          refine lv_iload_n (pc := 46) hx hb dX10_limits_46 rfl (lv_at hl 1 rfl) ?_
          refine r_cVi (pc := 47) (As := [.int vp1]) (rest := []) CX P hl.1 hF kv_X10_184 (fun r h1 q => c_X10_totalOf l G B _ _ _ _ _ q) rfl rfl ⟨Nat.le_of_ble_eq_true rfl, Nat.le_of_ble_eq_true rfl⟩ (Nat.le_of_ble_eq_true rfl) ⟨Nat.le_of_ble_eq_true rfl, Nat.le_of_ble_eq_true rfl⟩ dX10_limits_47 (fun v22 h23 H locs P hF => ?_)
          replace hF := un_i hF
          refine lv_iload_n (pc := 50) hx hb dX10_limits_50 rfl (lv_at hl 3 rfl) ?_
          refine lv_icmp_le (pc := 51) (tgt := 64) hx hb dX10_limits_51 (by decide) (fun hc => ?_) (fun hc => ?_)
          · rw [if_pos hc] at hF
            exact hX16 _ _ _ _ P (lv_sub hl [] rfl) (hR16 _ (Option.some.inj hF).symm)
          · rw [if_neg hc] at hF
            refine lv_aload_n (pc := 54) hx hb dX10_limits_54 rfl (lv_at hl 0 rfl) ?_
            refine lv_iload_n (pc := 55) hx hb dX10_limits_55 rfl (lv_at hl 1 rfl) ?_
            refine r_cVi (pc := 56) (As := [.int vp1]) (rest := []) CX P hl.1 hF kv_X10_193 (fun r h1 q => c_X10_deathBelow l G B _ _ _ _ _ q) rfl rfl ⟨Nat.le_of_ble_eq_true rfl, Nat.le_of_ble_eq_true rfl⟩ (Nat.le_of_ble_eq_true rfl) ⟨Nat.le_of_ble_eq_true rfl, Nat.le_of_ble_eq_true rfl⟩ dX10_limits_56 (fun v24 h25 H locs P hF => ?_)
            replace hF := un_i hF
            refine lv_if_ne (pc := 59) (tgt := 40) hx hb dX10_limits_59 (by decide) (fun hc => ?_) (fun hc => ?_)
            · rw [if_neg hc] at hF
              exact ih _ _ _ _ P (lv_sub hl [0, 1, 2, 3] rfl) (hI16 _ (Option.some.inj hF).symm)
            · rw [if_pos hc] at hF
              refine lv_iconst (pc := 62) (v := 0) hx hb dX10_limits_62 (by decide) ?_
              have hE := hR16 _ (Option.some.inj hF).symm
              subst hE
              replace hF := sE_li hK16
              cases hF
              exact hret _ _ _ _ P rfl dX10_limits_63
    exact hL16 _ _ _ _ _ P (lv_sub hl [0, 1, 2, 3] rfl) hLp16
  replace hF := hA2
  refine lv_icmp_eq (pc := 9) (tgt := 17) hx hb dX10_limits_9 (by decide) (fun hc => ?_) (fun hc => ?_)
  · rw [if_pos hc] at hF
    refine lv_aload_n (pc := 17) hx hb dX10_limits_17 rfl (lv_at hl 0 rfl) ?_
    refine lv_iload_n (pc := 18) hx hb dX10_limits_18 rfl (lv_at hl 1 rfl) ?_
    refine r_cVi (pc := 19) (As := [.int vp1]) (rest := []) CX P hl.1 hF kv_X10_184 (fun r h1 q => c_X10_totalOf l G B _ _ _ _ _ q) rfl rfl ⟨Nat.le_of_ble_eq_true rfl, Nat.le_of_ble_eq_true rfl⟩ (Nat.le_of_ble_eq_true rfl) ⟨Nat.le_of_ble_eq_true rfl, Nat.le_of_ble_eq_true rfl⟩ dX10_limits_19 (fun v3 h4 H locs P hF => ?_)
    replace hF := un_i hF
    refine lv_iload_n (pc := 22) hx hb dX10_limits_22 rfl (lv_at hl 3 rfl) ?_
    refine lv_icmp_le (pc := 23) (tgt := 40) hx hb dX10_limits_23 (by decide) (fun hc => ?_) (fun hc => ?_)
    · rw [if_pos hc] at hF
      exact hJ2 _ _ _ _ P (lv_sub hl [0, 1, 2, 3] rfl) (Option.some.inj hF)
    · rw [if_neg hc] at hF
      refine lv_aload_n (pc := 26) hx hb dX10_limits_26 rfl (lv_at hl 0 rfl) ?_
      refine lv_iload_n (pc := 27) hx hb dX10_limits_27 rfl (lv_at hl 1 rfl) ?_
      refine lv_aload_n (pc := 28) hx hb dX10_limits_28 rfl (lv_at hl 0 rfl) ?_
      refine lv_iload_n (pc := 29) hx hb dX10_limits_29 rfl (lv_at hl 1 rfl) ?_
      refine r_cVi (pc := 30) (As := [.int vp1]) (rest := [.int vp1, .ref (B + a0)]) CX P hl.1 hF kv_X10_184 (fun r h1 q => c_X10_totalOf l G B _ _ _ _ _ q) rfl rfl ⟨Nat.le_of_ble_eq_true rfl, Nat.le_of_ble_eq_true rfl⟩ (Nat.le_of_ble_eq_true rfl) ⟨Nat.le_of_ble_eq_true rfl, Nat.le_of_ble_eq_true rfl⟩ dX10_limits_30 (fun v5 h6 H locs P hF => ?_)
      replace hF := un_i hF
      refine lv_iload_n (pc := 33) hx hb dX10_limits_33 rfl (lv_at hl 3 rfl) ?_
      refine lv_isub (pc := 34) hx hb dX10_limits_34 ?_
      refine r_cVi (pc := 35) (As := [.int vp1, .int (v5 - vp3)]) (rest := []) CX P hl.1 hF kv_X10_190 (fun r h1 q => c_X10_takes l G B _ _ _ _ _ _ q) rfl rfl ⟨Nat.le_of_ble_eq_true rfl, Nat.le_of_ble_eq_true rfl⟩ (Nat.le_of_ble_eq_true rfl) ⟨Nat.le_of_ble_eq_true rfl, Nat.le_of_ble_eq_true rfl⟩ dX10_limits_35 (fun v7 h8 H locs P hF => ?_)
      replace hF := un_i hF
      refine lv_istore (pc := 38) hx hb dX10_limits_38 hl (by decide) rfl (fun ls hl => ?_)
      replace hl : lv_has ls 5 [(4, .int v7), (0, .ref (B + a0)), (1, .int vp1), (2, .int vp2), (3, .int vp3)] := hl
      exact hJ2 _ _ _ _ P (lv_sub hl [1, 2, 3, 4] rfl) (Option.some.inj hF)
  · rw [if_neg hc] at hF
    refine lv_iload_n (pc := 12) hx hb dX10_limits_12 rfl (lv_at hl 2 rfl) ?_
    refine lv_iconst (pc := 13) (v := 3) hx hb dX10_limits_13 (by decide) ?_
    refine lv_icmp_ne (pc := 14) (tgt := 40) hx hb dX10_limits_14 (by decide) (fun hc => ?_) (fun hc => ?_)
    · rw [if_neg hc] at hF
      exact hJ2 _ _ _ _ P (lv_sub hl [0, 1, 2, 3] rfl) (Option.some.inj hF)
    · rw [if_pos hc] at hF
      refine lv_aload_n (pc := 17) hx hb dX10_limits_17 rfl (lv_at hl 0 rfl) ?_
      refine lv_iload_n (pc := 18) hx hb dX10_limits_18 rfl (lv_at hl 1 rfl) ?_
      refine r_cVi (pc := 19) (As := [.int vp1]) (rest := []) CX P hl.1 hF kv_X10_184 (fun r h1 q => c_X10_totalOf l G B _ _ _ _ _ q) rfl rfl ⟨Nat.le_of_ble_eq_true rfl, Nat.le_of_ble_eq_true rfl⟩ (Nat.le_of_ble_eq_true rfl) ⟨Nat.le_of_ble_eq_true rfl, Nat.le_of_ble_eq_true rfl⟩ dX10_limits_19 (fun v9 h10 H locs P hF => ?_)
      replace hF := un_i hF
      refine lv_iload_n (pc := 22) hx hb dX10_limits_22 rfl (lv_at hl 3 rfl) ?_
      refine lv_icmp_le (pc := 23) (tgt := 40) hx hb dX10_limits_23 (by decide) (fun hc => ?_) (fun hc => ?_)
      · rw [if_pos hc] at hF
        exact hJ2 _ _ _ _ P (lv_sub hl [0, 1, 2, 3] rfl) (Option.some.inj hF)
      · rw [if_neg hc] at hF
        refine lv_aload_n (pc := 26) hx hb dX10_limits_26 rfl (lv_at hl 0 rfl) ?_
        refine lv_iload_n (pc := 27) hx hb dX10_limits_27 rfl (lv_at hl 1 rfl) ?_
        refine lv_aload_n (pc := 28) hx hb dX10_limits_28 rfl (lv_at hl 0 rfl) ?_
        refine lv_iload_n (pc := 29) hx hb dX10_limits_29 rfl (lv_at hl 1 rfl) ?_
        refine r_cVi (pc := 30) (As := [.int vp1]) (rest := [.int vp1, .ref (B + a0)]) CX P hl.1 hF kv_X10_184 (fun r h1 q => c_X10_totalOf l G B _ _ _ _ _ q) rfl rfl ⟨Nat.le_of_ble_eq_true rfl, Nat.le_of_ble_eq_true rfl⟩ (Nat.le_of_ble_eq_true rfl) ⟨Nat.le_of_ble_eq_true rfl, Nat.le_of_ble_eq_true rfl⟩ dX10_limits_30 (fun v11 h12 H locs P hF => ?_)
        replace hF := un_i hF
        refine lv_iload_n (pc := 33) hx hb dX10_limits_33 rfl (lv_at hl 3 rfl) ?_
        refine lv_isub (pc := 34) hx hb dX10_limits_34 ?_
        refine r_cVi (pc := 35) (As := [.int vp1, .int (v11 - vp3)]) (rest := []) CX P hl.1 hF kv_X10_190 (fun r h1 q => c_X10_takes l G B _ _ _ _ _ _ q) rfl rfl ⟨Nat.le_of_ble_eq_true rfl, Nat.le_of_ble_eq_true rfl⟩ (Nat.le_of_ble_eq_true rfl) ⟨Nat.le_of_ble_eq_true rfl, Nat.le_of_ble_eq_true rfl⟩ dX10_limits_35 (fun v13 h14 H locs P hF => ?_)
        replace hF := un_i hF
        refine lv_istore (pc := 38) hx hb dX10_limits_38 hl (by decide) rfl (fun ls hl => ?_)
        replace hl : lv_has ls 5 [(4, .int v13), (0, .ref (B + a0)), (1, .int vp1), (2, .int vp2), (3, .int vp3)] := hl
        exact hJ2 _ _ _ _ P (lv_sub hl [1, 2, 3, 4] rfl) (Option.some.inj hF)
def F_X10_limit (h : Hp) (a0 : Nat) (vp1 : Int32) (vp2 : Int32) (vp3 : Int32) : Option (Int32 × Hp) :=
(pI h a0 10 0 0).bind fun h1 =>
(cO h1 a0 10 (F_X10_isGroup h1 a0 vp1)).bind fun v2 =>
if v2 = 0 then (
some ((-2), h1)) else (
(F_X10_within h1 (Int32.toInt64 vp2) 0 8).bind fun v3 =>
if v3 = 0 then (
some ((-2), h1)) else (
(gR h1 a0 10 5).bind fun a4 =>
(aI h1 a4 vp2).bind fun v5 =>
(gR h1 a0 10 6).bind fun a6 =>
(aI h1 a6 vp2).bind fun v7 =>
(F_X10_within h1 (Int32.toInt64 vp3) (Int32.toInt64 v5) (Int32.toInt64 v7)).bind fun v8 =>
if v8 = 0 then (
some ((-3), h1)) else (
(cO h1 a0 10 (F_X10_begins h1 a0)).bind fun h9 =>
(cO h9 a0 10 (F_X10_limits h9 a0 vp1 vp2 vp3)).bind (un fun v10 h11 =>
(if v10 = 0 then (
some (((-4) : Int32), h11)) else (
(cO h11 a0 10 (F_X10_totalOf h11 a0 vp1)).bind (un fun v13 h14 =>
some ((v13 : Int32), h14)))).bind fun q12 =>
bl q12.1 fun v15 =>
bl q12.2 fun h16 =>
(cO h16 a0 10 (F_X10_ends h16 a0 v15 v10)).bind (un fun v17 h18 =>
some (v17, h18))))))
set_option maxRecDepth 100000 in
set_option maxHeartbeats 4000000 in
theorem c_X10_limit (l : Launch) (G : GG) (B : Nat) (h : Hp) (a0 : Nat) (vp1 : Int32) (vp2 : Int32) (vp3 : Int32) (r0 : Int32) (hr : Hp) (hF : F_X10_limit h a0 vp1 vp2 vp3 = some (r0, hr)) : CI l yX10_limit cX10_limit 5 .int 9 215 0 0 G B h [.ref (B + a0), .int vp1, .int vp2, .int vp3] r0 hr := by
  refine ent_i rfl (Nat.le_of_ble_eq_true rfl) ?_
  intro p e s m args below meth c ls Q CX hnm hret P hl
  have CX : Cxt p m c cX10_limit 5 s args RX10 G B := CX
  obtain ⟨⟨hx, hb, hml, hown, hts⟩, -, -⟩ := id CX
  replace hl : lv_has ls 5 [(0, .ref (B + a0)), (1, .int vp1), (2, .int vp2), (3, .int vp3)] := hl
  generalize s.heap = H at P ⊢
  generalize ([] : List Loc) = locs at P ⊢
  unfold F_X10_limit at hF
  refine lv_aload_n (pc := 0) hx hb dX10_limit_0 rfl (lv_at hl 0 rfl) ?_
  refine lv_iconst (pc := 1) (v := 0) hx hb dX10_limit_1 (by decide) ?_
  refine r_pI (pc := 2) CX P hF fl_X10_1 dX10_limit_2 (fun h1 H locs P hF => ?_)
  refine lv_aload_n (pc := 5) hx hb dX10_limit_5 rfl (lv_at hl 0 rfl) ?_
  refine lv_iload_n (pc := 6) hx hb dX10_limit_6 rfl (lv_at hl 1 rfl) ?_
  refine r_cVp (pc := 7) (As := [.int vp1]) (rest := []) CX P hl.1 hF kv_X10_107 (fun r q => c_X10_isGroup l G B _ _ _ _ q) rfl rfl ⟨Nat.le_of_ble_eq_true rfl, Nat.le_of_ble_eq_true rfl⟩ (Nat.le_of_ble_eq_true rfl) ⟨Nat.le_of_ble_eq_true rfl, Nat.le_of_ble_eq_true rfl⟩ dX10_limit_7 (fun v2 H locs P hF => ?_)
  refine lv_if_eq (pc := 10) (tgt := 25) hx hb dX10_limit_10 (by decide) (fun hc => ?_) (fun hc => ?_)
  · rw [if_pos hc] at hF
    refine lv_bipush (pc := 25) (v := (-2)) hx hb dX10_limit_25 (by decide) ?_
    cases hF
    exact hret _ _ _ _ P rfl dX10_limit_27
  · rw [if_neg hc] at hF
    refine lv_iload_n (pc := 13) hx hb dX10_limit_13 rfl (lv_at hl 2 rfl) ?_
    refine lv_i2l (pc := 14) hx hb dX10_limit_14 rfl ?_
    refine lv_lconst (pc := 15) (v := 0) hx hb dX10_limit_15 (by decide) ?_
    refine lv_ldc2 (pc := 16) (v := 8) hx hb hown (hts _ tw_1093) dX10_limit_16 ?_
    refine r_cSp (pc := 19) (As := [.long (Int32.toInt64 vp2), .long 0, .long 8]) (rest := []) CX P hl.1 hF ks_X10_85 (fun r q => c_X10_within l G B _ _ _ _ _ q) rfl rfl ⟨Nat.le_of_ble_eq_true rfl, Nat.le_of_ble_eq_true rfl⟩ (Nat.le_of_ble_eq_true rfl) ⟨Nat.le_of_ble_eq_true rfl, Nat.le_of_ble_eq_true rfl⟩ dX10_limit_19 (fun v3 H locs P hF => ?_)
    refine lv_if_ne (pc := 22) (tgt := 28) hx hb dX10_limit_22 (by decide) (fun hc => ?_) (fun hc => ?_)
    · rw [if_neg hc] at hF
      refine lv_iload_n (pc := 28) hx hb dX10_limit_28 rfl (lv_at hl 3 rfl) ?_
      refine lv_i2l (pc := 29) hx hb dX10_limit_29 rfl ?_
      refine lv_aload_n (pc := 30) hx hb dX10_limit_30 rfl (lv_at hl 0 rfl) ?_
      refine r_gR (pc := 31) CX P hF fl_X10_26 dX10_limit_31 (fun a4 hF => ?_)
      refine lv_iload_n (pc := 34) hx hb dX10_limit_34 rfl (lv_at hl 2 rfl) ?_
      refine r_aI (pc := 35) CX P hF dX10_limit_35 (fun v5 hF => ?_)
      refine lv_i2l (pc := 36) hx hb dX10_limit_36 rfl ?_
      refine lv_aload_n (pc := 37) hx hb dX10_limit_37 rfl (lv_at hl 0 rfl) ?_
      refine r_gR (pc := 38) CX P hF fl_X10_29 dX10_limit_38 (fun a6 hF => ?_)
      refine lv_iload_n (pc := 41) hx hb dX10_limit_41 rfl (lv_at hl 2 rfl) ?_
      refine r_aI (pc := 42) CX P hF dX10_limit_42 (fun v7 hF => ?_)
      refine lv_i2l (pc := 43) hx hb dX10_limit_43 rfl ?_
      refine r_cSp (pc := 44) (As := [.long (Int32.toInt64 vp3), .long (Int32.toInt64 v5), .long (Int32.toInt64 v7)]) (rest := []) CX P hl.1 hF ks_X10_85 (fun r q => c_X10_within l G B _ _ _ _ _ q) rfl rfl ⟨Nat.le_of_ble_eq_true rfl, Nat.le_of_ble_eq_true rfl⟩ (Nat.le_of_ble_eq_true rfl) ⟨Nat.le_of_ble_eq_true rfl, Nat.le_of_ble_eq_true rfl⟩ dX10_limit_44 (fun v8 H locs P hF => ?_)
      refine lv_if_ne (pc := 47) (tgt := 53) hx hb dX10_limit_47 (by decide) (fun hc => ?_) (fun hc => ?_)
      · rw [if_neg hc] at hF
        refine lv_aload_n (pc := 53) hx hb dX10_limit_53 rfl (lv_at hl 0 rfl) ?_
        refine r_cVv (pc := 54) (As := []) (rest := []) CX P hl.1 hF kv_X10_211 (fun h1 q => c_X10_begins l G B _ _ _ q) rfl rfl ⟨Nat.le_of_ble_eq_true rfl, Nat.le_of_ble_eq_true rfl⟩ (Nat.le_of_ble_eq_true rfl) ⟨Nat.le_of_ble_eq_true rfl, Nat.le_of_ble_eq_true rfl⟩ dX10_limit_54 (fun h9 H locs P hF => ?_)
        refine lv_aload_n (pc := 57) hx hb dX10_limit_57 rfl (lv_at hl 0 rfl) ?_
        refine lv_iload_n (pc := 58) hx hb dX10_limit_58 rfl (lv_at hl 1 rfl) ?_
        refine lv_iload_n (pc := 59) hx hb dX10_limit_59 rfl (lv_at hl 2 rfl) ?_
        refine lv_iload_n (pc := 60) hx hb dX10_limit_60 rfl (lv_at hl 3 rfl) ?_
        refine r_cVi (pc := 61) (As := [.int vp1, .int vp2, .int vp3]) (rest := []) CX P hl.1 hF kv_X10_223 (fun r h1 q => c_X10_limits l G B _ _ _ _ _ _ _ q) rfl rfl ⟨Nat.le_of_ble_eq_true rfl, Nat.le_of_ble_eq_true rfl⟩ (Nat.le_of_ble_eq_true rfl) ⟨Nat.le_of_ble_eq_true rfl, Nat.le_of_ble_eq_true rfl⟩ dX10_limit_61 (fun v10 h11 H locs P hF => ?_)
        replace hF := un_i hF
        refine lv_istore (pc := 64) hx hb dX10_limit_64 hl (by decide) rfl (fun ls hl => ?_)
        replace hl : lv_has ls 5 [(4, .int v10), (0, .ref (B + a0)), (1, .int vp1), (2, .int vp2), (3, .int vp3)] := hl
        refine lv_aload_n (pc := 66) hx hb dX10_limit_66 rfl (lv_at hl 1 rfl) ?_
        refine lv_iload (pc := 67) hx hb dX10_limit_67 (lv_at hl 0 rfl) ?_
        obtain ⟨j12, hA12, hK12⟩ := bd_some hF
        have hJ12 : ∀ (v15 : Int32) (h16 : Hp) (H : Heap) (locs : List Loc) (ls : Array Slot), Pic G B h16 s H locs → lv_has ls 5 [(4, .int v10)] → (v15, h16) = j12 → W p l e (rmM 9 215 0 0) s m args below meth c H locs 0 0 Q (F0 m 82 ls [.int v15, .ref (B + a0)]) := by
          intro v15 h16 H locs ls P hl ej
          subst ej
          have hF := hK12
          replace hF := bl_i hF
          replace hF := bl_i hF
          try dsimp only at hF
          refine lv_iload (pc := 82) hx hb dX10_limit_82 (lv_at hl 0 rfl) ?_
          refine r_cVi (pc := 84) (As := [.int v15, .int v10]) (rest := []) CX P hl.1 hF kv_X10_214 (fun r h1 q => c_X10_ends l G B _ _ _ _ _ _ q) rfl rfl ⟨Nat.le_of_ble_eq_true rfl, Nat.le_of_ble_eq_true rfl⟩ (Nat.le_of_ble_eq_true rfl) ⟨Nat.le_of_ble_eq_true rfl, Nat.le_of_ble_eq_true rfl⟩ dX10_limit_84 (fun v17 h18 H locs P hF => ?_)
          replace hF := un_i hF
          cases hF
          exact hret _ _ _ _ P rfl dX10_limit_87
        replace hF := hA12
        refine lv_if_eq (pc := 69) (tgt := 80) hx hb dX10_limit_69 (by decide) (fun hc => ?_) (fun hc => ?_)
        · rw [if_pos hc] at hF
          refine lv_bipush (pc := 80) (v := (-4)) hx hb dX10_limit_80 (by decide) ?_
          exact hJ12 _ _ _ _ _ P (lv_sub hl [0] rfl) (Option.some.inj hF)
        · rw [if_neg hc] at hF
          refine lv_aload_n (pc := 72) hx hb dX10_limit_72 rfl (lv_at hl 1 rfl) ?_
          refine lv_iload_n (pc := 73) hx hb dX10_limit_73 rfl (lv_at hl 2 rfl) ?_
          refine r_cVi (pc := 74) (As := [.int vp1]) (rest := [.ref (B + a0)]) CX P hl.1 hF kv_X10_184 (fun r h1 q => c_X10_totalOf l G B _ _ _ _ _ q) rfl rfl ⟨Nat.le_of_ble_eq_true rfl, Nat.le_of_ble_eq_true rfl⟩ (Nat.le_of_ble_eq_true rfl) ⟨Nat.le_of_ble_eq_true rfl, Nat.le_of_ble_eq_true rfl⟩ dX10_limit_74 (fun v13 h14 H locs P hF => ?_)
          replace hF := un_i hF
          refine lv_goto (pc := 77) (tgt := 82) hx hb dX10_limit_77 (by decide) ?_
          exact hJ12 _ _ _ _ _ P (lv_sub hl [0] rfl) (Option.some.inj hF)
      · rw [if_pos hc] at hF
        refine lv_bipush (pc := 50) (v := (-3)) hx hb dX10_limit_50 (by decide) ?_
        cases hF
        exact hret _ _ _ _ P rfl dX10_limit_52
    · rw [if_pos hc] at hF
      refine lv_bipush (pc := 25) (v := (-2)) hx hb dX10_limit_25 (by decide) ?_
      cases hF
      exact hret _ _ _ _ P rfl dX10_limit_27
def F_X10_bits_L4 (h5 : Hp) (v2 : Int32) (v3 : Int32) (v4 : Int32) : Option ((Int32 × Int32) ⊕ (Int32)) :=
if 16 ≤ v4 then (
some (.inr v3)) else (
bl (v3 + ((v2 >>> (v4 &&& 31)) &&& 1)) fun v6 =>
bl (v4 + 1) fun v7 =>
some (.inl (v6, v7)))
def F_X10_bits (h : Hp) (vp0 : Int32) : Option (Int32) :=
(loopF (fun x => F_X10_bits_L4 h vp0 x.1 x.2) 6000 (0, 0)).bind fun v8 =>
some v8
set_option maxRecDepth 100000 in
set_option maxHeartbeats 4000000 in
theorem c_X10_bits (l : Launch) (G : GG) (B : Nat) (h : Hp) (vp0 : Int32) (r0 : Int32) (hF : F_X10_bits h vp0 = some r0) : CI l yX10_bits cX10_bits 3 .int 0 0 0 0 G B h [.int vp0] r0 h := by
  refine ent_i rfl (Nat.le_of_ble_eq_true rfl) ?_
  intro p e s m args below meth c ls Q CX hnm hret P hl
  have CX : Cxt p m c cX10_bits 3 s args RX10 G B := CX
  obtain ⟨⟨hx, hb, hml, hown, hts⟩, -, -⟩ := id CX
  replace hl : lv_has ls 3 [(0, .int vp0)] := hl
  generalize s.heap = H at P ⊢
  generalize ([] : List Loc) = locs at P ⊢
  unfold F_X10_bits at hF
  refine lv_iconst (pc := 0) (v := 0) hx hb dX10_bits_0 (by decide) ?_
  refine lv_istore_n (pc := 1) hx hb dX10_bits_1 rfl hl (by decide) rfl (fun ls hl => ?_)
  replace hl : lv_has ls 3 [(1, .int 0), (0, .int vp0)] := hl
  refine lv_iconst (pc := 2) (v := 0) hx hb dX10_bits_2 (by decide) ?_
  refine lv_istore_n (pc := 3) hx hb dX10_bits_3 rfl hl (by decide) rfl (fun ls hl => ?_)
  replace hl : lv_has ls 3 [(2, .int 0), (1, .int 0), (0, .int vp0)] := hl
  obtain ⟨r1, hLp1, hK1⟩ := bd_some hF
  have hX1 : ∀ (v8 : Int32) (H : Heap) (locs : List Loc) (ls : Array Slot), Pic G B h s H locs → lv_has ls 3 [(1, .int v8)] → v8 = r1 → W p l e (rmM 0 0 0 0) s m args below meth c H locs 0 0 Q (F0 m 24 ls []) := by
    intro v8 H locs ls P hl er
    subst er
    have hF := hK1
    refine lv_iload_n (pc := 24) hx hb dX10_bits_24 rfl (lv_at hl 0 rfl) ?_
    cases hF
    exact hret _ _ _ _ P rfl dX10_bits_25
  have hL1 : ∀ (n : Nat) (v3 : Int32) (v4 : Int32) (H : Heap) (locs : List Loc) (ls : Array Slot), Pic G B h s H locs → lv_has ls 3 [(0, .int vp0), (1, .int v3), (2, .int v4)] → loopF (fun x => F_X10_bits_L4 h vp0 x.1 x.2) n (v3, v4) = some r1 → W p l e (rmM 0 0 0 0) s m args below meth c H locs 0 0 Q (F0 m 4 ls []) := by
    intro n
    induction n with
    | zero => intro v3 v4 H locs ls P hl hq; cases hq
    | succ n ih =>
      intro v3 v4 H locs ls P hl hq
      obtain ⟨z1, hS1, hI1, hR1⟩ := loop_some hq
      have hF : F_X10_bits_L4 h vp0 v3 v4 = some z1 := hS1
      unfold F_X10_bits_L4 at hF
      refine lv_iload_n (pc := 4) hx hb dX10_bits_4 rfl (lv_at hl 2 rfl) ?_
      refine lv_bipush (pc := 5) (v := 16) hx hb dX10_bits_5 (by decide) ?_
      refine lv_icmp_ge (pc := 7) (tgt := 24) hx hb dX10_bits_7 (by decide) (fun hc => ?_) (fun hc => ?_)
      · rw [if_pos hc] at hF
        exact hX1 _ _ _ _ P (lv_sub hl [1] rfl) (hR1 _ (Option.some.inj hF).symm)
      · rw [if_neg hc] at hF
        refine lv_iload_n (pc := 10) hx hb dX10_bits_10 rfl (lv_at hl 1 rfl) ?_
        refine lv_iload_n (pc := 11) hx hb dX10_bits_11 rfl (lv_at hl 0 rfl) ?_
        refine lv_iload_n (pc := 12) hx hb dX10_bits_12 rfl (lv_at hl 2 rfl) ?_
        refine lv_ishr (pc := 13) hx hb dX10_bits_13 ?_
        refine lv_iconst (pc := 14) (v := 1) hx hb dX10_bits_14 (by decide) ?_
        refine lv_iand (pc := 15) hx hb dX10_bits_15 ?_
        refine lv_iadd (pc := 16) hx hb dX10_bits_16 ?_
        refine lv_topi (fun v6 ev6 => ?_)
        replace hF := bl_e hF ev6
        refine lv_istore_n (pc := 17) hx hb dX10_bits_17 rfl hl (by decide) rfl (fun ls hl => ?_)
        replace hl : lv_has ls 3 [(1, .int v6), (0, .int vp0), (2, .int v4)] := hl
        obtain ⟨v7, ev7, hF⟩ := bl_o hF
        refine lv_iinc (pc := 18) (k := 2) (v := v7) hx hb dX10_bits_18 hl rfl ev7 (by decide) rfl (fun ls hl => ?_)
        replace hl : lv_has ls 3 [(2, .int v7), (1, .int v6), (0, .int vp0)] := hl
        refine lv_goto (pc := 21) (tgt := 4) hx hb dX10_bits_21 (by decide) ?_
        exact ih _ _ _ _ _ P (lv_sub hl [2, 1, 0] rfl) (hI1 _ (Option.some.inj hF).symm)
  exact hL1 _ _ _ _ _ _ P (lv_sub hl [2, 1, 0] rfl) hLp1
def F_X10_isFull (h : Hp) (a0 : Nat) (vp1 : Int32) : Option (Int32 × Hp) :=
(cO h a0 10 (F_X10_processesBelow h a0 vp1)).bind (un fun v1 h2 =>
(F_X10_bits h2 v1).bind fun v3 =>
(cO h2 a0 10 (F_X10_of h2 a0 vp1 8 0)).bind (un fun v4 h5 =>
if v3 < v4 then (
some (0, h5)) else (
some (1, h5))))
set_option maxRecDepth 100000 in
set_option maxHeartbeats 4000000 in
theorem c_X10_isFull (l : Launch) (G : GG) (B : Nat) (h : Hp) (a0 : Nat) (vp1 : Int32) (r0 : Int32) (hr : Hp) (hF : F_X10_isFull h a0 vp1 = some (r0, hr)) : CI l yX10_isFull cX10_isFull 2 .boolean 4 90 0 0 G B h [.ref (B + a0), .int vp1] r0 hr := by
  refine ent_i rfl (Nat.le_of_ble_eq_true rfl) ?_
  intro p e s m args below meth c ls Q CX hnm hret P hl
  have CX : Cxt p m c cX10_isFull 2 s args RX10 G B := CX
  obtain ⟨⟨hx, hb, hml, hown, hts⟩, -, -⟩ := id CX
  replace hl : lv_has ls 2 [(0, .ref (B + a0)), (1, .int vp1)] := hl
  generalize s.heap = H at P ⊢
  generalize ([] : List Loc) = locs at P ⊢
  unfold F_X10_isFull at hF
  refine lv_aload_n (pc := 0) hx hb dX10_isFull_0 rfl (lv_at hl 0 rfl) ?_
  refine lv_iload_n (pc := 1) hx hb dX10_isFull_1 rfl (lv_at hl 1 rfl) ?_
  refine r_cVi (pc := 2) (As := [.int vp1]) (rest := []) CX P hl.1 hF kv_X10_171 (fun r h1 q => c_X10_processesBelow l G B _ _ _ _ _ q) rfl rfl ⟨Nat.le_of_ble_eq_true rfl, Nat.le_of_ble_eq_true rfl⟩ (Nat.le_of_ble_eq_true rfl) ⟨Nat.le_of_ble_eq_true rfl, Nat.le_of_ble_eq_true rfl⟩ dX10_isFull_2 (fun v1 h2 H locs P hF => ?_)
  replace hF := un_i hF
  refine r_cSp (pc := 5) (As := [.int v1]) (rest := []) CX P hl.1 hF ks_X10_234 (fun r q => c_X10_bits l G B _ _ _ q) rfl rfl ⟨Nat.le_of_ble_eq_true rfl, Nat.le_of_ble_eq_true rfl⟩ (Nat.le_of_ble_eq_true rfl) ⟨Nat.le_of_ble_eq_true rfl, Nat.le_of_ble_eq_true rfl⟩ dX10_isFull_5 (fun v3 H locs P hF => ?_)
  refine lv_aload_n (pc := 8) hx hb dX10_isFull_8 rfl (lv_at hl 0 rfl) ?_
  refine lv_iload_n (pc := 9) hx hb dX10_isFull_9 rfl (lv_at hl 1 rfl) ?_
  refine lv_bipush (pc := 10) (v := 8) hx hb dX10_isFull_10 (by decide) ?_
  refine lv_iconst (pc := 12) (v := 0) hx hb dX10_isFull_12 (by decide) ?_
  refine r_cVi (pc := 13) (As := [.int vp1, .int 8, .int 0]) (rest := [.int v3]) CX P hl.1 hF kv_X10_99 (fun r h1 q => c_X10_of l G B _ _ _ _ _ _ _ q) rfl rfl ⟨Nat.le_of_ble_eq_true rfl, Nat.le_of_ble_eq_true rfl⟩ (Nat.le_of_ble_eq_true rfl) ⟨Nat.le_of_ble_eq_true rfl, Nat.le_of_ble_eq_true rfl⟩ dX10_isFull_13 (fun v4 h5 H locs P hF => ?_)
  replace hF := un_i hF
  refine lv_icmp_lt (pc := 16) (tgt := 23) hx hb dX10_isFull_16 (by decide) (fun hc => ?_) (fun hc => ?_)
  · rw [if_pos hc] at hF
    refine lv_iconst (pc := 23) (v := 0) hx hb dX10_isFull_23 (by decide) ?_
    cases hF
    exact hret _ _ _ _ P rfl dX10_isFull_24
  · rw [if_neg hc] at hF
    refine lv_iconst (pc := 19) (v := 1) hx hb dX10_isFull_19 (by decide) ?_
    refine lv_goto (pc := 20) (tgt := 24) hx hb dX10_isFull_20 (by decide) ?_
    cases hF
    exact hret _ _ _ _ P rfl dX10_isFull_24
def F_X10_comes_L28 (a7 : Nat) (v8 : Int32) (v9 : Int32) (v10 : Int32) (v11 : Int32) (v12 : Int32) (h13 : Hp) : Option ((Int32 × Int32 × Hp) ⊕ (Int32 × Hp)) :=
if v12 = (-1) then (
some (.inr (v11, h13))) else (
(cO h13 a7 10 (F_X10_isFull h13 a7 v12)).bind (un fun v14 h15 =>
(if v14 = 0 then (
some (1 : Int32)) else (
some (0 : Int32))).bind fun v17 =>
bl (v11 &&& v17) fun v18 =>
(cO h15 a7 10 (F_X10_parentOf h15 a7 v12)).bind (un fun v19 h20 =>
some (.inl (v18, v19, h20)))))
def F_X10_comes_L91 (a28 : Nat) (v29 : Int32) (v30 : Int32) (v31 : Int32) (v32 : Int32) (h33 : Hp) : Option ((Int32 × Hp) ⊕ (Hp)) :=
if 8 ≤ v32 then (
some (.inr h33)) else (
(cO h33 a28 10 (F_X10_laysProcess h33 a28 v31 v32 0)).bind fun h34 =>
bl (v32 + 1) fun v35 =>
some (.inl (v35, h34)))
def F_X10_comes (h : Hp) (a0 : Nat) (vp1 : Int32) (vp2 : Int32) : Option (Int32 × Hp) :=
(gR h a0 10 1).bind fun a1 =>
(aI h a1 1).bind fun v2 =>
(F_X10_freeIn h v2 16).bind fun v3 =>
(if 16 ≤ v3 then (
some (0 : Int32)) else (
some (1 : Int32))).bind fun v5 =>
(loopF (fun x => F_X10_comes_L28 a0 vp1 vp2 v3 x.1 x.2.1 x.2.2) 6000 (v5, vp1, h)).bind fun q6 =>
bl q6.1 fun v21 =>
bl q6.2 fun h22 =>
if v21 = 0 then (
some ((-4), h22)) else (
(cO h22 a0 10 (F_X10_begins h22 a0)).bind fun h23 =>
(gR h23 a0 10 1).bind fun a24 =>
(aI h23 a24 1).bind fun v25 =>
(sI h23 a24 1 (v25 ||| (1 <<< (v3 &&& 31)))).bind fun h26 =>
(loopF (fun x => F_X10_comes_L91 a0 vp1 vp2 v3 x.1 x.2) 6000 (0, h26)).bind fun h36 =>
(cO h36 a0 10 (F_X10_laysProcess h36 a0 v3 0 vp1)).bind fun h37 =>
(cO h37 a0 10 (F_X10_laysProcess h37 a0 v3 1 vp2)).bind fun h38 =>
(cO h38 a0 10 (F_X10_ends h38 a0 v3 1)).bind (un fun v39 h40 =>
some (v39, h40)))
set_option maxRecDepth 100000 in
set_option maxHeartbeats 4000000 in
theorem c_X10_comes (l : Launch) (G : GG) (B : Nat) (h : Hp) (a0 : Nat) (vp1 : Int32) (vp2 : Int32) (r0 : Int32) (hr : Hp) (hF : F_X10_comes h a0 vp1 vp2 = some (r0, hr)) : CI l yX10_comes cX10_comes 6 .int 5 111 0 0 G B h [.ref (B + a0), .int vp1, .int vp2] r0 hr := by
  refine ent_i rfl (Nat.le_of_ble_eq_true rfl) ?_
  intro p e s m args below meth c ls Q CX hnm hret P hl
  have CX : Cxt p m c cX10_comes 6 s args RX10 G B := CX
  obtain ⟨⟨hx, hb, hml, hown, hts⟩, -, -⟩ := id CX
  replace hl : lv_has ls 6 [(0, .ref (B + a0)), (1, .int vp1), (2, .int vp2)] := hl
  generalize s.heap = H at P ⊢
  generalize ([] : List Loc) = locs at P ⊢
  unfold F_X10_comes at hF
  refine lv_aload_n (pc := 0) hx hb dX10_comes_0 rfl (lv_at hl 0 rfl) ?_
  refine r_gR (pc := 1) CX P hF fl_X10_13 dX10_comes_1 (fun a1 hF => ?_)
  refine lv_iconst (pc := 4) (v := 1) hx hb dX10_comes_4 (by decide) ?_
  refine r_aI (pc := 5) CX P hF dX10_comes_5 (fun v2 hF => ?_)
  refine lv_bipush (pc := 6) (v := 16) hx hb dX10_comes_6 (by decide) ?_
  refine r_cSp (pc := 8) (As := [.int v2, .int 16]) (rest := []) CX P hl.1 hF ks_X10_208 (fun r q => c_X10_freeIn l G B _ _ _ _ q) rfl rfl ⟨Nat.le_of_ble_eq_true rfl, Nat.le_of_ble_eq_true rfl⟩ (Nat.le_of_ble_eq_true rfl) ⟨Nat.le_of_ble_eq_true rfl, Nat.le_of_ble_eq_true rfl⟩ dX10_comes_8 (fun v3 H locs P hF => ?_)
  refine lv_istore_n (pc := 11) hx hb dX10_comes_11 rfl hl (by decide) rfl (fun ls hl => ?_)
  replace hl : lv_has ls 6 [(3, .int v3), (0, .ref (B + a0)), (1, .int vp1), (2, .int vp2)] := hl
  refine lv_iload_n (pc := 12) hx hb dX10_comes_12 rfl (lv_at hl 0 rfl) ?_
  refine lv_bipush (pc := 13) (v := 16) hx hb dX10_comes_13 (by decide) ?_
  obtain ⟨j4, hA4, hK4⟩ := bd_some hF
  have hJ4 : ∀ (v5 : Int32) (H : Heap) (locs : List Loc) (ls : Array Slot), Pic G B h s H locs → lv_has ls 6 [(0, .ref (B + a0)), (1, .int vp1), (2, .int vp2), (3, .int v3)] → v5 = j4 → W p l e (rmM 5 111 0 0) s m args below meth c H locs 0 0 Q (F0 m 23 ls [.int v5]) := by
    intro v5 H locs ls P hl ej
    subst ej
    have hF := hK4
    refine lv_istore (pc := 23) hx hb dX10_comes_23 hl (by decide) rfl (fun ls hl => ?_)
    replace hl : lv_has ls 6 [(4, .int v5), (0, .ref (B + a0)), (1, .int vp1), (2, .int vp2), (3, .int v3)] := hl
    refine lv_iload_n (pc := 25) hx hb dX10_comes_25 rfl (lv_at hl 2 rfl) ?_
    refine lv_istore (pc := 26) hx hb dX10_comes_26 hl (by decide) rfl (fun ls hl => ?_)
    replace hl : lv_has ls 6 [(5, .int vp1), (4, .int v5), (0, .ref (B + a0)), (1, .int vp1), (2, .int vp2), (3, .int v3)] := hl
    obtain ⟨r6, hLp6, hK6⟩ := bd_some hF
    have hX6 : ∀ (v21 : Int32) (h22 : Hp) (H : Heap) (locs : List Loc) (ls : Array Slot), Pic G B h22 s H locs → lv_has ls 6 [(0, .ref (B + a0)), (1, .int vp1), (2, .int vp2), (3, .int v3), (4, .int v21)] → (v21, h22) = r6 → W p l e (rmM 5 111 0 0) s m args below meth c H locs 0 0 Q (F0 m 64 ls []) := by
      intro v21 h22 H locs ls P hl er
      subst er
      have hF := hK6
      replace hF := bl_i hF
      replace hF := bl_i hF
      try dsimp only at hF
      refine lv_iload (pc := 64) hx hb dX10_comes_64 (lv_at hl 4 rfl) ?_
      refine lv_if_ne (pc := 66) (tgt := 72) hx hb dX10_comes_66 (by decide) (fun hc => ?_) (fun hc => ?_)
      · rw [if_neg hc] at hF
        refine lv_aload_n (pc := 72) hx hb dX10_comes_72 rfl (lv_at hl 0 rfl) ?_
        refine r_cVv (pc := 73) (As := []) (rest := []) CX P hl.1 hF kv_X10_211 (fun h1 q => c_X10_begins l G B _ _ _ q) rfl rfl ⟨Nat.le_of_ble_eq_true rfl, Nat.le_of_ble_eq_true rfl⟩ (Nat.le_of_ble_eq_true rfl) ⟨Nat.le_of_ble_eq_true rfl, Nat.le_of_ble_eq_true rfl⟩ dX10_comes_73 (fun h23 H locs P hF => ?_)
        refine lv_aload_n (pc := 76) hx hb dX10_comes_76 rfl (lv_at hl 0 rfl) ?_
        refine r_gR (pc := 77) CX P hF fl_X10_13 dX10_comes_77 (fun a24 hF => ?_)
        refine lv_iconst (pc := 80) (v := 1) hx hb dX10_comes_80 (by decide) ?_
        refine lv_dup2_11 (pc := 81) hx hb dX10_comes_81 rfl rfl ?_
        refine r_aI (pc := 82) CX P hF dX10_comes_82 (fun v25 hF => ?_)
        refine lv_iconst (pc := 83) (v := 1) hx hb dX10_comes_83 (by decide) ?_
        refine lv_iload_n (pc := 84) hx hb dX10_comes_84 rfl (lv_at hl 3 rfl) ?_
        refine lv_ishl (pc := 85) hx hb dX10_comes_85 ?_
        refine lv_ior (pc := 86) hx hb dX10_comes_86 ?_
        refine r_sI (pc := 87) CX P hF dX10_comes_87 (fun h26 H locs P hF => ?_)
        refine lv_iconst (pc := 88) (v := 0) hx hb dX10_comes_88 (by decide) ?_
        refine lv_istore (pc := 89) hx hb dX10_comes_89 hl (by decide) rfl (fun ls hl => ?_)
        replace hl : lv_has ls 6 [(5, .int 0), (0, .ref (B + a0)), (1, .int vp1), (2, .int vp2), (3, .int v3), (4, .int v21)] := hl
        obtain ⟨r27, hLp27, hK27⟩ := bd_some hF
        have hX27 : ∀ (h36 : Hp) (H : Heap) (locs : List Loc) (ls : Array Slot), Pic G B h36 s H locs → lv_has ls 6 [(0, .ref (B + a0)), (1, .int vp1), (2, .int vp2), (3, .int v3)] → h36 = r27 → W p l e (rmM 5 111 0 0) s m args below meth c H locs 0 0 Q (F0 m 112 ls []) := by
          intro h36 H locs ls P hl er
          subst er
          have hF := hK27
          refine lv_aload_n (pc := 112) hx hb dX10_comes_112 rfl (lv_at hl 0 rfl) ?_
          refine lv_iload_n (pc := 113) hx hb dX10_comes_113 rfl (lv_at hl 3 rfl) ?_
          refine lv_iconst (pc := 114) (v := 0) hx hb dX10_comes_114 (by decide) ?_
          refine lv_iload_n (pc := 115) hx hb dX10_comes_115 rfl (lv_at hl 1 rfl) ?_
          refine r_cVv (pc := 116) (As := [.int v3, .int 0, .int vp1]) (rest := []) CX P hl.1 hF kv_X10_174 (fun h1 q => c_X10_laysProcess l G B _ _ _ _ _ _ q) rfl rfl ⟨Nat.le_of_ble_eq_true rfl, Nat.le_of_ble_eq_true rfl⟩ (Nat.le_of_ble_eq_true rfl) ⟨Nat.le_of_ble_eq_true rfl, Nat.le_of_ble_eq_true rfl⟩ dX10_comes_116 (fun h37 H locs P hF => ?_)
          refine lv_aload_n (pc := 119) hx hb dX10_comes_119 rfl (lv_at hl 0 rfl) ?_
          refine lv_iload_n (pc := 120) hx hb dX10_comes_120 rfl (lv_at hl 3 rfl) ?_
          refine lv_iconst (pc := 121) (v := 1) hx hb dX10_comes_121 (by decide) ?_
          refine lv_iload_n (pc := 122) hx hb dX10_comes_122 rfl (lv_at hl 2 rfl) ?_
          refine r_cVv (pc := 123) (As := [.int v3, .int 1, .int vp2]) (rest := []) CX P hl.1 hF kv_X10_174 (fun h1 q => c_X10_laysProcess l G B _ _ _ _ _ _ q) rfl rfl ⟨Nat.le_of_ble_eq_true rfl, Nat.le_of_ble_eq_true rfl⟩ (Nat.le_of_ble_eq_true rfl) ⟨Nat.le_of_ble_eq_true rfl, Nat.le_of_ble_eq_true rfl⟩ dX10_comes_123 (fun h38 H locs P hF => ?_)
          refine lv_aload_n (pc := 126) hx hb dX10_comes_126 rfl (lv_at hl 0 rfl) ?_
          refine lv_iload_n (pc := 127) hx hb dX10_comes_127 rfl (lv_at hl 3 rfl) ?_
          refine lv_iconst (pc := 128) (v := 1) hx hb dX10_comes_128 (by decide) ?_
          refine r_cVi (pc := 129) (As := [.int v3, .int 1]) (rest := []) CX P hl.1 hF kv_X10_214 (fun r h1 q => c_X10_ends l G B _ _ _ _ _ _ q) rfl rfl ⟨Nat.le_of_ble_eq_true rfl, Nat.le_of_ble_eq_true rfl⟩ (Nat.le_of_ble_eq_true rfl) ⟨Nat.le_of_ble_eq_true rfl, Nat.le_of_ble_eq_true rfl⟩ dX10_comes_129 (fun v39 h40 H locs P hF => ?_)
          replace hF := un_i hF
          cases hF
          exact hret _ _ _ _ P rfl dX10_comes_132
        have hL27 : ∀ (n : Nat) (v32 : Int32) (h33 : Hp) (H : Heap) (locs : List Loc) (ls : Array Slot), Pic G B h33 s H locs → lv_has ls 6 [(0, .ref (B + a0)), (1, .int vp1), (2, .int vp2), (3, .int v3), (5, .int v32)] → loopF (fun x => F_X10_comes_L91 a0 vp1 vp2 v3 x.1 x.2) n (v32, h33) = some r27 → W p l e (rmM 5 111 0 0) s m args below meth c H locs 0 0 Q (F0 m 91 ls []) := by
          intro n
          induction n with
          | zero => intro v32 h33 H locs ls P hl hq; cases hq
          | succ n ih =>
            intro v32 h33 H locs ls P hl hq
            obtain ⟨z27, hS27, hI27, hR27⟩ := loop_some hq
            have hF : F_X10_comes_L91 a0 vp1 vp2 v3 v32 h33 = some z27 := hS27
            unfold F_X10_comes_L91 at hF
            refine lv_iload (pc := 91) hx hb dX10_comes_91 (lv_at hl 4 rfl) ?_
            refine lv_bipush (pc := 93) (v := 8) hx hb dX10_comes_93 (by decide) ?_
            refine lv_icmp_ge (pc := 95) (tgt := 112) hx hb dX10_comes_95 (by decide) (fun hc => ?_) (fun hc => ?_)
            · rw [if_pos hc] at hF
              exact hX27 _ _ _ _ P (lv_sub hl [0, 1, 2, 3] rfl) (hR27 _ (Option.some.inj hF).symm)
            · rw [if_neg hc] at hF
              refine lv_aload_n (pc := 98) hx hb dX10_comes_98 rfl (lv_at hl 0 rfl) ?_
              refine lv_iload_n (pc := 99) hx hb dX10_comes_99 rfl (lv_at hl 3 rfl) ?_
              refine lv_iload (pc := 100) hx hb dX10_comes_100 (lv_at hl 4 rfl) ?_
              refine lv_iconst (pc := 102) (v := 0) hx hb dX10_comes_102 (by decide) ?_
              refine r_cVv (pc := 103) (As := [.int v3, .int v32, .int 0]) (rest := []) CX P hl.1 hF kv_X10_174 (fun h1 q => c_X10_laysProcess l G B _ _ _ _ _ _ q) rfl rfl ⟨Nat.le_of_ble_eq_true rfl, Nat.le_of_ble_eq_true rfl⟩ (Nat.le_of_ble_eq_true rfl) ⟨Nat.le_of_ble_eq_true rfl, Nat.le_of_ble_eq_true rfl⟩ dX10_comes_103 (fun h34 H locs P hF => ?_)
              obtain ⟨v35, ev35, hF⟩ := bl_o hF
              refine lv_iinc (pc := 106) (k := 4) (v := v35) hx hb dX10_comes_106 hl rfl ev35 (by decide) rfl (fun ls hl => ?_)
              replace hl : lv_has ls 6 [(5, .int v35), (0, .ref (B + a0)), (1, .int vp1), (2, .int vp2), (3, .int v3)] := hl
              refine lv_goto (pc := 109) (tgt := 91) hx hb dX10_comes_109 (by decide) ?_
              exact ih _ _ _ _ _ P (lv_sub hl [1, 2, 3, 4, 0] rfl) (hI27 _ (Option.some.inj hF).symm)
        exact hL27 _ _ _ _ _ _ P (lv_sub hl [1, 2, 3, 4, 0] rfl) hLp27
      · rw [if_pos hc] at hF
        refine lv_bipush (pc := 69) (v := (-4)) hx hb dX10_comes_69 (by decide) ?_
        cases hF
        exact hret _ _ _ _ P rfl dX10_comes_71
    have hL6 : ∀ (n : Nat) (v11 : Int32) (v12 : Int32) (h13 : Hp) (H : Heap) (locs : List Loc) (ls : Array Slot), Pic G B h13 s H locs → lv_has ls 6 [(0, .ref (B + a0)), (1, .int vp1), (2, .int vp2), (3, .int v3), (4, .int v11), (5, .int v12)] → loopF (fun x => F_X10_comes_L28 a0 vp1 vp2 v3 x.1 x.2.1 x.2.2) n (v11, v12, h13) = some r6 → W p l e (rmM 5 111 0 0) s m args below meth c H locs 0 0 Q (F0 m 28 ls []) := by
      intro n
      induction n with
      | zero => intro v11 v12 h13 H locs ls P hl hq; cases hq
      | succ n ih =>
        intro v11 v12 h13 H locs ls P hl hq
        obtain ⟨z6, hS6, hI6, hR6⟩ := loop_some hq
        have hF : F_X10_comes_L28 a0 vp1 vp2 v3 v11 v12 h13 = some z6 := hS6
        unfold F_X10_comes_L28 at hF
        refine lv_iload (pc := 28) hx hb dX10_comes_28 (lv_at hl 5 rfl) ?_
        refine lv_iconst (pc := 30) (v := (-1)) hx hb dX10_comes_30 (by decide) ?_
        refine lv_icmp_eq (pc := 31) (tgt := 64) hx hb dX10_comes_31 (by decide) (fun hc => ?_) (fun hc => ?_)
        · rw [if_pos hc] at hF
          exact hX6 _ _ _ _ _ P (lv_sub hl [0, 1, 2, 3, 4] rfl) (hR6 _ (Option.some.inj hF).symm)
        · rw [if_neg hc] at hF
          refine lv_iload (pc := 34) hx hb dX10_comes_34 (lv_at hl 4 rfl) ?_
          refine lv_aload_n (pc := 36) hx hb dX10_comes_36 rfl (lv_at hl 0 rfl) ?_
          refine lv_iload (pc := 37) hx hb dX10_comes_37 (lv_at hl 5 rfl) ?_
          refine r_cVi (pc := 39) (As := [.int v12]) (rest := [.int v11]) CX P hl.1 hF kv_X10_237 (fun r h1 q => c_X10_isFull l G B _ _ _ _ _ q) rfl rfl ⟨Nat.le_of_ble_eq_true rfl, Nat.le_of_ble_eq_true rfl⟩ (Nat.le_of_ble_eq_true rfl) ⟨Nat.le_of_ble_eq_true rfl, Nat.le_of_ble_eq_true rfl⟩ dX10_comes_39 (fun v14 h15 H locs P hF => ?_)
          replace hF := un_i hF
          obtain ⟨j16, hA16, hK16⟩ := bd_some hF
          have hJ16 : ∀ (v17 : Int32) (H : Heap) (locs : List Loc) (ls : Array Slot), Pic G B h15 s H locs → lv_has ls 6 [(0, .ref (B + a0)), (1, .int vp1), (2, .int vp2), (3, .int v3), (5, .int v12)] → v17 = j16 → W p l e (rmM 5 111 0 0) s m args below meth c H locs 0 0 Q (F0 m 50 ls [.int v17, .int v11]) := by
            intro v17 H locs ls P hl ej
            subst ej
            have hF := hK16
            refine lv_iand (pc := 50) hx hb dX10_comes_50 ?_
            refine lv_topi (fun v18 ev18 => ?_)
            replace hF := bl_e hF ev18
            refine lv_istore (pc := 51) hx hb dX10_comes_51 hl (by decide) rfl (fun ls hl => ?_)
            replace hl : lv_has ls 6 [(4, .int v18), (0, .ref (B + a0)), (1, .int vp1), (2, .int vp2), (3, .int v3), (5, .int v12)] := hl
            refine lv_aload_n (pc := 53) hx hb dX10_comes_53 rfl (lv_at hl 1 rfl) ?_
            refine lv_iload (pc := 54) hx hb dX10_comes_54 (lv_at hl 5 rfl) ?_
            refine r_cVi (pc := 56) (As := [.int v12]) (rest := []) CX P hl.1 hF kv_X10_103 (fun r h1 q => c_X10_parentOf l G B _ _ _ _ _ q) rfl rfl ⟨Nat.le_of_ble_eq_true rfl, Nat.le_of_ble_eq_true rfl⟩ (Nat.le_of_ble_eq_true rfl) ⟨Nat.le_of_ble_eq_true rfl, Nat.le_of_ble_eq_true rfl⟩ dX10_comes_56 (fun v19 h20 H locs P hF => ?_)
            replace hF := un_i hF
            refine lv_istore (pc := 59) hx hb dX10_comes_59 hl (by decide) rfl (fun ls hl => ?_)
            replace hl : lv_has ls 6 [(5, .int v19), (4, .int v18), (0, .ref (B + a0)), (1, .int vp1), (2, .int vp2), (3, .int v3)] := hl
            refine lv_goto (pc := 61) (tgt := 28) hx hb dX10_comes_61 (by decide) ?_
            exact ih _ _ _ _ _ _ P (lv_sub hl [2, 3, 4, 5, 1, 0] rfl) (hI6 _ (Option.some.inj hF).symm)
          replace hF := hA16
          refine lv_if_ne (pc := 42) (tgt := 49) hx hb dX10_comes_42 (by decide) (fun hc => ?_) (fun hc => ?_)
          · rw [if_neg hc] at hF
            refine lv_iconst (pc := 49) (v := 0) hx hb dX10_comes_49 (by decide) ?_
            exact hJ16 _ _ _ _ P (lv_sub hl [0, 1, 2, 3, 5] rfl) (Option.some.inj hF)
          · rw [if_pos hc] at hF
            refine lv_iconst (pc := 45) (v := 1) hx hb dX10_comes_45 (by decide) ?_
            refine lv_goto (pc := 46) (tgt := 50) hx hb dX10_comes_46 (by decide) ?_
            exact hJ16 _ _ _ _ P (lv_sub hl [0, 1, 2, 3, 5] rfl) (Option.some.inj hF)
    exact hL6 _ _ _ _ _ _ _ P (lv_sub hl [2, 3, 4, 5, 1, 0] rfl) hLp6
  replace hF := hA4
  refine lv_icmp_ge (pc := 15) (tgt := 22) hx hb dX10_comes_15 (by decide) (fun hc => ?_) (fun hc => ?_)
  · rw [if_pos hc] at hF
    refine lv_iconst (pc := 22) (v := 0) hx hb dX10_comes_22 (by decide) ?_
    exact hJ4 _ _ _ _ P (lv_sub hl [1, 2, 3, 0] rfl) (Option.some.inj hF)
  · rw [if_neg hc] at hF
    refine lv_iconst (pc := 18) (v := 1) hx hb dX10_comes_18 (by decide) ?_
    refine lv_goto (pc := 19) (tgt := 23) hx hb dX10_comes_19 (by decide) ?_
    exact hJ4 _ _ _ _ P (lv_sub hl [1, 2, 3, 0] rfl) (Option.some.inj hF)
def F_X10_process (h : Hp) (a0 : Nat) (vp1 : Int32) (vp2 : Int32) : Option (Int32 × Hp) :=
(pI h a0 10 0 0).bind fun h1 =>
(cO h1 a0 10 (F_X10_isGroup h1 a0 vp1)).bind fun v2 =>
if v2 = 0 then (
some ((-2), h1)) else (
(F_X10_within h1 (Int32.toInt64 vp2) (-10) 10).bind fun v3 =>
if v3 = 0 then (
some ((-3), h1)) else (
(cO h1 a0 10 (F_X10_comes h1 a0 vp1 vp2)).bind (un fun v4 h5 =>
some (v4, h5))))
set_option maxRecDepth 100000 in
set_option maxHeartbeats 4000000 in
theorem c_X10_process (l : Launch) (G : GG) (B : Nat) (h : Hp) (a0 : Nat) (vp1 : Int32) (vp2 : Int32) (r0 : Int32) (hr : Hp) (hF : F_X10_process h a0 vp1 vp2 = some (r0, hr)) : CI l yX10_process cX10_process 3 .int 6 136 0 0 G B h [.ref (B + a0), .int vp1, .int vp2] r0 hr := by
  refine ent_i rfl (Nat.le_of_ble_eq_true rfl) ?_
  intro p e s m args below meth c ls Q CX hnm hret P hl
  have CX : Cxt p m c cX10_process 3 s args RX10 G B := CX
  obtain ⟨⟨hx, hb, hml, hown, hts⟩, -, -⟩ := id CX
  replace hl : lv_has ls 3 [(0, .ref (B + a0)), (1, .int vp1), (2, .int vp2)] := hl
  generalize s.heap = H at P ⊢
  generalize ([] : List Loc) = locs at P ⊢
  unfold F_X10_process at hF
  refine lv_aload_n (pc := 0) hx hb dX10_process_0 rfl (lv_at hl 0 rfl) ?_
  refine lv_iconst (pc := 1) (v := 0) hx hb dX10_process_1 (by decide) ?_
  refine r_pI (pc := 2) CX P hF fl_X10_1 dX10_process_2 (fun h1 H locs P hF => ?_)
  refine lv_aload_n (pc := 5) hx hb dX10_process_5 rfl (lv_at hl 0 rfl) ?_
  refine lv_iload_n (pc := 6) hx hb dX10_process_6 rfl (lv_at hl 1 rfl) ?_
  refine r_cVp (pc := 7) (As := [.int vp1]) (rest := []) CX P hl.1 hF kv_X10_107 (fun r q => c_X10_isGroup l G B _ _ _ _ q) rfl rfl ⟨Nat.le_of_ble_eq_true rfl, Nat.le_of_ble_eq_true rfl⟩ (Nat.le_of_ble_eq_true rfl) ⟨Nat.le_of_ble_eq_true rfl, Nat.le_of_ble_eq_true rfl⟩ dX10_process_7 (fun v2 H locs P hF => ?_)
  refine lv_if_ne (pc := 10) (tgt := 16) hx hb dX10_process_10 (by decide) (fun hc => ?_) (fun hc => ?_)
  · rw [if_neg hc] at hF
    refine lv_iload_n (pc := 16) hx hb dX10_process_16 rfl (lv_at hl 2 rfl) ?_
    refine lv_i2l (pc := 17) hx hb dX10_process_17 rfl ?_
    refine lv_ldc2 (pc := 18) (v := (-10)) hx hb hown (hts _ tw_1188) dX10_process_18 ?_
    refine lv_ldc2 (pc := 21) (v := 10) hx hb hown (hts _ tw_1189) dX10_process_21 ?_
    refine r_cSp (pc := 24) (As := [.long (Int32.toInt64 vp2), .long (-10), .long 10]) (rest := []) CX P hl.1 hF ks_X10_85 (fun r q => c_X10_within l G B _ _ _ _ _ q) rfl rfl ⟨Nat.le_of_ble_eq_true rfl, Nat.le_of_ble_eq_true rfl⟩ (Nat.le_of_ble_eq_true rfl) ⟨Nat.le_of_ble_eq_true rfl, Nat.le_of_ble_eq_true rfl⟩ dX10_process_24 (fun v3 H locs P hF => ?_)
    refine lv_if_ne (pc := 27) (tgt := 33) hx hb dX10_process_27 (by decide) (fun hc => ?_) (fun hc => ?_)
    · rw [if_neg hc] at hF
      refine lv_aload_n (pc := 33) hx hb dX10_process_33 rfl (lv_at hl 0 rfl) ?_
      refine lv_iload_n (pc := 34) hx hb dX10_process_34 rfl (lv_at hl 1 rfl) ?_
      refine lv_iload_n (pc := 35) hx hb dX10_process_35 rfl (lv_at hl 2 rfl) ?_
      refine r_cVi (pc := 36) (As := [.int vp1, .int vp2]) (rest := []) CX P hl.1 hF kv_X10_231 (fun r h1 q => c_X10_comes l G B _ _ _ _ _ _ q) rfl rfl ⟨Nat.le_of_ble_eq_true rfl, Nat.le_of_ble_eq_true rfl⟩ (Nat.le_of_ble_eq_true rfl) ⟨Nat.le_of_ble_eq_true rfl, Nat.le_of_ble_eq_true rfl⟩ dX10_process_36 (fun v4 h5 H locs P hF => ?_)
      replace hF := un_i hF
      cases hF
      exact hret _ _ _ _ P rfl dX10_process_39
    · rw [if_pos hc] at hF
      refine lv_bipush (pc := 30) (v := (-3)) hx hb dX10_process_30 (by decide) ?_
      cases hF
      exact hret _ _ _ _ P rfl dX10_process_32
  · rw [if_pos hc] at hF
    refine lv_bipush (pc := 13) (v := (-2)) hx hb dX10_process_13 (by decide) ?_
    cases hF
    exact hret _ _ _ _ P rfl dX10_process_15
