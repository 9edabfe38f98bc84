def F_X5_measureSpares_L42 (a9 : Nat) (v10 : Int32) (v11 : Int32) (a12 : Nat) (v13 : Int32) (v14 : Int32) (h15 : Hp) : Option ((Int32 × Hp) ⊕ (Hp)) :=
(gI h15 a12 6 2).bind fun v16 =>
if v16 ≤ v14 then (
some (.inr h15)) else (
(gR h15 a12 6 1).bind fun a17 =>
(aI h15 a17 v14).bind fun v18 =>
if ((v13 >>> (v18 &&& 31)) &&& 1) = 0 then (
(gR h15 a9 5 1).bind fun a45 =>
(sI h15 a45 v18 0).bind fun h46 =>
bl (v14 + 1) fun v47 =>
some (.inl (v47, h46))) else (
(gR h15 a12 6 5).bind fun a19 =>
(aI h15 a19 v18).bind fun v20 =>
(gR h15 a9 5 0).bind fun a21 =>
(aI h15 a21 v18).bind fun v22 =>
bl (v20 - v22) fun v23 =>
(gR h15 a9 5 4).bind fun a24 =>
(if v18 = v10 then (
some (999 : Int32)) else (
(gR h15 a9 5 4).bind fun a26 =>
(gR h15 a12 6 0).bind fun a27 =>
(aI h15 a27 v18).bind fun v28 =>
(aI h15 a26 v28).bind fun v29 =>
some (mnI v29 v23 : Int32))).bind fun v30 =>
(sI h15 a24 v18 v30).bind fun h31 =>
(if v11 = 0 then (
(gR h31 a9 5 4).bind fun a35 =>
(aI h31 a35 v18).bind fun v36 =>
(gR h31 a9 5 5).bind fun a37 =>
(aI h31 a37 v18).bind fun v38 =>
some (mnI v36 v38 : Int32)) else (
(gR h31 a9 5 4).bind fun a33 =>
(aI h31 a33 v18).bind fun v34 =>
some (v34 : Int32))).bind fun v39 =>
(gR h31 a9 5 1).bind fun a40 =>
(gR h31 a9 5 1).bind fun a41 =>
(aI h31 a41 v18).bind fun v42 =>
(sI h31 a40 v18 (mnI v39 v42)).bind fun h43 =>
bl (v14 + 1) fun v44 =>
some (.inl (v44, h43))))
def F_X5_measureSpares (h : Hp) (a0 : Nat) (ap1 : Nat) (vp2 : Int32) (vp3 : Int32) (vp4 : Int32) : Option (Hp) :=
(gR h ap1 8 0).bind fun a1 =>
(cO h a0 5 (F_X5_partShares h a0 ap1 vp2 vp3)).bind fun h2 =>
(cO h2 a0 5 (F_X5_measureSwap h2 a0 ap1)).bind fun h3 =>
(cO h3 a1 6 (F_X6_bitsBelow h3 a1 vp2)).bind fun v4 =>
(gR h3 ap1 8 1).bind fun a5 =>
(gR h3 a0 5 1).bind fun a6 =>
(cO h3 a5 0 (F_X0_sumByGroup h3 a5 vp4 a6)).bind fun h7 =>
(loopF (fun x => F_X5_measureSpares_L42 a0 vp2 vp4 a1 v4 x.1 x.2) 6000 (0, h7)).bind fun h48 =>
some h48
set_option maxRecDepth 100000 in
set_option maxHeartbeats 4000000 in
theorem c_X5_measureSpares (l : Launch) (G : GG) (B : Nat) (h : Hp) (a0 : Nat) (ap1 : Nat) (vp2 : Int32) (vp3 : Int32) (vp4 : Int32) (hr : Hp) (hF : F_X5_measureSpares h a0 ap1 vp2 vp3 vp4 = some hr) : CV l yX5_measureSpares cX5_measureSpares 11 2 69 0 0 G B h [.ref (B + a0), .ref (B + ap1), .int vp2, .int vp3, .int vp4] hr := by
  refine ent_v rfl (Nat.le_of_ble_eq_true rfl) ?_
  intro p e s m args below meth c ls Q CX hnm hret P hl
  have CX : Cxt p m c cX5_measureSpares 11 s args RX5 G B := CX
  obtain ⟨⟨hx, hb, hml, hown, hts⟩, -, -⟩ := id CX
  replace hl : lv_has ls 11 [(0, .ref (B + a0)), (1, .ref (B + ap1)), (2, .int vp2), (3, .int vp3), (4, .int vp4)] := hl
  generalize s.heap = H at P ⊢
  generalize ([] : List Loc) = locs at P ⊢
  unfold F_X5_measureSpares at hF
  refine lv_aload_n (pc := 0) hx hb dX5_measureSpares_0 rfl (lv_at hl 1 rfl) ?_
  refine r_gR (pc := 1) CX P hF fl_X5_30 dX5_measureSpares_1 (fun a1 hF => ?_)
  refine lv_astore (pc := 4) hx hb dX5_measureSpares_4 hl (by decide) rfl (fun ls hl => ?_)
  replace hl : lv_has ls 11 [(5, .ref (B + a1)), (0, .ref (B + a0)), (1, .ref (B + ap1)), (2, .int vp2), (3, .int vp3), (4, .int vp4)] := hl
  refine lv_aload_n (pc := 6) hx hb dX5_measureSpares_6 rfl (lv_at hl 1 rfl) ?_
  refine lv_aload_n (pc := 7) hx hb dX5_measureSpares_7 rfl (lv_at hl 2 rfl) ?_
  refine lv_iload_n (pc := 8) hx hb dX5_measureSpares_8 rfl (lv_at hl 3 rfl) ?_
  refine lv_iload_n (pc := 9) hx hb dX5_measureSpares_9 rfl (lv_at hl 4 rfl) ?_
  refine r_cVv (pc := 10) (As := [.ref (B + ap1), .int vp2, .int vp3]) (rest := []) CX P hl.1 hF kv_X5_71 (fun h1 q => c_X5_partShares l G B _ _ _ _ _ _ q) rfl rfl ⟨Nat.le_of_ble_eq_true rfl, Nat.le_of_ble_eq_true rfl⟩ (Nat.le_of_ble_eq_true rfl) ⟨Nat.le_of_ble_eq_true rfl, Nat.le_of_ble_eq_true rfl⟩ dX5_measureSpares_10 (fun h2 H locs P hF => ?_)
  refine lv_aload_n (pc := 13) hx hb dX5_measureSpares_13 rfl (lv_at hl 1 rfl) ?_
  refine lv_aload_n (pc := 14) hx hb dX5_measureSpares_14 rfl (lv_at hl 2 rfl) ?_
  refine r_cVv (pc := 15) (As := [.ref (B + ap1)]) (rest := []) CX P hl.1 hF kv_X5_75 (fun h1 q => c_X5_measureSwap l G B _ _ _ _ q) rfl rfl ⟨Nat.le_of_ble_eq_true rfl, Nat.le_of_ble_eq_true rfl⟩ (Nat.le_of_ble_eq_true rfl) ⟨Nat.le_of_ble_eq_true rfl, Nat.le_of_ble_eq_true rfl⟩ dX5_measureSpares_15 (fun h3 H locs P hF => ?_)
  refine lv_aload (pc := 18) hx hb dX5_measureSpares_18 (lv_at hl 0 rfl) ?_
  refine lv_iload_n (pc := 20) hx hb dX5_measureSpares_20 rfl (lv_at hl 3 rfl) ?_
  refine r_cVp (pc := 21) (As := [.int vp2]) (rest := []) CX P hl.1 hF kv_X5_42 (fun r q => c_X6_bitsBelow l G B _ _ _ _ q) rfl rfl ⟨Nat.le_of_ble_eq_true rfl, Nat.le_of_ble_eq_true rfl⟩ (Nat.le_of_ble_eq_true rfl) ⟨Nat.le_of_ble_eq_true rfl, Nat.le_of_ble_eq_true rfl⟩ dX5_measureSpares_21 (fun v4 H locs P hF => ?_)
  refine lv_istore (pc := 24) hx hb dX5_measureSpares_24 hl (by decide) rfl (fun ls hl => ?_)
  replace hl : lv_has ls 11 [(6, .int v4), (5, .ref (B + a1)), (0, .ref (B + a0)), (1, .ref (B + ap1)), (2, .int vp2), (3, .int vp3), (4, .int vp4)] := hl
  refine lv_aload_n (pc := 26) hx hb dX5_measureSpares_26 rfl (lv_at hl 3 rfl) ?_
  refine r_gR (pc := 27) CX P hF fl_X5_79 dX5_measureSpares_27 (fun a5 hF => ?_)
  refine lv_iload (pc := 30) hx hb dX5_measureSpares_30 (lv_at hl 6 rfl) ?_
  refine lv_aload_n (pc := 32) hx hb dX5_measureSpares_32 rfl (lv_at hl 2 rfl) ?_
  refine r_gR (pc := 33) CX P hF fl_X5_15 dX5_measureSpares_33 (fun a6 hF => ?_)
  refine r_cVv (pc := 36) (As := [.int vp4, .ref (B + a6)]) (rest := []) CX P hl.1 hF kv_X5_83 (fun h1 q => c_X0_sumByGroup l G B _ _ _ _ _ q) rfl rfl ⟨Nat.le_of_ble_eq_true rfl, Nat.le_of_ble_eq_true rfl⟩ (Nat.le_of_ble_eq_true rfl) ⟨Nat.le_of_ble_eq_true rfl, Nat.le_of_ble_eq_true rfl⟩ dX5_measureSpares_36 (fun h7 H locs P hF => ?_)
  refine lv_iconst (pc := 39) (v := 0) hx hb dX5_measureSpares_39 (by decide) ?_
  refine lv_istore (pc := 40) hx hb dX5_measureSpares_40 hl (by decide) rfl (fun ls hl => ?_)
  replace hl : lv_has ls 11 [(7, .int 0), (6, .int v4), (5, .ref (B + a1)), (0, .ref (B + a0)), (1, .ref (B + ap1)), (2, .int vp2), (3, .int vp3), (4, .int vp4)] := hl
  obtain ⟨r8, hLp8, hK8⟩ := bd_some hF
  have hX8 : ∀ (h48 : Hp) (H : Heap) (locs : List Loc) (ls : Array Slot), Pic G B h48 s H locs → lv_has ls 11 [] → h48 = r8 → W p l e (rmM 2 69 0 0) s m args below meth c H locs 0 0 Q (F0 m 197 ls []) := by
    intro h48 H locs ls P hl er
    subst er
    have hF := hK8
    cases hF
    exact hret _ _ _ _ P dX5_measureSpares_197
  have hL8 : ∀ (n : Nat) (v14 : Int32) (h15 : Hp) (H : Heap) (locs : List Loc) (ls : Array Slot), Pic G B h15 s H locs → lv_has ls 11 [(0, .ref (B + a0)), (2, .int vp2), (4, .int vp4), (5, .ref (B + a1)), (6, .int v4), (7, .int v14)] → loopF (fun x => F_X5_measureSpares_L42 a0 vp2 vp4 a1 v4 x.1 x.2) n (v14, h15) = some r8 → W p l e (rmM 2 69 0 0) s m args below meth c H locs 0 0 Q (F0 m 42 ls []) := by
    intro n
    induction n with
    | zero => intro v14 h15 H locs ls P hl hq; cases hq
    | succ n ih =>
      intro v14 h15 H locs ls P hl hq
      obtain ⟨z8, hS8, hI8, hR8⟩ := loop_some hq
      have hF : F_X5_measureSpares_L42 a0 vp2 vp4 a1 v4 v14 h15 = some z8 := hS8
      unfold F_X5_measureSpares_L42 at hF
      refine lv_iload (pc := 42) hx hb dX5_measureSpares_42 (lv_at hl 5 rfl) ?_
      refine lv_aload (pc := 44) hx hb dX5_measureSpares_44 (lv_at hl 3 rfl) ?_
      refine r_gI (pc := 46) CX P hF fl_X5_52 dX5_measureSpares_46 (fun v16 hF => ?_)
      refine lv_icmp_ge (pc := 49) (tgt := 197) hx hb dX5_measureSpares_49 (by decide) (fun hc => ?_) (fun hc => ?_)
      · rw [if_pos hc] at hF
        exact hX8 _ _ _ _ P (lv_sub hl [] rfl) (hR8 _ (Option.some.inj hF).symm)
      · rw [if_neg hc] at hF
        refine lv_aload (pc := 52) hx hb dX5_measureSpares_52 (lv_at hl 3 rfl) ?_
        refine r_gR (pc := 54) CX P hF fl_X5_56 dX5_measureSpares_54 (fun a17 hF => ?_)
        refine lv_iload (pc := 57) hx hb dX5_measureSpares_57 (lv_at hl 5 rfl) ?_
        refine r_aI (pc := 59) CX P hF dX5_measureSpares_59 (fun v18 hF => ?_)
        refine lv_istore (pc := 60) hx hb dX5_measureSpares_60 hl (by decide) rfl (fun ls hl => ?_)
        replace hl : lv_has ls 11 [(8, .int v18), (0, .ref (B + a0)), (2, .int vp2), (4, .int vp4), (5, .ref (B + a1)), (6, .int v4), (7, .int v14)] := hl
        refine lv_iload (pc := 62) hx hb dX5_measureSpares_62 (lv_at hl 5 rfl) ?_
        refine lv_iload (pc := 64) hx hb dX5_measureSpares_64 (lv_at hl 0 rfl) ?_
        refine lv_ishr (pc := 66) hx hb dX5_measureSpares_66 ?_
        refine lv_iconst (pc := 67) (v := 1) hx hb dX5_measureSpares_67 (by decide) ?_
        refine lv_iand (pc := 68) hx hb dX5_measureSpares_68 ?_
        refine lv_if_ne (pc := 69) (tgt := 83) hx hb dX5_measureSpares_69 (by decide) (fun hc => ?_) (fun hc => ?_)
        · rw [if_neg hc] at hF
          refine lv_aload (pc := 83) hx hb dX5_measureSpares_83 (lv_at hl 4 rfl) ?_
          refine r_gR (pc := 85) CX P hF fl_X5_59 dX5_measureSpares_85 (fun a19 hF => ?_)
          refine lv_iload (pc := 88) hx hb dX5_measureSpares_88 (lv_at hl 0 rfl) ?_
          refine r_aI (pc := 90) CX P hF dX5_measureSpares_90 (fun v20 hF => ?_)
          refine lv_aload_n (pc := 91) hx hb dX5_measureSpares_91 rfl (lv_at hl 1 rfl) ?_
          refine r_gR (pc := 92) CX P hF fl_X5_9 dX5_measureSpares_92 (fun a21 hF => ?_)
          refine lv_iload (pc := 95) hx hb dX5_measureSpares_95 (lv_at hl 0 rfl) ?_
          refine r_aI (pc := 97) CX P hF dX5_measureSpares_97 (fun v22 hF => ?_)
          refine lv_isub (pc := 98) hx hb dX5_measureSpares_98 ?_
          refine lv_topi (fun v23 ev23 => ?_)
          replace hF := bl_e hF ev23
          refine lv_istore (pc := 99) hx hb dX5_measureSpares_99 hl (by decide) rfl (fun ls hl => ?_)
          replace hl : lv_has ls 11 [(9, .int v23), (8, .int v18), (0, .ref (B + a0)), (2, .int vp2), (4, .int vp4), (5, .ref (B + a1)), (6, .int v4), (7, .int v14)] := hl
          refine lv_aload_n (pc := 101) hx hb dX5_measureSpares_101 rfl (lv_at hl 2 rfl) ?_
          refine r_gR (pc := 102) CX P hF fl_X5_24 dX5_measureSpares_102 (fun a24 hF => ?_)
          refine lv_iload (pc := 105) hx hb dX5_measureSpares_105 (lv_at hl 1 rfl) ?_
          refine lv_iload (pc := 107) hx hb dX5_measureSpares_107 (lv_at hl 1 rfl) ?_
          refine lv_iload_n (pc := 109) hx hb dX5_measureSpares_109 rfl (lv_at hl 3 rfl) ?_
          obtain ⟨j25, hA25, hK25⟩ := bd_some hF
          have hJ25 : ∀ (v30 : Int32) (H : Heap) (locs : List Loc) (ls : Array Slot), Pic G B h15 s H locs → lv_has ls 11 [(0, .ref (B + a0)), (2, .int vp2), (4, .int vp4), (5, .ref (B + a1)), (6, .int v4), (7, .int v14), (8, .int v18)] → v30 = j25 → W p l e (rmM 2 69 0 0) s m args below meth c H locs 0 0 Q (F0 m 137 ls [.int v30, .int v18, .ref (B + a24)]) := by
            intro v30 H locs ls P hl ej
            subst ej
            have hF := hK25
            refine r_sI (pc := 137) CX P hF dX5_measureSpares_137 (fun h31 H locs P hF => ?_)
            refine lv_iload (pc := 138) hx hb dX5_measureSpares_138 (lv_at hl 2 rfl) ?_
            obtain ⟨j32, hA32, hK32⟩ := bd_some hF
            have hJ32 : ∀ (v39 : Int32) (H : Heap) (locs : List Loc) (ls : Array Slot), Pic G B h31 s H locs → lv_has ls 11 [(0, .ref (B + a0)), (2, .int vp2), (4, .int vp4), (5, .ref (B + a1)), (6, .int v4), (7, .int v14), (8, .int v18)] → v39 = j32 → W p l e (rmM 2 69 0 0) s m args below meth c H locs 0 0 Q (F0 m 170 ls [.int v39]) := by
              intro v39 H locs ls P hl ej
              subst ej
              have hF := hK32
              refine lv_istore (pc := 170) hx hb dX5_measureSpares_170 hl (by decide) rfl (fun ls hl => ?_)
              replace hl : lv_has ls 11 [(10, .int v39), (0, .ref (B + a0)), (2, .int vp2), (4, .int vp4), (5, .ref (B + a1)), (6, .int v4), (7, .int v14), (8, .int v18)] := hl
              refine lv_aload_n (pc := 172) hx hb dX5_measureSpares_172 rfl (lv_at hl 1 rfl) ?_
              refine r_gR (pc := 173) CX P hF fl_X5_15 dX5_measureSpares_173 (fun a40 hF => ?_)
              refine lv_iload (pc := 176) hx hb dX5_measureSpares_176 (lv_at hl 7 rfl) ?_
              refine lv_iload (pc := 178) hx hb dX5_measureSpares_178 (lv_at hl 0 rfl) ?_
              refine lv_aload_n (pc := 180) hx hb dX5_measureSpares_180 rfl (lv_at hl 1 rfl) ?_
              refine r_gR (pc := 181) CX P hF fl_X5_15 dX5_measureSpares_181 (fun a41 hF => ?_)
              refine lv_iload (pc := 184) hx hb dX5_measureSpares_184 (lv_at hl 7 rfl) ?_
              refine r_aI (pc := 186) CX P hF dX5_measureSpares_186 (fun v42 hF => ?_)
              refine r_mn (pc := 187) CX hl.1 tw_467 tw_468 tw_14 tw_469 (Nat.le_of_ble_eq_true rfl) (Nat.le_of_ble_eq_true rfl) (Nat.le_of_ble_eq_true rfl) (Nat.le_of_ble_eq_true rfl) dX5_measureSpares_187 ?_
              refine r_sI (pc := 190) CX P hF dX5_measureSpares_190 (fun h43 H locs P hF => ?_)
              obtain ⟨v44, ev44, hF⟩ := bl_o hF
              refine lv_iinc (pc := 191) (k := 6) (v := v44) hx hb dX5_measureSpares_191 hl rfl ev44 (by decide) rfl (fun ls hl => ?_)
              replace hl : lv_has ls 11 [(7, .int v44), (10, .int v39), (0, .ref (B + a0)), (2, .int vp2), (4, .int vp4), (5, .ref (B + a1)), (6, .int v4), (8, .int v18)] := hl
              refine lv_goto (pc := 194) (tgt := 42) hx hb dX5_measureSpares_194 (by decide) ?_
              exact ih _ _ _ _ _ P (lv_sub hl [2, 3, 4, 5, 6, 0] rfl) (hI8 _ (Option.some.inj hF).symm)
            replace hF := hA32
            refine lv_if_ne (pc := 140) (tgt := 163) hx hb dX5_measureSpares_140 (by decide) (fun hc => ?_) (fun hc => ?_)
            · rw [if_neg hc] at hF
              refine lv_aload_n (pc := 163) hx hb dX5_measureSpares_163 rfl (lv_at hl 0 rfl) ?_
              refine r_gR (pc := 164) CX P hF fl_X5_24 dX5_measureSpares_164 (fun a33 hF => ?_)
              refine lv_iload (pc := 167) hx hb dX5_measureSpares_167 (lv_at hl 6 rfl) ?_
              refine r_aI (pc := 169) CX P hF dX5_measureSpares_169 (fun v34 hF => ?_)
              exact hJ32 _ _ _ _ P (lv_sub hl [0, 1, 2, 3, 4, 5, 6] rfl) (Option.some.inj hF)
            · rw [if_pos hc] at hF
              refine lv_aload_n (pc := 143) hx hb dX5_measureSpares_143 rfl (lv_at hl 0 rfl) ?_
              refine r_gR (pc := 144) CX P hF fl_X5_24 dX5_measureSpares_144 (fun a35 hF => ?_)
              refine lv_iload (pc := 147) hx hb dX5_measureSpares_147 (lv_at hl 6 rfl) ?_
              refine r_aI (pc := 149) CX P hF dX5_measureSpares_149 (fun v36 hF => ?_)
              refine lv_aload_n (pc := 150) hx hb dX5_measureSpares_150 rfl (lv_at hl 0 rfl) ?_
              refine r_gR (pc := 151) CX P hF fl_X5_27 dX5_measureSpares_151 (fun a37 hF => ?_)
              refine lv_iload (pc := 154) hx hb dX5_measureSpares_154 (lv_at hl 6 rfl) ?_
              refine r_aI (pc := 156) CX P hF dX5_measureSpares_156 (fun v38 hF => ?_)
              refine r_mn (pc := 157) CX hl.1 tw_467 tw_468 tw_14 tw_469 (Nat.le_of_ble_eq_true rfl) (Nat.le_of_ble_eq_true rfl) (Nat.le_of_ble_eq_true rfl) (Nat.le_of_ble_eq_true rfl) dX5_measureSpares_157 ?_
              refine lv_goto (pc := 160) (tgt := 170) hx hb dX5_measureSpares_160 (by decide) ?_
              exact hJ32 _ _ _ _ P (lv_sub hl [0, 1, 2, 3, 4, 5, 6] rfl) (Option.some.inj hF)
          replace hF := hA25
          refine lv_icmp_ne (pc := 110) (tgt := 119) hx hb dX5_measureSpares_110 (by decide) (fun hc => ?_) (fun hc => ?_)
          · rw [if_neg hc] at hF
            refine lv_aload_n (pc := 119) hx hb dX5_measureSpares_119 rfl (lv_at hl 2 rfl) ?_
            refine r_gR (pc := 120) CX P hF fl_X5_24 dX5_measureSpares_120 (fun a26 hF => ?_)
            refine lv_aload (pc := 123) hx hb dX5_measureSpares_123 (lv_at hl 5 rfl) ?_
            refine r_gR (pc := 125) CX P hF fl_X5_68 dX5_measureSpares_125 (fun a27 hF => ?_)
            refine lv_iload (pc := 128) hx hb dX5_measureSpares_128 (lv_at hl 1 rfl) ?_
            refine r_aI (pc := 130) CX P hF dX5_measureSpares_130 (fun v28 hF => ?_)
            refine r_aI (pc := 131) CX P hF dX5_measureSpares_131 (fun v29 hF => ?_)
            refine lv_iload (pc := 132) hx hb dX5_measureSpares_132 (lv_at hl 0 rfl) ?_
            refine r_mn (pc := 134) CX hl.1 tw_467 tw_468 tw_14 tw_469 (Nat.le_of_ble_eq_true rfl) (Nat.le_of_ble_eq_true rfl) (Nat.le_of_ble_eq_true rfl) (Nat.le_of_ble_eq_true rfl) dX5_measureSpares_134 ?_
            exact hJ25 _ _ _ _ P (lv_sub hl [2, 3, 4, 5, 6, 7, 1] rfl) (Option.some.inj hF)
          · rw [if_pos hc] at hF
            refine lv_sipush (pc := 113) (v := 999) hx hb dX5_measureSpares_113 (by decide) ?_
            refine lv_goto (pc := 116) (tgt := 137) hx hb dX5_measureSpares_116 (by decide) ?_
            exact hJ25 _ _ _ _ P (lv_sub hl [2, 3, 4, 5, 6, 7, 1] rfl) (Option.some.inj hF)
        · rw [if_pos hc] at hF
          refine lv_aload_n (pc := 72) hx hb dX5_measureSpares_72 rfl (lv_at hl 1 rfl) ?_
          refine r_gR (pc := 73) CX P hF fl_X5_15 dX5_measureSpares_73 (fun a45 hF => ?_)
          refine lv_iload (pc := 76) hx hb dX5_measureSpares_76 (lv_at hl 0 rfl) ?_
          refine lv_iconst (pc := 78) (v := 0) hx hb dX5_measureSpares_78 (by decide) ?_
          refine r_sI (pc := 79) CX P hF dX5_measureSpares_79 (fun h46 H locs P hF => ?_)
          refine lv_goto (pc := 80) (tgt := 191) hx hb dX5_measureSpares_80 (by decide) ?_
          obtain ⟨v47, ev47, hF⟩ := bl_o hF
          refine lv_iinc (pc := 191) (k := 6) (v := v47) hx hb dX5_measureSpares_191 hl rfl ev47 (by decide) rfl (fun ls hl => ?_)
          replace hl : lv_has ls 11 [(7, .int v47), (8, .int v18), (0, .ref (B + a0)), (2, .int vp2), (4, .int vp4), (5, .ref (B + a1)), (6, .int v4)] := hl
          refine lv_goto (pc := 194) (tgt := 42) hx hb dX5_measureSpares_194 (by decide) ?_
          exact ih _ _ _ _ _ P (lv_sub hl [2, 3, 4, 5, 6, 0] rfl) (hI8 _ (Option.some.inj hF).symm)
  exact hL8 _ _ _ _ _ _ P (lv_sub hl [3, 5, 7, 2, 1, 0] rfl) hLp8
def F_X5_richestGroup_L6 (h6 : Hp) (a2 : Nat) (v3 : Int32) (v4 : Int32) (v5 : Int32) : Option ((Int32 × Int32 × Int32) ⊕ (Int32)) :=
if 12 ≤ v5 then (
some (.inr v3)) else (
(gR h6 a2 5 1).bind fun a7 =>
(aI h6 a7 v5).bind fun v8 =>
if v8 ≤ v4 then (
bl (v5 + 1) fun v9 =>
some (.inl (v3, v4, v9))) else (
(gR h6 a2 5 1).bind fun a10 =>
(aI h6 a10 v5).bind fun v11 =>
bl (v5 + 1) fun v12 =>
some (.inl (v5, v11, v12))))
def F_X5_richestGroup (h : Hp) (a0 : Nat) : Option (Int32) :=
(loopF (fun x => F_X5_richestGroup_L6 h a0 x.1 x.2.1 x.2.2) 6000 ((-1), 0, 0)).bind fun v13 =>
some v13
set_option maxRecDepth 100000 in
set_option maxHeartbeats 4000000 in
theorem c_X5_richestGroup (l : Launch) (G : GG) (B : Nat) (h : Hp) (a0 : Nat) (r0 : Int32) (hF : F_X5_richestGroup h a0 = some r0) : CI l yX5_richestGroup cX5_richestGroup 4 .int 0 0 0 0 G B h [.ref (B + a0)] r0 h := by
  refine ent_i rfl (Nat.le_of_ble_eq_true rfl) ?_
  intro p e s m args below meth c ls Q CX hnm hret P hl
  have CX : Cxt p m c cX5_richestGroup 4 s args RX5 G B := CX
  obtain ⟨⟨hx, hb, hml, hown, hts⟩, -, -⟩ := id CX
  replace hl : lv_has ls 4 [(0, .ref (B + a0))] := hl
  generalize s.heap = H at P ⊢
  generalize ([] : List Loc) = locs at P ⊢
  unfold F_X5_richestGroup at hF
  refine lv_iconst (pc := 0) (v := (-1)) hx hb dX5_richestGroup_0 (by decide) ?_
  refine lv_istore_n (pc := 1) hx hb dX5_richestGroup_1 rfl hl (by decide) rfl (fun ls hl => ?_)
  replace hl : lv_has ls 4 [(1, .int (-1)), (0, .ref (B + a0))] := hl
  refine lv_iconst (pc := 2) (v := 0) hx hb dX5_richestGroup_2 (by decide) ?_
  refine lv_istore_n (pc := 3) hx hb dX5_richestGroup_3 rfl hl (by decide) rfl (fun ls hl => ?_)
  replace hl : lv_has ls 4 [(2, .int 0), (1, .int (-1)), (0, .ref (B + a0))] := hl
  refine lv_iconst (pc := 4) (v := 0) hx hb dX5_richestGroup_4 (by decide) ?_
  refine lv_istore_n (pc := 5) hx hb dX5_richestGroup_5 rfl hl (by decide) rfl (fun ls hl => ?_)
  replace hl : lv_has ls 4 [(3, .int 0), (2, .int 0), (1, .int (-1)), (0, .ref (B + a0))] := hl
  obtain ⟨r1, hLp1, hK1⟩ := bd_some hF
  have hX1 : ∀ (v13 : Int32) (H : Heap) (locs : List Loc) (ls : Array Slot), Pic G B h s H locs → lv_has ls 4 [(1, .int v13)] → v13 = r1 → W p l e (rmM 0 0 0 0) s m args below meth c H locs 0 0 Q (F0 m 37 ls []) := by
    intro v13 H locs ls P hl er
    subst er
    have hF := hK1
    refine lv_iload_n (pc := 37) hx hb dX5_richestGroup_37 rfl (lv_at hl 0 rfl) ?_
    cases hF
    exact hret _ _ _ _ P rfl dX5_richestGroup_38
  have hL1 : ∀ (n : Nat) (v3 : Int32) (v4 : Int32) (v5 : Int32) (H : Heap) (locs : List Loc) (ls : Array Slot), Pic G B h s H locs → lv_has ls 4 [(0, .ref (B + a0)), (1, .int v3), (2, .int v4), (3, .int v5)] → loopF (fun x => F_X5_richestGroup_L6 h a0 x.1 x.2.1 x.2.2) n (v3, v4, v5) = some r1 → W p l e (rmM 0 0 0 0) s m args below meth c H locs 0 0 Q (F0 m 6 ls []) := by
    intro n
    induction n with
    | zero => intro v3 v4 v5 H locs ls P hl hq; cases hq
    | succ n ih =>
      intro v3 v4 v5 H locs ls P hl hq
      obtain ⟨z1, hS1, hI1, hR1⟩ := loop_some hq
      have hF : F_X5_richestGroup_L6 h a0 v3 v4 v5 = some z1 := hS1
      unfold F_X5_richestGroup_L6 at hF
      refine lv_iload_n (pc := 6) hx hb dX5_richestGroup_6 rfl (lv_at hl 3 rfl) ?_
      refine lv_bipush (pc := 7) (v := 12) hx hb dX5_richestGroup_7 (by decide) ?_
      refine lv_icmp_ge (pc := 9) (tgt := 37) hx hb dX5_richestGroup_9 (by decide) (fun hc => ?_) (fun hc => ?_)
      · rw [if_pos hc] at hF
        exact hX1 _ _ _ _ P (lv_sub hl [1] rfl) (hR1 _ (Option.some.inj hF).symm)
      · rw [if_neg hc] at hF
        refine lv_aload_n (pc := 12) hx hb dX5_richestGroup_12 rfl (lv_at hl 0 rfl) ?_
        refine r_gR (pc := 13) CX P hF fl_X5_15 dX5_richestGroup_13 (fun a7 hF => ?_)
        refine lv_iload_n (pc := 16) hx hb dX5_richestGroup_16 rfl (lv_at hl 3 rfl) ?_
        refine r_aI (pc := 17) CX P hF dX5_richestGroup_17 (fun v8 hF => ?_)
        refine lv_iload_n (pc := 18) hx hb dX5_richestGroup_18 rfl (lv_at hl 2 rfl) ?_
        refine lv_icmp_le (pc := 19) (tgt := 31) hx hb dX5_richestGroup_19 (by decide) (fun hc => ?_) (fun hc => ?_)
        · rw [if_pos hc] at hF
          obtain ⟨v9, ev9, hF⟩ := bl_o hF
          refine lv_iinc (pc := 31) (k := 3) (v := v9) hx hb dX5_richestGroup_31 hl rfl ev9 (by decide) rfl (fun ls hl => ?_)
          replace hl : lv_has ls 4 [(3, .int v9), (0, .ref (B + a0)), (1, .int v3), (2, .int v4)] := hl
          refine lv_goto (pc := 34) (tgt := 6) hx hb dX5_richestGroup_34 (by decide) ?_
          exact ih _ _ _ _ _ _ P (lv_sub hl [1, 2, 3, 0] rfl) (hI1 _ (Option.some.inj hF).symm)
        · rw [if_neg hc] at hF
          refine lv_aload_n (pc := 22) hx hb dX5_richestGroup_22 rfl (lv_at hl 0 rfl) ?_
          refine r_gR (pc := 23) CX P hF fl_X5_15 dX5_richestGroup_23 (fun a10 hF => ?_)
          refine lv_iload_n (pc := 26) hx hb dX5_richestGroup_26 rfl (lv_at hl 3 rfl) ?_
          refine r_aI (pc := 27) CX P hF dX5_richestGroup_27 (fun v11 hF => ?_)
          refine lv_istore_n (pc := 28) hx hb dX5_richestGroup_28 rfl hl (by decide) rfl (fun ls hl => ?_)
          replace hl : lv_has ls 4 [(2, .int v11), (0, .ref (B + a0)), (1, .int v3), (3, .int v5)] := hl
          refine lv_iload_n (pc := 29) hx hb dX5_richestGroup_29 rfl (lv_at hl 3 rfl) ?_
          refine lv_istore_n (pc := 30) hx hb dX5_richestGroup_30 rfl hl (by decide) rfl (fun ls hl => ?_)
          replace hl : lv_has ls 4 [(1, .int v5), (2, .int v11), (0, .ref (B + a0)), (3, .int v5)] := hl
          obtain ⟨v12, ev12, hF⟩ := bl_o hF
          refine lv_iinc (pc := 31) (k := 3) (v := v12) hx hb dX5_richestGroup_31 hl rfl ev12 (by decide) rfl (fun ls hl => ?_)
          replace hl : lv_has ls 4 [(3, .int v12), (1, .int v5), (2, .int v11), (0, .ref (B + a0))] := hl
          refine lv_goto (pc := 34) (tgt := 6) hx hb dX5_richestGroup_34 (by decide) ?_
          exact ih _ _ _ _ _ _ P (lv_sub hl [3, 1, 2, 0] rfl) (hI1 _ (Option.some.inj hF).symm)
  exact hL1 _ _ _ _ _ _ _ P (lv_sub hl [3, 2, 1, 0] rfl) hLp1
def F_X5_takeStep (h : Hp) (a0 : Nat) (ap1 : Nat) (vp2 : Int32) (vp3 : Int32) (vp4 : Int32) : Option (Int32 × Hp) :=
(gR h ap1 8 1).bind fun a1 =>
(cO h a1 0 (F_X0_richestIn h a1 vp2 vp3)).bind fun v2 =>
if v2 = (-1) then (
some (0, h)) else (
(gR h a0 5 1).bind fun a3 =>
(aI h a3 vp2).bind fun v4 =>
bl (mnI 4 (mnI vp4 v4)) fun v5 =>
(gR h ap1 8 1).bind fun a6 =>
(gR h a6 0 2).bind fun a7 =>
(aR h a7 15 vp3).bind fun a8 =>
(aI h a8 v2).bind fun v9 =>
bl (mnI v5 v9) fun v10 =>
(cO h ap1 8 (F_X8_addPages h ap1 v2 vp3 (-v10))).bind fun h11 =>
if vp3 = 0 then (
(cO h11 ap1 8 (F_X8_swapOut h11 ap1 v2 v10)).bind fun h12 =>
some (v10, h12)) else (
some (v10, h11)))
set_option maxRecDepth 100000 in
set_option maxHeartbeats 4000000 in
theorem c_X5_takeStep (l : Launch) (G : GG) (B : Nat) (h : Hp) (a0 : Nat) (ap1 : Nat) (vp2 : Int32) (vp3 : Int32) (vp4 : Int32) (r0 : Int32) (hr : Hp) (hF : F_X5_takeStep h a0 ap1 vp2 vp3 vp4 = some (r0, hr)) : CI l yX5_takeStep cX5_takeStep 8 .int 2 47 0 0 G B h [.ref (B + a0), .ref (B + ap1), .int vp2, .int vp3, .int vp4] r0 hr := by
  refine ent_i rfl (Nat.le_of_ble_eq_true rfl) ?_
  intro p e s m args below meth c ls Q CX hnm hret P hl
  have CX : Cxt p m c cX5_takeStep 8 s args RX5 G B := CX
  obtain ⟨⟨hx, hb, hml, hown, hts⟩, -, -⟩ := id CX
  replace hl : lv_has ls 8 [(0, .ref (B + a0)), (1, .ref (B + ap1)), (2, .int vp2), (3, .int vp3), (4, .int vp4)] := hl
  generalize s.heap = H at P ⊢
  generalize ([] : List Loc) = locs at P ⊢
  unfold F_X5_takeStep at hF
  refine lv_aload_n (pc := 0) hx hb dX5_takeStep_0 rfl (lv_at hl 1 rfl) ?_
  refine r_gR (pc := 1) CX P hF fl_X5_79 dX5_takeStep_1 (fun a1 hF => ?_)
  refine lv_iload_n (pc := 4) hx hb dX5_takeStep_4 rfl (lv_at hl 2 rfl) ?_
  refine lv_iload_n (pc := 5) hx hb dX5_takeStep_5 rfl (lv_at hl 3 rfl) ?_
  refine r_cVp (pc := 6) (As := [.int vp2, .int vp3]) (rest := []) CX P hl.1 hF kv_X5_116 (fun r q => c_X0_richestIn l G B _ _ _ _ _ q) rfl rfl ⟨Nat.le_of_ble_eq_true rfl, Nat.le_of_ble_eq_true rfl⟩ (Nat.le_of_ble_eq_true rfl) ⟨Nat.le_of_ble_eq_true rfl, Nat.le_of_ble_eq_true rfl⟩ dX5_takeStep_6 (fun v2 H locs P hF => ?_)
  refine lv_istore (pc := 9) hx hb dX5_takeStep_9 hl (by decide) rfl (fun ls hl => ?_)
  replace hl : lv_has ls 8 [(5, .int v2), (0, .ref (B + a0)), (1, .ref (B + ap1)), (2, .int vp2), (3, .int vp3), (4, .int vp4)] := hl
  refine lv_iload (pc := 11) hx hb dX5_takeStep_11 (lv_at hl 0 rfl) ?_
  refine lv_iconst (pc := 13) (v := (-1)) hx hb dX5_takeStep_13 (by decide) ?_
  refine lv_icmp_ne (pc := 14) (tgt := 19) hx hb dX5_takeStep_14 (by decide) (fun hc => ?_) (fun hc => ?_)
  · rw [if_neg hc] at hF
    refine lv_iconst (pc := 19) (v := 4) hx hb dX5_takeStep_19 (by decide) ?_
    refine lv_iload (pc := 20) hx hb dX5_takeStep_20 (lv_at hl 5 rfl) ?_
    refine lv_aload_n (pc := 22) hx hb dX5_takeStep_22 rfl (lv_at hl 1 rfl) ?_
    refine r_gR (pc := 23) CX P hF fl_X5_15 dX5_takeStep_23 (fun a3 hF => ?_)
    refine lv_iload_n (pc := 26) hx hb dX5_takeStep_26 rfl (lv_at hl 3 rfl) ?_
    refine r_aI (pc := 27) CX P hF dX5_takeStep_27 (fun v4 hF => ?_)
    refine r_mn (pc := 28) CX hl.1 tw_467 tw_468 tw_14 tw_469 (Nat.le_of_ble_eq_true rfl) (Nat.le_of_ble_eq_true rfl) (Nat.le_of_ble_eq_true rfl) (Nat.le_of_ble_eq_true rfl) dX5_takeStep_28 ?_
    refine r_mn (pc := 31) CX hl.1 tw_467 tw_468 tw_14 tw_469 (Nat.le_of_ble_eq_true rfl) (Nat.le_of_ble_eq_true rfl) (Nat.le_of_ble_eq_true rfl) (Nat.le_of_ble_eq_true rfl) dX5_takeStep_31 ?_
    refine lv_topi (fun v5 ev5 => ?_)
    replace hF := bl_e hF ev5
    refine lv_istore (pc := 34) hx hb dX5_takeStep_34 hl (by decide) rfl (fun ls hl => ?_)
    replace hl : lv_has ls 8 [(6, .int v5), (5, .int v2), (0, .ref (B + a0)), (1, .ref (B + ap1)), (2, .int vp2), (3, .int vp3), (4, .int vp4)] := hl
    refine lv_iload (pc := 36) hx hb dX5_takeStep_36 (lv_at hl 0 rfl) ?_
    refine lv_aload_n (pc := 38) hx hb dX5_takeStep_38 rfl (lv_at hl 3 rfl) ?_
    refine r_gR (pc := 39) CX P hF fl_X5_79 dX5_takeStep_39 (fun a6 hF => ?_)
    refine r_gR (pc := 42) CX P hF fl_X5_119 dX5_takeStep_42 (fun a7 hF => ?_)
    refine lv_iload_n (pc := 45) hx hb dX5_takeStep_45 rfl (lv_at hl 5 rfl) ?_
    refine r_aR (pc := 46) CX P hF (Or.inr (Or.inl rfl)) dX5_takeStep_46 (fun a8 hF => ?_)
    refine lv_iload (pc := 47) hx hb dX5_takeStep_47 (lv_at hl 1 rfl) ?_
    refine r_aI (pc := 49) CX P hF dX5_takeStep_49 (fun v9 hF => ?_)
    refine r_mn (pc := 50) CX hl.1 tw_467 tw_468 tw_14 tw_469 (Nat.le_of_ble_eq_true rfl) (Nat.le_of_ble_eq_true rfl) (Nat.le_of_ble_eq_true rfl) (Nat.le_of_ble_eq_true rfl) dX5_takeStep_50 ?_
    refine lv_topi (fun v10 ev10 => ?_)
    replace hF := bl_e hF ev10
    refine lv_istore (pc := 53) hx hb dX5_takeStep_53 hl (by decide) rfl (fun ls hl => ?_)
    replace hl : lv_has ls 8 [(7, .int v10), (6, .int v5), (5, .int v2), (0, .ref (B + a0)), (1, .ref (B + ap1)), (2, .int vp2), (3, .int vp3), (4, .int vp4)] := hl
    refine lv_aload_n (pc := 55) hx hb dX5_takeStep_55 rfl (lv_at hl 4 rfl) ?_
    refine lv_iload (pc := 56) hx hb dX5_takeStep_56 (lv_at hl 2 rfl) ?_
    refine lv_iload_n (pc := 58) hx hb dX5_takeStep_58 rfl (lv_at hl 6 rfl) ?_
    refine lv_iload (pc := 59) hx hb dX5_takeStep_59 (lv_at hl 0 rfl) ?_
    refine lv_ineg (pc := 61) hx hb dX5_takeStep_61 ?_
    refine r_cVv (pc := 62) (As := [.int v2, .int vp3, .int (-v10)]) (rest := []) CX P hl.1 hF kv_X5_122 (fun h1 q => c_X8_addPages l G B _ _ _ _ _ _ q) rfl rfl ⟨Nat.le_of_ble_eq_true rfl, Nat.le_of_ble_eq_true rfl⟩ (Nat.le_of_ble_eq_true rfl) ⟨Nat.le_of_ble_eq_true rfl, Nat.le_of_ble_eq_true rfl⟩ dX5_takeStep_62 (fun h11 H locs P hF => ?_)
    refine lv_iload_n (pc := 65) hx hb dX5_takeStep_65 rfl (lv_at hl 6 rfl) ?_
    refine lv_if_ne (pc := 66) (tgt := 77) hx hb dX5_takeStep_66 (by decide) (fun hc => ?_) (fun hc => ?_)
    · rw [if_neg hc] at hF
      refine lv_iload (pc := 77) hx hb dX5_takeStep_77 (lv_at hl 0 rfl) ?_
      cases hF
      exact hret _ _ _ _ P rfl dX5_takeStep_79
    · rw [if_pos hc] at hF
      refine lv_aload_n (pc := 69) hx hb dX5_takeStep_69 rfl (lv_at hl 4 rfl) ?_
      refine lv_iload (pc := 70) hx hb dX5_takeStep_70 (lv_at hl 2 rfl) ?_
      refine lv_iload (pc := 72) hx hb dX5_takeStep_72 (lv_at hl 0 rfl) ?_
      refine r_cVv (pc := 74) (As := [.int v2, .int v10]) (rest := []) CX P hl.1 hF kv_X5_126 (fun h1 q => c_X8_swapOut l G B _ _ _ _ _ q) rfl rfl ⟨Nat.le_of_ble_eq_true rfl, Nat.le_of_ble_eq_true rfl⟩ (Nat.le_of_ble_eq_true rfl) ⟨Nat.le_of_ble_eq_true rfl, Nat.le_of_ble_eq_true rfl⟩ dX5_takeStep_74 (fun h12 H locs P hF => ?_)
      refine lv_iload (pc := 77) hx hb dX5_takeStep_77 (lv_at hl 0 rfl) ?_
      cases hF
      exact hret _ _ _ _ P rfl dX5_takeStep_79
  · rw [if_pos hc] at hF
    refine lv_iconst (pc := 17) (v := 0) hx hb dX5_takeStep_17 (by decide) ?_
    cases hF
    exact hret _ _ _ _ P rfl dX5_takeStep_18
def F_X5_takePages_L16 (a5 : Nat) (a6 : Nat) (v7 : Int32) (v8 : Int32) (v9 : Int32) (v10 : Int32) (v11 : Int32) (h12 : Hp) : Option ((Int32 × Int32 × Int32 × Hp) ⊕ (Int32 × Hp)) :=
if v8 ≤ v9 then (
some (.inr (v9, h12))) else (
if 4 ≤ v10 then (
some (.inr (v9, h12))) else (
if 2000 ≤ v11 then (
some (.inr (v9, h12))) else (
(rmI v10 2).bind fun v13 =>
(if v13 = 0 then (
some (1 : Int32)) else (
some (0 : Int32))).bind fun v15 =>
(if 2 ≤ v10 then (
some (1 : Int32)) else (
some (0 : Int32))).bind fun v17 =>
(cO h12 a5 5 (F_X5_measureSpares h12 a5 a6 v7 v17 v15)).bind fun h18 =>
(cO h18 a5 5 (F_X5_richestGroup h18 a5)).bind fun v19 =>
if v19 = (-1) then (
bl (v10 + 1) fun v20 =>
if v20 = 2 then (
(gR h18 a6 8 0).bind fun a22 =>
(gR h18 a22 6 8).bind fun a23 =>
(aR h18 a23 15 0).bind fun a24 =>
(aI h18 a24 v7).bind fun v25 =>
(sI h18 a24 v7 (v25 + 1)).bind fun h26 =>
bl (v11 + 1) fun v27 =>
some (.inl (v9, v20, v27, h26))) else (
bl (v11 + 1) fun v21 =>
some (.inl (v9, v20, v21, h18)))) else (
(cO h18 a5 5 (F_X5_takeStep h18 a5 a6 v19 v15 (v8 - v9))).bind (un fun v28 h29 =>
bl (v9 + v28) fun v30 =>
bl (v11 + 1) fun v31 =>
some (.inl (v30, v10, v31, h29)))))))
def F_X5_takePages (h : Hp) (a0 : Nat) (ap1 : Nat) (vp2 : Int32) (vp3 : Int32) : Option (Int32 × Hp) :=
(gR h ap1 8 0).bind fun a1 =>
(cO h a1 6 (F_X6_emptyStocks h a1 vp2)).bind (un fun v2 h3 =>
(loopF (fun x => F_X5_takePages_L16 a0 ap1 vp2 vp3 x.1 x.2.1 x.2.2.1 x.2.2.2) 6000 (v2, 0, 0, h3)).bind fun q4 =>
bl q4.1 fun v32 =>
bl q4.2 fun h33 =>
some (v32, h33))
set_option maxRecDepth 100000 in
set_option maxHeartbeats 4000000 in
theorem c_X5_takePages (l : Launch) (G : GG) (B : Nat) (h : Hp) (a0 : Nat) (ap1 : Nat) (vp2 : Int32) (vp3 : Int32) (r0 : Int32) (hr : Hp) (hF : F_X5_takePages h a0 ap1 vp2 vp3 = some (r0, hr)) : CI l yX5_takePages cX5_takePages 9 .int 3 99 0 0 G B h [.ref (B + a0), .ref (B + ap1), .int vp2, .int vp3] r0 hr := by
  refine ent_i rfl (Nat.le_of_ble_eq_true rfl) ?_
  intro p e s m args below meth c ls Q CX hnm hret P hl
  have CX : Cxt p m c cX5_takePages 9 s args RX5 G B := CX
  obtain ⟨⟨hx, hb, hml, hown, hts⟩, -, -⟩ := id CX
  replace hl : lv_has ls 9 [(0, .ref (B + a0)), (1, .ref (B + ap1)), (2, .int vp2), (3, .int vp3)] := hl
  generalize s.heap = H at P ⊢
  generalize ([] : List Loc) = locs at P ⊢
  unfold F_X5_takePages at hF
  refine lv_aload_n (pc := 0) hx hb dX5_takePages_0 rfl (lv_at hl 1 rfl) ?_
  refine r_gR (pc := 1) CX P hF fl_X5_30 dX5_takePages_1 (fun a1 hF => ?_)
  refine lv_iload_n (pc := 4) hx hb dX5_takePages_4 rfl (lv_at hl 2 rfl) ?_
  refine r_cVi (pc := 5) (As := [.int vp2]) (rest := []) CX P hl.1 hF kv_X5_98 (fun r h1 q => c_X6_emptyStocks l G B _ _ _ _ _ q) rfl rfl ⟨Nat.le_of_ble_eq_true rfl, Nat.le_of_ble_eq_true rfl⟩ (Nat.le_of_ble_eq_true rfl) ⟨Nat.le_of_ble_eq_true rfl, Nat.le_of_ble_eq_true rfl⟩ dX5_takePages_5 (fun v2 h3 H locs P hF => ?_)
  replace hF := un_i hF
  refine lv_istore (pc := 8) hx hb dX5_takePages_8 hl (by decide) rfl (fun ls hl => ?_)
  replace hl : lv_has ls 9 [(4, .int v2), (0, .ref (B + a0)), (1, .ref (B + ap1)), (2, .int vp2), (3, .int vp3)] := hl
  refine lv_iconst (pc := 10) (v := 0) hx hb dX5_takePages_10 (by decide) ?_
  refine lv_istore (pc := 11) hx hb dX5_takePages_11 hl (by decide) rfl (fun ls hl => ?_)
  replace hl : lv_has ls 9 [(5, .int 0), (4, .int v2), (0, .ref (B + a0)), (1, .ref (B + ap1)), (2, .int vp2), (3, .int vp3)] := hl
  refine lv_iconst (pc := 13) (v := 0) hx hb dX5_takePages_13 (by decide) ?_
  refine lv_istore (pc := 14) hx hb dX5_takePages_14 hl (by decide) rfl (fun ls hl => ?_)
  replace hl : lv_has ls 9 [(6, .int 0), (5, .int 0), (4, .int v2), (0, .ref (B + a0)), (1, .ref (B + ap1)), (2, .int vp2), (3, .int vp3)] := hl
  obtain ⟨r4, hLp4, hK4⟩ := bd_some hF
  have hX4 : ∀ (v32 : Int32) (h33 : Hp) (H : Heap) (locs : List Loc) (ls : Array Slot), Pic G B h33 s H locs → lv_has ls 9 [(4, .int v32)] → (v32, h33) = r4 → W p l e (rmM 3 99 0 0) s m args below meth c H locs 0 0 Q (F0 m 132 ls []) := by
    intro v32 h33 H locs ls P hl er
    subst er
    have hF := hK4
    replace hF := bl_i hF
    replace hF := bl_i hF
    try dsimp only at hF
    refine lv_iload (pc := 132) hx hb dX5_takePages_132 (lv_at hl 0 rfl) ?_
    cases hF
    exact hret _ _ _ _ P rfl dX5_takePages_134
  have hL4 : ∀ (n : Nat) (v9 : Int32) (v10 : Int32) (v11 : Int32) (h12 : Hp) (H : Heap) (locs : List Loc) (ls : Array Slot), Pic G B h12 s H locs → lv_has ls 9 [(0, .ref (B + a0)), (1, .ref (B + ap1)), (2, .int vp2), (3, .int vp3), (4, .int v9), (5, .int v10), (6, .int v11)] → loopF (fun x => F_X5_takePages_L16 a0 ap1 vp2 vp3 x.1 x.2.1 x.2.2.1 x.2.2.2) n (v9, v10, v11, h12) = some r4 → W p l e (rmM 3 99 0 0) s m args below meth c H locs 0 0 Q (F0 m 16 ls []) := by
    intro n
    induction n with
    | zero => intro v9 v10 v11 h12 H locs ls P hl hq; cases hq
    | succ n ih =>
      intro v9 v10 v11 h12 H locs ls P hl hq
      obtain ⟨z4, hS4, hI4, hR4⟩ := loop_some hq
      have hF : F_X5_takePages_L16 a0 ap1 vp2 vp3 v9 v10 v11 h12 = some z4 := hS4
      unfold F_X5_takePages_L16 at hF
      refine lv_iload (pc := 16) hx hb dX5_takePages_16 (lv_at hl 4 rfl) ?_
      refine lv_iload_n (pc := 18) hx hb dX5_takePages_18 rfl (lv_at hl 3 rfl) ?_
      refine lv_icmp_ge (pc := 19) (tgt := 132) hx hb dX5_takePages_19 (by decide) (fun hc => ?_) (fun hc => ?_)
      · rw [if_pos hc] at hF
        exact hX4 _ _ _ _ _ P (lv_sub hl [4] rfl) (hR4 _ (Option.some.inj hF).symm)
      · rw [if_neg hc] at hF
        refine lv_iload (pc := 22) hx hb dX5_takePages_22 (lv_at hl 5 rfl) ?_
        refine lv_iconst (pc := 24) (v := 4) hx hb dX5_takePages_24 (by decide) ?_
        refine lv_icmp_ge (pc := 25) (tgt := 132) hx hb dX5_takePages_25 (by decide) (fun hc => ?_) (fun hc => ?_)
        · rw [if_pos hc] at hF
          exact hX4 _ _ _ _ _ P (lv_sub hl [4] rfl) (hR4 _ (Option.some.inj hF).symm)
        · rw [if_neg hc] at hF
          refine lv_iload (pc := 28) hx hb dX5_takePages_28 (lv_at hl 6 rfl) ?_
          refine lv_sipush (pc := 30) (v := 2000) hx hb dX5_takePages_30 (by decide) ?_
          refine lv_icmp_ge (pc := 33) (tgt := 132) hx hb dX5_takePages_33 (by decide) (fun hc => ?_) (fun hc => ?_)
          · rw [if_pos hc] at hF
            exact hX4 _ _ _ _ _ P (lv_sub hl [4] rfl) (hR4 _ (Option.some.inj hF).symm)
          · rw [if_neg hc] at hF
            refine lv_iload (pc := 36) hx hb dX5_takePages_36 (lv_at hl 5 rfl) ?_
            refine lv_iconst (pc := 38) (v := 2) hx hb dX5_takePages_38 (by decide) ?_
            refine r_rm (pc := 39) hx hb hF dX5_takePages_39 (fun v13 hF => ?_)
            obtain ⟨j14, hA14, hK14⟩ := bd_some hF
            have hJ14 : ∀ (v15 : Int32) (H : Heap) (locs : List Loc) (ls : Array Slot), Pic G B h12 s H locs → lv_has ls 9 [(0, .ref (B + a0)), (1, .ref (B + ap1)), (2, .int vp2), (3, .int vp3), (4, .int v9), (5, .int v10), (6, .int v11)] → v15 = j14 → W p l e (rmM 3 99 0 0) s m args below meth c H locs 0 0 Q (F0 m 48 ls [.int v15]) := by
              intro v15 H locs ls P hl ej
              subst ej
              have hF := hK14
              refine lv_istore (pc := 48) hx hb dX5_takePages_48 hl (by decide) rfl (fun ls hl => ?_)
              replace hl : lv_has ls 9 [(7, .int v15), (0, .ref (B + a0)), (1, .ref (B + ap1)), (2, .int vp2), (3, .int vp3), (4, .int v9), (5, .int v10), (6, .int v11)] := hl
              refine lv_aload_n (pc := 50) hx hb dX5_takePages_50 rfl (lv_at hl 1 rfl) ?_
              refine lv_aload_n (pc := 51) hx hb dX5_takePages_51 rfl (lv_at hl 2 rfl) ?_
              refine lv_iload_n (pc := 52) hx hb dX5_takePages_52 rfl (lv_at hl 3 rfl) ?_
              refine lv_iload (pc := 53) hx hb dX5_takePages_53 (lv_at hl 6 rfl) ?_
              refine lv_iconst (pc := 55) (v := 2) hx hb dX5_takePages_55 (by decide) ?_
              obtain ⟨j16, hA16, hK16⟩ := bd_some hF
              have hJ16 : ∀ (v17 : Int32) (H : Heap) (locs : List Loc) (ls : Array Slot), Pic G B h12 s H locs → lv_has ls 9 [(0, .ref (B + a0)), (1, .ref (B + ap1)), (2, .int vp2), (3, .int vp3), (4, .int v9), (5, .int v10), (6, .int v11), (7, .int v15)] → v17 = j16 → W p l e (rmM 3 99 0 0) s m args below meth c H locs 0 0 Q (F0 m 64 ls [.int v17, .int vp2, .ref (B + ap1), .ref (B + a0)]) := by
                intro v17 H locs ls P hl ej
                subst ej
                have hF := hK16
                refine lv_iload (pc := 64) hx hb dX5_takePages_64 (lv_at hl 7 rfl) ?_
                refine r_cVv (pc := 66) (As := [.ref (B + ap1), .int vp2, .int v17, .int v15]) (rest := []) CX P hl.1 hF kv_X5_101 (fun h1 q => c_X5_measureSpares l G B _ _ _ _ _ _ _ q) rfl rfl ⟨Nat.le_of_ble_eq_true rfl, Nat.le_of_ble_eq_true rfl⟩ (Nat.le_of_ble_eq_true rfl) ⟨Nat.le_of_ble_eq_true rfl, Nat.le_of_ble_eq_true rfl⟩ dX5_takePages_66 (fun h18 H locs P hF => ?_)
                refine lv_aload_n (pc := 69) hx hb dX5_takePages_69 rfl (lv_at hl 0 rfl) ?_
                refine r_cVp (pc := 70) (As := []) (rest := []) CX P hl.1 hF kv_X5_105 (fun r q => c_X5_richestGroup l G B _ _ _ q) rfl rfl ⟨Nat.le_of_ble_eq_true rfl, Nat.le_of_ble_eq_true rfl⟩ (Nat.le_of_ble_eq_true rfl) ⟨Nat.le_of_ble_eq_true rfl, Nat.le_of_ble_eq_true rfl⟩ dX5_takePages_70 (fun v19 H locs P hF => ?_)
                refine lv_istore (pc := 73) hx hb dX5_takePages_73 hl (by decide) rfl (fun ls hl => ?_)
                replace hl : lv_has ls 9 [(8, .int v19), (0, .ref (B + a0)), (1, .ref (B + ap1)), (2, .int vp2), (3, .int vp3), (4, .int v9), (5, .int v10), (6, .int v11), (7, .int v15)] := hl
                refine lv_iload (pc := 75) hx hb dX5_takePages_75 (lv_at hl 0 rfl) ?_
                refine lv_iconst (pc := 77) (v := (-1)) hx hb dX5_takePages_77 (by decide) ?_
                refine lv_icmp_eq (pc := 78) (tgt := 102) hx hb dX5_takePages_78 (by decide) (fun hc => ?_) (fun hc => ?_)
                · rw [if_pos hc] at hF
                  obtain ⟨v20, ev20, hF⟩ := bl_o hF
                  refine lv_iinc (pc := 102) (k := 6) (v := v20) hx hb dX5_takePages_102 hl rfl ev20 (by decide) rfl (fun ls hl => ?_)
                  replace hl : lv_has ls 9 [(5, .int v20), (8, .int v19), (0, .ref (B + a0)), (1, .ref (B + ap1)), (2, .int vp2), (3, .int vp3), (4, .int v9), (6, .int v11), (7, .int v15)] := hl
                  refine lv_iload (pc := 105) hx hb dX5_takePages_105 (lv_at hl 0 rfl) ?_
                  refine lv_iconst (pc := 107) (v := 2) hx hb dX5_takePages_107 (by decide) ?_
                  refine lv_icmp_ne (pc := 108) (tgt := 126) hx hb dX5_takePages_108 (by decide) (fun hc => ?_) (fun hc => ?_)
                  · rw [if_neg hc] at hF
                    obtain ⟨v21, ev21, hF⟩ := bl_o hF
                    refine lv_iinc (pc := 126) (k := 7) (v := v21) hx hb dX5_takePages_126 hl rfl ev21 (by decide) rfl (fun ls hl => ?_)
                    replace hl : lv_has ls 9 [(6, .int v21), (5, .int v20), (8, .int v19), (0, .ref (B + a0)), (1, .ref (B + ap1)), (2, .int vp2), (3, .int vp3), (4, .int v9), (7, .int v15)] := hl
                    refine lv_goto (pc := 129) (tgt := 16) hx hb dX5_takePages_129 (by decide) ?_
                    exact ih _ _ _ _ _ _ _ P (lv_sub hl [3, 4, 5, 6, 7, 1, 0] rfl) (hI4 _ (Option.some.inj hF).symm)
                  · rw [if_pos hc] at hF
                    refine lv_aload_n (pc := 111) hx hb dX5_takePages_111 rfl (lv_at hl 3 rfl) ?_
                    refine r_gR (pc := 112) CX P hF fl_X5_30 dX5_takePages_112 (fun a22 hF => ?_)
                    refine r_gR (pc := 115) CX P hF fl_X5_113 dX5_takePages_115 (fun a23 hF => ?_)
                    refine lv_iconst (pc := 118) (v := 0) hx hb dX5_takePages_118 (by decide) ?_
                    refine r_aR (pc := 119) CX P hF (Or.inr (Or.inl rfl)) dX5_takePages_119 (fun a24 hF => ?_)
                    refine lv_iload_n (pc := 120) hx hb dX5_takePages_120 rfl (lv_at hl 4 rfl) ?_
                    refine lv_dup2_11 (pc := 121) hx hb dX5_takePages_121 rfl rfl ?_
                    refine r_aI (pc := 122) CX P hF dX5_takePages_122 (fun v25 hF => ?_)
                    refine lv_iconst (pc := 123) (v := 1) hx hb dX5_takePages_123 (by decide) ?_
                    refine lv_iadd (pc := 124) hx hb dX5_takePages_124 ?_
                    refine r_sI (pc := 125) CX P hF dX5_takePages_125 (fun h26 H locs P hF => ?_)
                    obtain ⟨v27, ev27, hF⟩ := bl_o hF
                    refine lv_iinc (pc := 126) (k := 7) (v := v27) hx hb dX5_takePages_126 hl rfl ev27 (by decide) rfl (fun ls hl => ?_)
                    replace hl : lv_has ls 9 [(6, .int v27), (5, .int v20), (8, .int v19), (0, .ref (B + a0)), (1, .ref (B + ap1)), (2, .int vp2), (3, .int vp3), (4, .int v9), (7, .int v15)] := hl
                    refine lv_goto (pc := 129) (tgt := 16) hx hb dX5_takePages_129 (by decide) ?_
                    exact ih _ _ _ _ _ _ _ P (lv_sub hl [3, 4, 5, 6, 7, 1, 0] rfl) (hI4 _ (Option.some.inj hF).symm)
                · rw [if_neg hc] at hF
                  refine lv_iload (pc := 81) hx hb dX5_takePages_81 (lv_at hl 5 rfl) ?_
                  refine lv_aload_n (pc := 83) hx hb dX5_takePages_83 rfl (lv_at hl 1 rfl) ?_
                  refine lv_aload_n (pc := 84) hx hb dX5_takePages_84 rfl (lv_at hl 2 rfl) ?_
                  refine lv_iload (pc := 85) hx hb dX5_takePages_85 (lv_at hl 0 rfl) ?_
                  refine lv_iload (pc := 87) hx hb dX5_takePages_87 (lv_at hl 8 rfl) ?_
                  refine lv_iload_n (pc := 89) hx hb dX5_takePages_89 rfl (lv_at hl 4 rfl) ?_
                  refine lv_iload (pc := 90) hx hb dX5_takePages_90 (lv_at hl 5 rfl) ?_
                  refine lv_isub (pc := 92) hx hb dX5_takePages_92 ?_
                  refine r_cVi (pc := 93) (As := [.ref (B + ap1), .int v19, .int v15, .int (vp3 - v9)]) (rest := [.int v9]) CX P hl.1 hF kv_X5_109 (fun r h1 q => c_X5_takeStep l G B _ _ _ _ _ _ _ _ q) rfl rfl ⟨Nat.le_of_ble_eq_true rfl, Nat.le_of_ble_eq_true rfl⟩ (Nat.le_of_ble_eq_true rfl) ⟨Nat.le_of_ble_eq_true rfl, Nat.le_of_ble_eq_true rfl⟩ dX5_takePages_93 (fun v28 h29 H locs P hF => ?_)
                  replace hF := un_i hF
                  refine lv_iadd (pc := 96) hx hb dX5_takePages_96 ?_
                  refine lv_topi (fun v30 ev30 => ?_)
                  replace hF := bl_e hF ev30
                  refine lv_istore (pc := 97) hx hb dX5_takePages_97 hl (by decide) rfl (fun ls hl => ?_)
                  replace hl : lv_has ls 9 [(4, .int v30), (8, .int v19), (0, .ref (B + a0)), (1, .ref (B + ap1)), (2, .int vp2), (3, .int vp3), (5, .int v10), (6, .int v11), (7, .int v15)] := hl
                  refine lv_goto (pc := 99) (tgt := 126) hx hb dX5_takePages_99 (by decide) ?_
                  obtain ⟨v31, ev31, hF⟩ := bl_o hF
                  refine lv_iinc (pc := 126) (k := 7) (v := v31) hx hb dX5_takePages_126 hl rfl ev31 (by decide) rfl (fun ls hl => ?_)
                  replace hl : lv_has ls 9 [(6, .int v31), (4, .int v30), (8, .int v19), (0, .ref (B + a0)), (1, .ref (B + ap1)), (2, .int vp2), (3, .int vp3), (5, .int v10), (7, .int v15)] := hl
                  refine lv_goto (pc := 129) (tgt := 16) hx hb dX5_takePages_129 (by decide) ?_
                  exact ih _ _ _ _ _ _ _ P (lv_sub hl [3, 4, 5, 6, 1, 7, 0] rfl) (hI4 _ (Option.some.inj hF).symm)
              replace hF := hA16
              refine lv_icmp_ge (pc := 56) (tgt := 63) hx hb dX5_takePages_56 (by decide) (fun hc => ?_) (fun hc => ?_)
              · rw [if_pos hc] at hF
                refine lv_iconst (pc := 63) (v := 1) hx hb dX5_takePages_63 (by decide) ?_
                exact hJ16 _ _ _ _ P (lv_sub hl [1, 2, 3, 4, 5, 6, 7, 0] rfl) (Option.some.inj hF)
              · rw [if_neg hc] at hF
                refine lv_iconst (pc := 59) (v := 0) hx hb dX5_takePages_59 (by decide) ?_
                refine lv_goto (pc := 60) (tgt := 64) hx hb dX5_takePages_60 (by decide) ?_
                exact hJ16 _ _ _ _ P (lv_sub hl [1, 2, 3, 4, 5, 6, 7, 0] rfl) (Option.some.inj hF)
            replace hF := hA14
            refine lv_if_ne (pc := 40) (tgt := 47) hx hb dX5_takePages_40 (by decide) (fun hc => ?_) (fun hc => ?_)
            · rw [if_neg hc] at hF
              refine lv_iconst (pc := 47) (v := 0) hx hb dX5_takePages_47 (by decide) ?_
              exact hJ14 _ _ _ _ P (lv_sub hl [0, 1, 2, 3, 4, 5, 6] rfl) (Option.some.inj hF)
            · rw [if_pos hc] at hF
              refine lv_iconst (pc := 43) (v := 1) hx hb dX5_takePages_43 (by decide) ?_
              refine lv_goto (pc := 44) (tgt := 48) hx hb dX5_takePages_44 (by decide) ?_
              exact hJ14 _ _ _ _ P (lv_sub hl [0, 1, 2, 3, 4, 5, 6] rfl) (Option.some.inj hF)
  exact hL4 _ _ _ _ _ _ _ _ P (lv_sub hl [3, 4, 5, 6, 2, 1, 0] rfl) hLp4
def F_X3_setLimit_L74 (a17 : Nat) (v18 : Int32) (v19 : Int32) (v20 : Int32) (a21 : Nat) (v22 : Int32) (h23 : Hp) : Option ((Int32 × Hp) ⊕ ((Int32 × Hp) ⊕ (Hp))) :=
if v19 = 3 then (
(gR h23 a21 6 5).bind fun a24 =>
(aI h23 a24 v18).bind fun v25 =>
if v25 ≤ v20 then (
some (.inr (.inr h23))) else (
if 16 < v22 then (
some (.inr (.inr h23))) else (
(cO h23 a17 8 (F_X8_strike h23 a17 v18)).bind (un fun v26 h27 =>
if v26 = 0 then (
some (.inr (.inl ((-4), h27)))) else (
bl (v22 + 1) fun v28 =>
some (.inl (v28, h27))))))) else (
some (.inr (.inr h23)))
def F_X3_setLimit (h : Hp) (a0 : Nat) (ap1 : Nat) (vp2 : Int32) (vp3 : Int32) (vp4 : Int32) : Option (Int32 × Hp) :=
(gR h ap1 8 0).bind fun a1 =>
(gR h a1 6 3).bind fun a2 =>
(aR h a2 15 vp3).bind fun a3 =>
(sI h a3 vp2 vp4).bind fun h4 =>
(if vp3 = 2 then (
some (1 : Int32)) else (
if vp3 = 3 then (
some (1 : Int32)) else (
some (0 : Int32)))).bind fun v6 =>
(if v6 = 0 then (
some h4) else (
(gR h4 a1 6 5).bind fun a8 =>
(aI h4 a8 vp2).bind fun v9 =>
if v9 ≤ vp4 then (
some h4) else (
(gR h4 a0 3 0).bind fun a10 =>
(gR h4 a1 6 5).bind fun a11 =>
(aI h4 a11 vp2).bind fun v12 =>
(cO h4 a10 5 (F_X5_takePages h4 a10 ap1 vp2 (v12 - vp4))).bind (un fun v13 h14 =>
some h14)))).bind fun h15 =>
(loopF (fun x => F_X3_setLimit_L74 ap1 vp2 vp3 vp4 a1 x.1 x.2) 6000 (0, h15)).bind (sE (fun x => some x) (fun h29 =>
(gR h29 a1 6 5).bind fun a30 =>
(aI h29 a30 vp2).bind fun v31 =>
some (v31, h29)))
set_option maxRecDepth 100000 in
set_option maxHeartbeats 4000000 in
theorem c_X3_setLimit (l : Launch) (G : GG) (B : Nat) (h : Hp) (a0 : Nat) (ap1 : Nat) (vp2 : Int32) (vp3 : Int32) (vp4 : Int32) (r0 : Int32) (hr : Hp) (hF : F_X3_setLimit h a0 ap1 vp2 vp3 vp4 = some (r0, hr)) : CI l yX3_setLimit cX3_setLimit 8 .int 5 127 0 0 G B h [.ref (B + a0), .ref (B + ap1), .int vp2, .int vp3, .int vp4] r0 hr := by
  refine ent_i rfl (Nat.le_of_ble_eq_true rfl) ?_
  intro p e s m args below meth c ls Q CX hnm hret P hl
  have CX : Cxt p m c cX3_setLimit 8 s args RX3 G B := CX
  obtain ⟨⟨hx, hb, hml, hown, hts⟩, -, -⟩ := id CX
  replace hl : lv_has ls 8 [(0, .ref (B + a0)), (1, .ref (B + ap1)), (2, .int vp2), (3, .int vp3), (4, .int vp4)] := hl
  generalize s.heap = H at P ⊢
  generalize ([] : List Loc) = locs at P ⊢
  unfold F_X3_setLimit at hF
  refine lv_aload_n (pc := 0) hx hb dX3_setLimit_0 rfl (lv_at hl 1 rfl) ?_
  refine r_gR (pc := 1) CX P hF fl_X3_27 dX3_setLimit_1 (fun a1 hF => ?_)
  refine lv_astore (pc := 4) hx hb dX3_setLimit_4 hl (by decide) rfl (fun ls hl => ?_)
  replace hl : lv_has ls 8 [(5, .ref (B + a1)), (0, .ref (B + a0)), (1, .ref (B + ap1)), (2, .int vp2), (3, .int vp3), (4, .int vp4)] := hl
  refine lv_aload (pc := 6) hx hb dX3_setLimit_6 (lv_at hl 0 rfl) ?_
  refine r_gR (pc := 8) CX P hF fl_X3_73 dX3_setLimit_8 (fun a2 hF => ?_)
  refine lv_iload_n (pc := 11) hx hb dX3_setLimit_11 rfl (lv_at hl 4 rfl) ?_
  refine r_aR (pc := 12) CX P hF (Or.inr (Or.inl rfl)) dX3_setLimit_12 (fun a3 hF => ?_)
  refine lv_iload_n (pc := 13) hx hb dX3_setLimit_13 rfl (lv_at hl 3 rfl) ?_
  refine lv_iload (pc := 14) hx hb dX3_setLimit_14 (lv_at hl 5 rfl) ?_
  refine r_sI (pc := 16) CX P hF dX3_setLimit_16 (fun h4 H locs P hF => ?_)
  refine lv_iload_n (pc := 17) hx hb dX3_setLimit_17 rfl (lv_at hl 4 rfl) ?_
  refine lv_iconst (pc := 18) (v := 2) hx hb dX3_setLimit_18 (by decide) ?_
  obtain ⟨j5, hA5, hK5⟩ := bd_some hF
  have hJ5 : ∀ (v6 : Int32) (H : Heap) (locs : List Loc) (ls : Array Slot), Pic G B h4 s H locs → lv_has ls 8 [(0, .ref (B + a0)), (1, .ref (B + ap1)), (2, .int vp2), (3, .int vp3), (4, .int vp4), (5, .ref (B + a1))] → v6 = j5 → W p l e (rmM 5 127 0 0) s m args below meth c H locs 0 0 Q (F0 m 32 ls [.int v6]) := by
    intro v6 H locs ls P hl ej
    subst ej
    have hF := hK5
    refine lv_istore (pc := 32) hx hb dX3_setLimit_32 hl (by decide) rfl (fun ls hl => ?_)
    replace hl : lv_has ls 8 [(6, .int v6), (0, .ref (B + a0)), (1, .ref (B + ap1)), (2, .int vp2), (3, .int vp3), (4, .int vp4), (5, .ref (B + a1))] := hl
    refine lv_iload (pc := 34) hx hb dX3_setLimit_34 (lv_at hl 0 rfl) ?_
    obtain ⟨j7, hA7, hK7⟩ := bd_some hF
    have hJ7 : ∀ (h15 : Hp) (H : Heap) (locs : List Loc) (ls : Array Slot), Pic G B h15 s H locs → lv_has ls 8 [(1, .ref (B + ap1)), (2, .int vp2), (3, .int vp3), (4, .int vp4), (5, .ref (B + a1))] → h15 = j7 → W p l e (rmM 5 127 0 0) s m args below meth c H locs 0 0 Q (F0 m 71 ls []) := by
      intro h15 H locs ls P hl ej
      subst ej
      have hF := hK7
      refine lv_iconst (pc := 71) (v := 0) hx hb dX3_setLimit_71 (by decide) ?_
      refine lv_istore (pc := 72) hx hb dX3_setLimit_72 hl (by decide) rfl (fun ls hl => ?_)
      replace hl : lv_has ls 8 [(7, .int 0), (1, .ref (B + ap1)), (2, .int vp2), (3, .int vp3), (4, .int vp4), (5, .ref (B + a1))] := hl
      obtain ⟨r16, hLp16, hK16⟩ := bd_some hF
      have hX16 : ∀ (h29 : Hp) (H : Heap) (locs : List Loc) (ls : Array Slot), Pic G B h29 s H locs → lv_has ls 8 [(2, .int vp2), (5, .ref (B + a1))] → .inr h29 = r16 → W p l e (rmM 5 127 0 0) s m args below meth c H locs 0 0 Q (F0 m 115 ls []) := by
        intro h29 H locs ls P hl er
        subst er
        have hF := sE_ri hK16
        refine lv_aload (pc := 115) hx hb dX3_setLimit_115 (lv_at hl 1 rfl) ?_
        refine r_gR (pc := 117) CX P hF fl_X3_80 dX3_setLimit_117 (fun a30 hF => ?_)
        refine lv_iload_n (pc := 120) hx hb dX3_setLimit_120 rfl (lv_at hl 0 rfl) ?_
        refine r_aI (pc := 121) CX P hF dX3_setLimit_121 (fun v31 hF => ?_)
        cases hF
        exact hret _ _ _ _ P rfl dX3_setLimit_122
      have hL16 : ∀ (n : Nat) (v22 : Int32) (h23 : Hp) (H : Heap) (locs : List Loc) (ls : Array Slot), Pic G B h23 s H locs → lv_has ls 8 [(1, .ref (B + ap1)), (2, .int vp2), (3, .int vp3), (4, .int vp4), (5, .ref (B + a1)), (7, .int v22)] → loopF (fun x => F_X3_setLimit_L74 ap1 vp2 vp3 vp4 a1 x.1 x.2) n (v22, h23) = some r16 → W p l e (rmM 5 127 0 0) s m args below meth c H locs 0 0 Q (F0 m 74 ls []) := by
        intro n
        induction n with
        | zero => intro v22 h23 H locs ls P hl hq; cases hq
        | succ n ih =>
          intro v22 h23 H locs ls P hl hq
          obtain ⟨z16, hS16, hI16, hR16⟩ := loop_some hq
          have hF : F_X3_setLimit_L74 ap1 vp2 vp3 vp4 a1 v22 h23 = some z16 := hS16
          unfold F_X3_setLimit_L74 at hF
          refine lv_iload_n (pc := 74) hx hb dX3_setLimit_74 rfl (lv_at hl 2 rfl) ?_
          refine lv_iconst (pc := 75) (v := 3) hx hb dX3_setLimit_75 (by decide) ?_
          refine lv_icmp_ne (pc := 76) (tgt := 115) hx hb dX3_setLimit_76 (by decide) (fun hc => ?_) (fun hc => ?_)
          · rw [if_neg hc] at hF
            exact hX16 _ _ _ _ P (lv_sub hl [1, 4] rfl) (hR16 _ (Option.some.inj hF).symm)
          · rw [if_pos hc] at hF
            refine lv_aload (pc := 79) hx hb dX3_setLimit_79 (lv_at hl 4 rfl) ?_
            refine r_gR (pc := 81) CX P hF fl_X3_80 dX3_setLimit_81 (fun a24 hF => ?_)
            refine lv_iload_n (pc := 84) hx hb dX3_setLimit_84 rfl (lv_at hl 1 rfl) ?_
            refine r_aI (pc := 85) CX P hF dX3_setLimit_85 (fun v25 hF => ?_)
            refine lv_iload (pc := 86) hx hb dX3_setLimit_86 (lv_at hl 3 rfl) ?_
            refine lv_icmp_le (pc := 88) (tgt := 115) hx hb dX3_setLimit_88 (by decide) (fun hc => ?_) (fun hc => ?_)
            · rw [if_pos hc] at hF
              exact hX16 _ _ _ _ P (lv_sub hl [1, 4] rfl) (hR16 _ (Option.some.inj hF).symm)
            · rw [if_neg hc] at hF
              refine lv_iload (pc := 91) hx hb dX3_setLimit_91 (lv_at hl 5 rfl) ?_
              refine lv_bipush (pc := 93) (v := 16) hx hb dX3_setLimit_93 (by decide) ?_
              refine lv_icmp_gt (pc := 95) (tgt := 115) hx hb dX3_setLimit_95 (by decide) (fun hc => ?_) (fun hc => ?_)
              · rw [if_pos hc] at hF
                exact hX16 _ _ _ _ P (lv_sub hl [1, 4] rfl) (hR16 _ (Option.some.inj hF).symm)
              · rw [if_neg hc] at hF
                refine lv_aload_n (pc := 98) hx hb dX3_setLimit_98 rfl (lv_at hl 0 rfl) ?_
                refine lv_iload_n (pc := 99) hx hb dX3_setLimit_99 rfl (lv_at hl 1 rfl) ?_
                refine r_cVi (pc := 100) (As := [.int vp2]) (rest := []) CX P hl.1 hF kv_X3_69 (fun r h1 q => c_X8_strike l G B _ _ _ _ _ q) rfl rfl ⟨Nat.le_of_ble_eq_true rfl, Nat.le_of_ble_eq_true rfl⟩ (Nat.le_of_ble_eq_true rfl) ⟨Nat.le_of_ble_eq_true rfl, Nat.le_of_ble_eq_true rfl⟩ dX3_setLimit_100 (fun v26 h27 H locs P hF => ?_)
                replace hF := un_i hF
                refine lv_if_ne (pc := 103) (tgt := 109) hx hb dX3_setLimit_103 (by decide) (fun hc => ?_) (fun hc => ?_)
                · rw [if_neg hc] at hF
                  obtain ⟨v28, ev28, hF⟩ := bl_o hF
                  refine lv_iinc (pc := 109) (k := 5) (v := v28) hx hb dX3_setLimit_109 hl rfl ev28 (by decide) rfl (fun ls hl => ?_)
                  replace hl : lv_has ls 8 [(7, .int v28), (1, .ref (B + ap1)), (2, .int vp2), (3, .int vp3), (4, .int vp4), (5, .ref (B + a1))] := hl
                  refine lv_goto (pc := 112) (tgt := 74) hx hb dX3_setLimit_112 (by decide) ?_
                  exact ih _ _ _ _ _ P (lv_sub hl [1, 2, 3, 4, 5, 0] rfl) (hI16 _ (Option.some.inj hF).symm)
                · rw [if_pos hc] at hF
                  refine lv_bipush (pc := 106) (v := (-4)) hx hb dX3_setLimit_106 (by decide) ?_
                  have hE := hR16 _ (Option.some.inj hF).symm
                  subst hE
                  replace hF := sE_li hK16
                  cases hF
                  exact hret _ _ _ _ P rfl dX3_setLimit_108
      exact hL16 _ _ _ _ _ _ P (lv_sub hl [1, 2, 3, 4, 5, 0] rfl) hLp16
    replace hF := hA7
    refine lv_if_eq (pc := 36) (tgt := 71) hx hb dX3_setLimit_36 (by decide) (fun hc => ?_) (fun hc => ?_)
    · rw [if_pos hc] at hF
      exact hJ7 _ _ _ _ P (lv_sub hl [2, 3, 4, 5, 6] rfl) (Option.some.inj hF)
    · rw [if_neg hc] at hF
      refine lv_aload (pc := 39) hx hb dX3_setLimit_39 (lv_at hl 6 rfl) ?_
      refine r_gR (pc := 41) CX P hF fl_X3_80 dX3_setLimit_41 (fun a8 hF => ?_)
      refine lv_iload_n (pc := 44) hx hb dX3_setLimit_44 rfl (lv_at hl 3 rfl) ?_
      refine r_aI (pc := 45) CX P hF dX3_setLimit_45 (fun v9 hF => ?_)
      refine lv_iload (pc := 46) hx hb dX3_setLimit_46 (lv_at hl 5 rfl) ?_
      refine lv_icmp_le (pc := 48) (tgt := 71) hx hb dX3_setLimit_48 (by decide) (fun hc => ?_) (fun hc => ?_)
      · rw [if_pos hc] at hF
        exact hJ7 _ _ _ _ P (lv_sub hl [2, 3, 4, 5, 6] rfl) (Option.some.inj hF)
      · rw [if_neg hc] at hF
        refine lv_aload_n (pc := 51) hx hb dX3_setLimit_51 rfl (lv_at hl 1 rfl) ?_
        refine r_gR (pc := 52) CX P hF fl_X3_9 dX3_setLimit_52 (fun a10 hF => ?_)
        refine lv_aload_n (pc := 55) hx hb dX3_setLimit_55 rfl (lv_at hl 2 rfl) ?_
        refine lv_iload_n (pc := 56) hx hb dX3_setLimit_56 rfl (lv_at hl 3 rfl) ?_
        refine lv_aload (pc := 57) hx hb dX3_setLimit_57 (lv_at hl 6 rfl) ?_
        refine r_gR (pc := 59) CX P hF fl_X3_80 dX3_setLimit_59 (fun a11 hF => ?_)
        refine lv_iload_n (pc := 62) hx hb dX3_setLimit_62 rfl (lv_at hl 3 rfl) ?_
        refine r_aI (pc := 63) CX P hF dX3_setLimit_63 (fun v12 hF => ?_)
        refine lv_iload (pc := 64) hx hb dX3_setLimit_64 (lv_at hl 5 rfl) ?_
        refine lv_isub (pc := 66) hx hb dX3_setLimit_66 ?_
        refine r_cVi (pc := 67) (As := [.ref (B + ap1), .int vp2, .int (v12 - vp4)]) (rest := []) CX P hl.1 hF kv_X3_83 (fun r h1 q => c_X5_takePages l G B _ _ _ _ _ _ _ q) rfl rfl ⟨Nat.le_of_ble_eq_true rfl, Nat.le_of_ble_eq_true rfl⟩ (Nat.le_of_ble_eq_true rfl) ⟨Nat.le_of_ble_eq_true rfl, Nat.le_of_ble_eq_true rfl⟩ dX3_setLimit_67 (fun v13 h14 H locs P hF => ?_)
        replace hF := un_i hF
        refine lv_pop (pc := 70) hx hb dX3_setLimit_70 rfl ?_
        exact hJ7 _ _ _ _ P (lv_sub hl [2, 3, 4, 5, 6] rfl) (Option.some.inj hF)
  replace hF := hA5
  refine lv_icmp_eq (pc := 19) (tgt := 27) hx hb dX3_setLimit_19 (by decide) (fun hc => ?_) (fun hc => ?_)
  · rw [if_pos hc] at hF
    refine lv_iconst (pc := 27) (v := 1) hx hb dX3_setLimit_27 (by decide) ?_
    refine lv_goto (pc := 28) (tgt := 32) hx hb dX3_setLimit_28 (by decide) ?_
    exact hJ5 _ _ _ _ P (lv_sub hl [1, 2, 3, 4, 5, 0] rfl) (Option.some.inj hF)
  · rw [if_neg hc] at hF
    refine lv_iload_n (pc := 22) hx hb dX3_setLimit_22 rfl (lv_at hl 4 rfl) ?_
    refine lv_iconst (pc := 23) (v := 3) hx hb dX3_setLimit_23 (by decide) ?_
    refine lv_icmp_ne (pc := 24) (tgt := 31) hx hb dX3_setLimit_24 (by decide) (fun hc => ?_) (fun hc => ?_)
    · rw [if_neg hc] at hF
      refine lv_iconst (pc := 31) (v := 0) hx hb dX3_setLimit_31 (by decide) ?_
      exact hJ5 _ _ _ _ P (lv_sub hl [1, 2, 3, 4, 5, 0] rfl) (Option.some.inj hF)
    · rw [if_pos hc] at hF
      refine lv_iconst (pc := 27) (v := 1) hx hb dX3_setLimit_27 (by decide) ?_
      refine lv_goto (pc := 28) (tgt := 32) hx hb dX3_setLimit_28 (by decide) ?_
      exact hJ5 _ _ _ _ P (lv_sub hl [1, 2, 3, 4, 5, 0] rfl) (Option.some.inj hF)
def F_X3_fitsUnderMax (h : Hp) (a0 : Nat) (ap1 : Nat) (vp2 : Int32) (vp3 : Int32) : Option (Int32 × Hp) :=
(gR h ap1 8 0).bind fun a1 =>
(gR h a1 6 3).bind fun a2 =>
(aR h a2 15 3).bind fun a3 =>
(aI h a3 vp2).bind fun v4 =>
bl (v4 - vp3) fun v5 =>
(gR h ap1 8 0).bind fun a6 =>
(gR h a6 6 8).bind fun a7 =>
(aR h a7 15 2).bind fun a8 =>
(aI h a8 vp2).bind fun v9 =>
(sI h a8 vp2 (v9 + 1)).bind fun h10 =>
(gR h10 a0 3 0).bind fun a11 =>
(gR h10 ap1 8 0).bind fun a12 =>
(gR h10 a12 6 5).bind fun a13 =>
(aI h10 a13 vp2).bind fun v14 =>
(cO h10 a11 5 (F_X5_takePages h10 a11 ap1 vp2 (v14 - v5))).bind (un fun v15 h16 =>
(gR h16 ap1 8 0).bind fun a17 =>
(gR h16 a17 6 5).bind fun a18 =>
(aI h16 a18 vp2).bind fun v19 =>
if v5 < v19 then (
some (0, h16)) else (
some (1, h16)))
set_option maxRecDepth 100000 in
set_option maxHeartbeats 4000000 in
theorem c_X3_fitsUnderMax (l : Launch) (G : GG) (B : Nat) (h : Hp) (a0 : Nat) (ap1 : Nat) (vp2 : Int32) (vp3 : Int32) (r0 : Int32) (hr : Hp) (hF : F_X3_fitsUnderMax h a0 ap1 vp2 vp3 = some (r0, hr)) : CI l yX3_fitsUnderMax cX3_fitsUnderMax 5 .boolean 4 127 0 0 G B h [.ref (B + a0), .ref (B + ap1), .int vp2, .int vp3] r0 hr := by
  refine ent_i rfl (Nat.le_of_ble_eq_true rfl) ?_
  intro p e s m args below meth c ls Q CX hnm hret P hl
  have CX : Cxt p m c cX3_fitsUnderMax 5 s args RX3 G B := CX
  obtain ⟨⟨hx, hb, hml, hown, hts⟩, -, -⟩ := id CX
  replace hl : lv_has ls 5 [(0, .ref (B + a0)), (1, .ref (B + ap1)), (2, .int vp2), (3, .int vp3)] := hl
  generalize s.heap = H at P ⊢
  generalize ([] : List Loc) = locs at P ⊢
  unfold F_X3_fitsUnderMax at hF
  refine lv_aload_n (pc := 0) hx hb dX3_fitsUnderMax_0 rfl (lv_at hl 1 rfl) ?_
  refine r_gR (pc := 1) CX P hF fl_X3_27 dX3_fitsUnderMax_1 (fun a1 hF => ?_)
  refine r_gR (pc := 4) CX P hF fl_X3_73 dX3_fitsUnderMax_4 (fun a2 hF => ?_)
  refine lv_iconst (pc := 7) (v := 3) hx hb dX3_fitsUnderMax_7 (by decide) ?_
  refine r_aR (pc := 8) CX P hF (Or.inr (Or.inl rfl)) dX3_fitsUnderMax_8 (fun a3 hF => ?_)
  refine lv_iload_n (pc := 9) hx hb dX3_fitsUnderMax_9 rfl (lv_at hl 2 rfl) ?_
  refine r_aI (pc := 10) CX P hF dX3_fitsUnderMax_10 (fun v4 hF => ?_)
  refine lv_iload_n (pc := 11) hx hb dX3_fitsUnderMax_11 rfl (lv_at hl 3 rfl) ?_
  refine lv_isub (pc := 12) hx hb dX3_fitsUnderMax_12 ?_
  refine lv_topi (fun v5 ev5 => ?_)
  replace hF := bl_e hF ev5
  refine lv_istore (pc := 13) hx hb dX3_fitsUnderMax_13 hl (by decide) rfl (fun ls hl => ?_)
  replace hl : lv_has ls 5 [(4, .int v5), (0, .ref (B + a0)), (1, .ref (B + ap1)), (2, .int vp2), (3, .int vp3)] := hl
  refine lv_aload_n (pc := 15) hx hb dX3_fitsUnderMax_15 rfl (lv_at hl 2 rfl) ?_
  refine r_gR (pc := 16) CX P hF fl_X3_27 dX3_fitsUnderMax_16 (fun a6 hF => ?_)
  refine r_gR (pc := 19) CX P hF fl_X3_77 dX3_fitsUnderMax_19 (fun a7 hF => ?_)
  refine lv_iconst (pc := 22) (v := 2) hx hb dX3_fitsUnderMax_22 (by decide) ?_
  refine r_aR (pc := 23) CX P hF (Or.inr (Or.inl rfl)) dX3_fitsUnderMax_23 (fun a8 hF => ?_)
  refine lv_iload_n (pc := 24) hx hb dX3_fitsUnderMax_24 rfl (lv_at hl 3 rfl) ?_
  refine lv_dup2_11 (pc := 25) hx hb dX3_fitsUnderMax_25 rfl rfl ?_
  refine r_aI (pc := 26) CX P hF dX3_fitsUnderMax_26 (fun v9 hF => ?_)
  refine lv_iconst (pc := 27) (v := 1) hx hb dX3_fitsUnderMax_27 (by decide) ?_
  refine lv_iadd (pc := 28) hx hb dX3_fitsUnderMax_28 ?_
  refine r_sI (pc := 29) CX P hF dX3_fitsUnderMax_29 (fun h10 H locs P hF => ?_)
  refine lv_aload_n (pc := 30) hx hb dX3_fitsUnderMax_30 rfl (lv_at hl 1 rfl) ?_
  refine r_gR (pc := 31) CX P hF fl_X3_9 dX3_fitsUnderMax_31 (fun a11 hF => ?_)
  refine lv_aload_n (pc := 34) hx hb dX3_fitsUnderMax_34 rfl (lv_at hl 2 rfl) ?_
  refine lv_iload_n (pc := 35) hx hb dX3_fitsUnderMax_35 rfl (lv_at hl 3 rfl) ?_
  refine lv_aload_n (pc := 36) hx hb dX3_fitsUnderMax_36 rfl (lv_at hl 2 rfl) ?_
  refine r_gR (pc := 37) CX P hF fl_X3_27 dX3_fitsUnderMax_37 (fun a12 hF => ?_)
  refine r_gR (pc := 40) CX P hF fl_X3_80 dX3_fitsUnderMax_40 (fun a13 hF => ?_)
  refine lv_iload_n (pc := 43) hx hb dX3_fitsUnderMax_43 rfl (lv_at hl 3 rfl) ?_
  refine r_aI (pc := 44) CX P hF dX3_fitsUnderMax_44 (fun v14 hF => ?_)
  refine lv_iload (pc := 45) hx hb dX3_fitsUnderMax_45 (lv_at hl 0 rfl) ?_
  refine lv_isub (pc := 47) hx hb dX3_fitsUnderMax_47 ?_
  refine r_cVi (pc := 48) (As := [.ref (B + ap1), .int vp2, .int (v14 - v5)]) (rest := []) CX P hl.1 hF kv_X3_83 (fun r h1 q => c_X5_takePages l G B _ _ _ _ _ _ _ q) rfl rfl ⟨Nat.le_of_ble_eq_true rfl, Nat.le_of_ble_eq_true rfl⟩ (Nat.le_of_ble_eq_true rfl) ⟨Nat.le_of_ble_eq_true rfl, Nat.le_of_ble_eq_true rfl⟩ dX3_fitsUnderMax_48 (fun v15 h16 H locs P hF => ?_)
  replace hF := un_i hF
  refine lv_pop (pc := 51) hx hb dX3_fitsUnderMax_51 rfl ?_
  refine lv_aload_n (pc := 52) hx hb dX3_fitsUnderMax_52 rfl (lv_at hl 2 rfl) ?_
  refine r_gR (pc := 53) CX P hF fl_X3_27 dX3_fitsUnderMax_53 (fun a17 hF => ?_)
  refine r_gR (pc := 56) CX P hF fl_X3_80 dX3_fitsUnderMax_56 (fun a18 hF => ?_)
  refine lv_iload_n (pc := 59) hx hb dX3_fitsUnderMax_59 rfl (lv_at hl 3 rfl) ?_
  refine r_aI (pc := 60) CX P hF dX3_fitsUnderMax_60 (fun v19 hF => ?_)
  refine lv_iload (pc := 61) hx hb dX3_fitsUnderMax_61 (lv_at hl 0 rfl) ?_
  refine lv_icmp_gt (pc := 63) (tgt := 70) hx hb dX3_fitsUnderMax_63 (by decide) (fun hc => ?_) (fun hc => ?_)
  · rw [if_pos hc] at hF
    refine lv_iconst (pc := 70) (v := 0) hx hb dX3_fitsUnderMax_70 (by decide) ?_
    cases hF
    exact hret _ _ _ _ P rfl dX3_fitsUnderMax_71
  · rw [if_neg hc] at hF
    refine lv_iconst (pc := 66) (v := 1) hx hb dX3_fitsUnderMax_66 (by decide) ?_
    refine lv_goto (pc := 67) (tgt := 71) hx hb dX3_fitsUnderMax_67 (by decide) ?_
    cases hF
    exact hret _ _ _ _ P rfl dX3_fitsUnderMax_71
