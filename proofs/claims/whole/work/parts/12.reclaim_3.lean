def F_X3_mayNotJoin_L29 (h11 : Hp) (a6 : Nat) (v7 : Int32) (v8 : Int32) (v9 : Int32) (v10 : Int32) : Option ((Int32 × Int32) ⊕ ((Int32) ⊕ (Unit))) :=
if v8 ≤ 0 then (
some (.inr (.inr ()))) else (
if v9 = (-1) then (
some (.inr (.inr ()))) else (
if v9 = v7 then (
some (.inr (.inr ()))) else (
if 12 ≤ v10 then (
some (.inr (.inr ()))) else (
(gR h11 a6 8 0).bind fun a12 =>
(gR h11 a12 6 6).bind fun a13 =>
(aI h11 a13 v9).bind fun v14 =>
(gR h11 a6 8 0).bind fun a15 =>
(gR h11 a15 6 3).bind fun a16 =>
(aR h11 a16 15 5).bind fun a17 =>
(aI h11 a17 v9).bind fun v18 =>
if (v14 + v8) ≤ v18 then (
(gR h11 a6 8 0).bind fun a19 =>
(gR h11 a19 6 0).bind fun a20 =>
(aI h11 a20 v9).bind fun v21 =>
bl (v10 + 1) fun v22 =>
some (.inl (v21, v22))) else (
some (.inr (.inl 1)))))))
def F_X3_mayNotJoin (h : Hp) (a0 : Nat) (ap1 : Nat) (vp2 : Int32) (vp3 : Int32) (vp4 : Int32) : Option (Int32) :=
(cO h ap1 8 (F_X8_pidsFull h ap1 vp3 vp4)).bind fun v1 =>
if v1 = 0 then (
(gR h ap1 8 1).bind fun a2 =>
(gR h a2 0 3).bind fun a3 =>
(aI h a3 vp2).bind fun v4 =>
(loopF (fun x => F_X3_mayNotJoin_L29 h ap1 vp4 v4 x.1 x.2) 6000 (vp3, 0)).bind (sE (fun x => some x) (fun q5 =>
some 0))) else (
some 1)
set_option maxRecDepth 100000 in
set_option maxHeartbeats 4000000 in
theorem c_X3_mayNotJoin (l : Launch) (G : GG) (B : Nat) (h : Hp) (a0 : Nat) (ap1 : Nat) (vp2 : Int32) (vp3 : Int32) (vp4 : Int32) (r0 : Int32) (hF : F_X3_mayNotJoin h a0 ap1 vp2 vp3 vp4 = some r0) : CI l yX3_mayNotJoin cX3_mayNotJoin 8 .boolean 3 71 0 0 G B h [.ref (B + a0), .ref (B + ap1), .int vp2, .int vp3, .int vp4] r0 h := by
  refine ent_i rfl (Nat.le_of_ble_eq_true rfl) ?_
  intro p e s m args below meth c ls Q CX hnm hret P hl
  have CX : Cxt p m c cX3_mayNotJoin 8 s args RX3 G B := CX
  obtain ⟨⟨hx, hb, hml, hown, hts⟩, -, -⟩ := id CX
  replace hl : lv_has ls 8 [(0, .ref (B + a0)), (1, .ref (B + ap1)), (2, .int vp2), (3, .int vp3), (4, .int vp4)] := hl
  generalize s.heap = H at P ⊢
  generalize ([] : List Loc) = locs at P ⊢
  unfold F_X3_mayNotJoin at hF
  refine lv_aload_n (pc := 0) hx hb dX3_mayNotJoin_0 rfl (lv_at hl 1 rfl) ?_
  refine lv_iload_n (pc := 1) hx hb dX3_mayNotJoin_1 rfl (lv_at hl 3 rfl) ?_
  refine lv_iload (pc := 2) hx hb dX3_mayNotJoin_2 (lv_at hl 4 rfl) ?_
  refine r_cVp (pc := 4) (As := [.int vp3, .int vp4]) (rest := []) CX P hl.1 hF kv_X3_110 (fun r q => c_X8_pidsFull l G B _ _ _ _ _ q) rfl rfl ⟨Nat.le_of_ble_eq_true rfl, Nat.le_of_ble_eq_true rfl⟩ (Nat.le_of_ble_eq_true rfl) ⟨Nat.le_of_ble_eq_true rfl, Nat.le_of_ble_eq_true rfl⟩ dX3_mayNotJoin_4 (fun v1 H locs P hF => ?_)
  refine lv_if_eq (pc := 7) (tgt := 12) hx hb dX3_mayNotJoin_7 (by decide) (fun hc => ?_) (fun hc => ?_)
  · rw [if_pos hc] at hF
    refine lv_aload_n (pc := 12) hx hb dX3_mayNotJoin_12 rfl (lv_at hl 1 rfl) ?_
    refine r_gR (pc := 13) CX P hF fl_X3_15 dX3_mayNotJoin_13 (fun a2 hF => ?_)
    refine r_gR (pc := 16) CX P hF fl_X3_114 dX3_mayNotJoin_16 (fun a3 hF => ?_)
    refine lv_iload_n (pc := 19) hx hb dX3_mayNotJoin_19 rfl (lv_at hl 2 rfl) ?_
    refine r_aI (pc := 20) CX P hF dX3_mayNotJoin_20 (fun v4 hF => ?_)
    refine lv_istore (pc := 21) hx hb dX3_mayNotJoin_21 hl (by decide) rfl (fun ls hl => ?_)
    replace hl : lv_has ls 8 [(5, .int v4), (0, .ref (B + a0)), (1, .ref (B + ap1)), (2, .int vp2), (3, .int vp3), (4, .int vp4)] := hl
    refine lv_iload_n (pc := 23) hx hb dX3_mayNotJoin_23 rfl (lv_at hl 4 rfl) ?_
    refine lv_istore (pc := 24) hx hb dX3_mayNotJoin_24 hl (by decide) rfl (fun ls hl => ?_)
    replace hl : lv_has ls 8 [(6, .int vp3), (5, .int v4), (0, .ref (B + a0)), (1, .ref (B + ap1)), (2, .int vp2), (3, .int vp3), (4, .int vp4)] := hl
    refine lv_iconst (pc := 26) (v := 0) hx hb dX3_mayNotJoin_26 (by decide) ?_
    refine lv_istore (pc := 27) hx hb dX3_mayNotJoin_27 hl (by decide) rfl (fun ls hl => ?_)
    replace hl : lv_has ls 8 [(7, .int 0), (6, .int vp3), (5, .int v4), (0, .ref (B + a0)), (1, .ref (B + ap1)), (2, .int vp2), (3, .int vp3), (4, .int vp4)] := hl
    obtain ⟨r5, hLp5, hK5⟩ := bd_some hF
    have hX5 : ∀  (H : Heap) (locs : List Loc) (ls : Array Slot), Pic G B h s H locs → lv_has ls 8 [] → .inr () = r5 → W p l e (rmM 3 71 0 0) s m args below meth c H locs 0 0 Q (F0 m 102 ls []) := by
      intro  H locs ls P hl er
      subst er
      have hF := sE_ri hK5
      dsimp only at hF
      refine lv_iconst (pc := 102) (v := 0) hx hb dX3_mayNotJoin_102 (by decide) ?_
      cases hF
      exact hret _ _ _ _ P rfl dX3_mayNotJoin_103
    have hL5 : ∀ (n : Nat) (v9 : Int32) (v10 : Int32) (H : Heap) (locs : List Loc) (ls : Array Slot), Pic G B h s H locs → lv_has ls 8 [(1, .ref (B + ap1)), (4, .int vp4), (5, .int v4), (6, .int v9), (7, .int v10)] → loopF (fun x => F_X3_mayNotJoin_L29 h ap1 vp4 v4 x.1 x.2) n (v9, v10) = some r5 → W p l e (rmM 3 71 0 0) s m args below meth c H locs 0 0 Q (F0 m 29 ls []) := by
      intro n
      induction n with
      | zero => intro v9 v10 H locs ls P hl hq; cases hq
      | succ n ih =>
        intro v9 v10 H locs ls P hl hq
        obtain ⟨z5, hS5, hI5, hR5⟩ := loop_some hq
        have hF : F_X3_mayNotJoin_L29 h ap1 vp4 v4 v9 v10 = some z5 := hS5
        unfold F_X3_mayNotJoin_L29 at hF
        refine lv_iload (pc := 29) hx hb dX3_mayNotJoin_29 (lv_at hl 2 rfl) ?_
        refine lv_if_le (pc := 31) (tgt := 102) hx hb dX3_mayNotJoin_31 (by decide) (fun hc => ?_) (fun hc => ?_)
        · rw [if_pos hc] at hF
          exact hX5  _ _ _ P (lv_sub hl [] rfl) (hR5 _ (Option.some.inj hF).symm)
        · rw [if_neg hc] at hF
          refine lv_iload (pc := 34) hx hb dX3_mayNotJoin_34 (lv_at hl 3 rfl) ?_
          refine lv_iconst (pc := 36) (v := (-1)) hx hb dX3_mayNotJoin_36 (by decide) ?_
          refine lv_icmp_eq (pc := 37) (tgt := 102) hx hb dX3_mayNotJoin_37 (by decide) (fun hc => ?_) (fun hc => ?_)
          · rw [if_pos hc] at hF
            exact hX5  _ _ _ P (lv_sub hl [] rfl) (hR5 _ (Option.some.inj hF).symm)
          · rw [if_neg hc] at hF
            refine lv_iload (pc := 40) hx hb dX3_mayNotJoin_40 (lv_at hl 3 rfl) ?_
            refine lv_iload (pc := 42) hx hb dX3_mayNotJoin_42 (lv_at hl 1 rfl) ?_
            refine lv_icmp_eq (pc := 44) (tgt := 102) hx hb dX3_mayNotJoin_44 (by decide) (fun hc => ?_) (fun hc => ?_)
            · rw [if_pos hc] at hF
              exact hX5  _ _ _ P (lv_sub hl [] rfl) (hR5 _ (Option.some.inj hF).symm)
            · rw [if_neg hc] at hF
              refine lv_iload (pc := 47) hx hb dX3_mayNotJoin_47 (lv_at hl 4 rfl) ?_
              refine lv_bipush (pc := 49) (v := 12) hx hb dX3_mayNotJoin_49 (by decide) ?_
              refine lv_icmp_ge (pc := 51) (tgt := 102) hx hb dX3_mayNotJoin_51 (by decide) (fun hc => ?_) (fun hc => ?_)
              · rw [if_pos hc] at hF
                exact hX5  _ _ _ P (lv_sub hl [] rfl) (hR5 _ (Option.some.inj hF).symm)
              · rw [if_neg hc] at hF
                refine lv_aload_n (pc := 54) hx hb dX3_mayNotJoin_54 rfl (lv_at hl 0 rfl) ?_
                refine r_gR (pc := 55) CX P hF fl_X3_27 dX3_mayNotJoin_55 (fun a12 hF => ?_)
                refine r_gR (pc := 58) CX P hF fl_X3_117 dX3_mayNotJoin_58 (fun a13 hF => ?_)
                refine lv_iload (pc := 61) hx hb dX3_mayNotJoin_61 (lv_at hl 3 rfl) ?_
                refine r_aI (pc := 63) CX P hF dX3_mayNotJoin_63 (fun v14 hF => ?_)
                refine lv_iload (pc := 64) hx hb dX3_mayNotJoin_64 (lv_at hl 2 rfl) ?_
                refine lv_iadd (pc := 66) hx hb dX3_mayNotJoin_66 ?_
                refine lv_aload_n (pc := 67) hx hb dX3_mayNotJoin_67 rfl (lv_at hl 0 rfl) ?_
                refine r_gR (pc := 68) CX P hF fl_X3_27 dX3_mayNotJoin_68 (fun a15 hF => ?_)
                refine r_gR (pc := 71) CX P hF fl_X3_73 dX3_mayNotJoin_71 (fun a16 hF => ?_)
                refine lv_iconst (pc := 74) (v := 5) hx hb dX3_mayNotJoin_74 (by decide) ?_
                refine r_aR (pc := 75) CX P hF (Or.inr (Or.inl rfl)) dX3_mayNotJoin_75 (fun a17 hF => ?_)
                refine lv_iload (pc := 76) hx hb dX3_mayNotJoin_76 (lv_at hl 3 rfl) ?_
                refine r_aI (pc := 78) CX P hF dX3_mayNotJoin_78 (fun v18 hF => ?_)
                refine lv_icmp_le (pc := 79) (tgt := 84) hx hb dX3_mayNotJoin_79 (by decide) (fun hc => ?_) (fun hc => ?_)
                · rw [if_pos hc] at hF
                  refine lv_aload_n (pc := 84) hx hb dX3_mayNotJoin_84 rfl (lv_at hl 0 rfl) ?_
                  refine r_gR (pc := 85) CX P hF fl_X3_27 dX3_mayNotJoin_85 (fun a19 hF => ?_)
                  refine r_gR (pc := 88) CX P hF fl_X3_94 dX3_mayNotJoin_88 (fun a20 hF => ?_)
                  refine lv_iload (pc := 91) hx hb dX3_mayNotJoin_91 (lv_at hl 3 rfl) ?_
                  refine r_aI (pc := 93) CX P hF dX3_mayNotJoin_93 (fun v21 hF => ?_)
                  refine lv_istore (pc := 94) hx hb dX3_mayNotJoin_94 hl (by decide) rfl (fun ls hl => ?_)
                  replace hl : lv_has ls 8 [(6, .int v21), (1, .ref (B + ap1)), (4, .int vp4), (5, .int v4), (7, .int v10)] := hl
                  obtain ⟨v22, ev22, hF⟩ := bl_o hF
                  refine lv_iinc (pc := 96) (k := 4) (v := v22) hx hb dX3_mayNotJoin_96 hl rfl ev22 (by decide) rfl (fun ls hl => ?_)
                  replace hl : lv_has ls 8 [(7, .int v22), (6, .int v21), (1, .ref (B + ap1)), (4, .int vp4), (5, .int v4)] := hl
                  refine lv_goto (pc := 99) (tgt := 29) hx hb dX3_mayNotJoin_99 (by decide) ?_
                  exact ih _ _ _ _ _ P (lv_sub hl [2, 3, 4, 1, 0] rfl) (hI5 _ (Option.some.inj hF).symm)
                · rw [if_neg hc] at hF
                  refine lv_iconst (pc := 82) (v := 1) hx hb dX3_mayNotJoin_82 (by decide) ?_
                  have hE := hR5 _ (Option.some.inj hF).symm
                  subst hE
                  replace hF := sE_li hK5
                  cases hF
                  exact hret _ _ _ _ P rfl dX3_mayNotJoin_83
    exact hL5 _ _ _ _ _ _ P (lv_sub hl [4, 7, 2, 1, 0] rfl) hLp5
  · rw [if_neg hc] at hF
    refine lv_iconst (pc := 10) (v := 1) hx hb dX3_mayNotJoin_10 (by decide) ?_
    cases hF
    exact hret _ _ _ _ P rfl dX3_mayNotJoin_11
def F_X3_moveProcess_L54 (a10 : Nat) (a11 : Nat) (v12 : Int32) (v13 : Int32) (v14 : Int32) (v15 : Int32) (v16 : Int32) (v17 : Int32) (v18 : Int32) (h19 : Hp) : Option ((Int32 × Int32 × Hp) ⊕ ((Int32 × Hp) ⊕ (Hp))) :=
if v17 = (-1) then (
some (.inr (.inr h19))) else (
if v17 = v15 then (
some (.inr (.inr h19))) else (
if 12 ≤ v18 then (
some (.inr (.inr h19))) else (
(gR h19 a11 8 0).bind fun a20 =>
(gR h19 a20 6 5).bind fun a21 =>
(aI h19 a21 v17).bind fun v22 =>
(gR h19 a11 8 0).bind fun a23 =>
(gR h19 a23 6 3).bind fun a24 =>
(aR h19 a24 15 3).bind fun a25 =>
(aI h19 a25 v17).bind fun v26 =>
(if v26 < (v22 + v16) then (
some 0) else (
some 1)).bind fun v28 =>
bl (fun (h32 : Hp) =>
(gR h32 a11 8 0).bind fun a33 =>
(gR h32 a33 6 0).bind fun a34 =>
(aI h32 a34 v17).bind fun v35 =>
bl (v18 + 1) fun v36 =>
some (.inl (v35, v36, h32))) fun k29 =>
if v28 = 0 then (
(cO h19 a10 3 (F_X3_fitsUnderMax h19 a10 a11 v17 v16)).bind (un fun v30 h31 =>
if v30 = 0 then (
some (.inr (.inl ((-4), h31)))) else (
k29 h31))) else (
k29 h19))))
def F_X3_moveProcess (h : Hp) (a0 : Nat) (ap1 : Nat) (vp2 : Int32) (vp3 : Int32) : Option (Int32 × Hp) :=
(gR h ap1 8 1).bind fun a1 =>
(gR h a1 0 0).bind fun a2 =>
(aI h a2 vp2).bind fun v3 =>
(gR h ap1 8 0).bind fun a4 =>
(cO h a4 6 (F_X6_lowestCommon h a4 vp3 v3)).bind fun v5 =>
(cO h a0 3 (F_X3_mayNotJoin h a0 ap1 vp2 vp3 v5)).bind fun v6 =>
if v6 = 0 then (
(gR h ap1 8 1).bind fun a7 =>
(cO h a7 0 (F_X0_held h a7 vp2)).bind fun v8 =>
(loopF (fun x => F_X3_moveProcess_L54 a0 ap1 vp2 vp3 v3 v5 v8 x.1 x.2.1 x.2.2) 6000 (vp3, 0, h)).bind (sE (fun x => some x) (fun h37 =>
(cO h37 ap1 8 (F_X8_relocate h37 ap1 vp2 vp3)).bind fun h38 =>
some (v3, h38)))) else (
some ((-4), h))
set_option maxRecDepth 100000 in
set_option maxHeartbeats 4000000 in
theorem c_X3_moveProcess (l : Launch) (G : GG) (B : Nat) (h : Hp) (a0 : Nat) (ap1 : Nat) (vp2 : Int32) (vp3 : Int32) (r0 : Int32) (hr : Hp) (hF : F_X3_moveProcess h a0 ap1 vp2 vp3 = some (r0, hr)) : CI l yX3_moveProcess cX3_moveProcess 10 .int 5 151 0 0 G B h [.ref (B + a0), .ref (B + ap1), .int vp2, .int vp3] r0 hr := by
  refine ent_i rfl (Nat.le_of_ble_eq_true rfl) ?_
  intro p e s m args below meth c ls Q CX hnm hret P hl
  have CX : Cxt p m c cX3_moveProcess 10 s args RX3 G B := CX
  obtain ⟨⟨hx, hb, hml, hown, hts⟩, -, -⟩ := id CX
  replace hl : lv_has ls 10 [(0, .ref (B + a0)), (1, .ref (B + ap1)), (2, .int vp2), (3, .int vp3)] := hl
  generalize s.heap = H at P ⊢
  generalize ([] : List Loc) = locs at P ⊢
  unfold F_X3_moveProcess at hF
  refine lv_aload_n (pc := 0) hx hb dX3_moveProcess_0 rfl (lv_at hl 1 rfl) ?_
  refine r_gR (pc := 1) CX P hF fl_X3_15 dX3_moveProcess_1 (fun a1 hF => ?_)
  refine r_gR (pc := 4) CX P hF fl_X3_21 dX3_moveProcess_4 (fun a2 hF => ?_)
  refine lv_iload_n (pc := 7) hx hb dX3_moveProcess_7 rfl (lv_at hl 2 rfl) ?_
  refine r_aI (pc := 8) CX P hF dX3_moveProcess_8 (fun v3 hF => ?_)
  refine lv_istore (pc := 9) hx hb dX3_moveProcess_9 hl (by decide) rfl (fun ls hl => ?_)
  replace hl : lv_has ls 10 [(4, .int v3), (0, .ref (B + a0)), (1, .ref (B + ap1)), (2, .int vp2), (3, .int vp3)] := hl
  refine lv_aload_n (pc := 11) hx hb dX3_moveProcess_11 rfl (lv_at hl 2 rfl) ?_
  refine r_gR (pc := 12) CX P hF fl_X3_27 dX3_moveProcess_12 (fun a4 hF => ?_)
  refine lv_iload_n (pc := 15) hx hb dX3_moveProcess_15 rfl (lv_at hl 4 rfl) ?_
  refine lv_iload (pc := 16) hx hb dX3_moveProcess_16 (lv_at hl 0 rfl) ?_
  refine r_cVp (pc := 18) (As := [.int vp3, .int v3]) (rest := []) CX P hl.1 hF kv_X3_97 (fun r q => c_X6_lowestCommon l G B _ _ _ _ _ q) rfl rfl ⟨Nat.le_of_ble_eq_true rfl, Nat.le_of_ble_eq_true rfl⟩ (Nat.le_of_ble_eq_true rfl) ⟨Nat.le_of_ble_eq_true rfl, Nat.le_of_ble_eq_true rfl⟩ dX3_moveProcess_18 (fun v5 H locs P hF => ?_)
  refine lv_istore (pc := 21) hx hb dX3_moveProcess_21 hl (by decide) rfl (fun ls hl => ?_)
  replace hl : lv_has ls 10 [(5, .int v5), (4, .int v3), (0, .ref (B + a0)), (1, .ref (B + ap1)), (2, .int vp2), (3, .int vp3)] := hl
  refine lv_aload_n (pc := 23) hx hb dX3_moveProcess_23 rfl (lv_at hl 2 rfl) ?_
  refine lv_aload_n (pc := 24) hx hb dX3_moveProcess_24 rfl (lv_at hl 3 rfl) ?_
  refine lv_iload_n (pc := 25) hx hb dX3_moveProcess_25 rfl (lv_at hl 4 rfl) ?_
  refine lv_iload_n (pc := 26) hx hb dX3_moveProcess_26 rfl (lv_at hl 5 rfl) ?_
  refine lv_iload (pc := 27) hx hb dX3_moveProcess_27 (lv_at hl 0 rfl) ?_
  refine r_cVp (pc := 29) (As := [.ref (B + ap1), .int vp2, .int vp3, .int v5]) (rest := []) CX P hl.1 hF kv_X3_100 (fun r q => c_X3_mayNotJoin l G B _ _ _ _ _ _ _ q) rfl rfl ⟨Nat.le_of_ble_eq_true rfl, Nat.le_of_ble_eq_true rfl⟩ (Nat.le_of_ble_eq_true rfl) ⟨Nat.le_of_ble_eq_true rfl, Nat.le_of_ble_eq_true rfl⟩ dX3_moveProcess_29 (fun v6 H locs P hF => ?_)
  refine lv_if_eq (pc := 32) (tgt := 38) hx hb dX3_moveProcess_32 (by decide) (fun hc => ?_) (fun hc => ?_)
  · rw [if_pos hc] at hF
    refine lv_aload_n (pc := 38) hx hb dX3_moveProcess_38 rfl (lv_at hl 3 rfl) ?_
    refine r_gR (pc := 39) CX P hF fl_X3_15 dX3_moveProcess_39 (fun a7 hF => ?_)
    refine lv_iload_n (pc := 42) hx hb dX3_moveProcess_42 rfl (lv_at hl 4 rfl) ?_
    refine r_cVp (pc := 43) (As := [.int vp2]) (rest := []) CX P hl.1 hF kv_X3_104 (fun r q => c_X0_held l G B _ _ _ _ q) rfl rfl ⟨Nat.le_of_ble_eq_true rfl, Nat.le_of_ble_eq_true rfl⟩ (Nat.le_of_ble_eq_true rfl) ⟨Nat.le_of_ble_eq_true rfl, Nat.le_of_ble_eq_true rfl⟩ dX3_moveProcess_43 (fun v8 H locs P hF => ?_)
    refine lv_istore (pc := 46) hx hb dX3_moveProcess_46 hl (by decide) rfl (fun ls hl => ?_)
    replace hl : lv_has ls 10 [(6, .int v8), (5, .int v5), (4, .int v3), (0, .ref (B + a0)), (1, .ref (B + ap1)), (2, .int vp2), (3, .int vp3)] := hl
    refine lv_iload_n (pc := 48) hx hb dX3_moveProcess_48 rfl (lv_at hl 6 rfl) ?_
    refine lv_istore (pc := 49) hx hb dX3_moveProcess_49 hl (by decide) rfl (fun ls hl => ?_)
    replace hl : lv_has ls 10 [(7, .int vp3), (6, .int v8), (5, .int v5), (4, .int v3), (0, .ref (B + a0)), (1, .ref (B + ap1)), (2, .int vp2), (3, .int vp3)] := hl
    refine lv_iconst (pc := 51) (v := 0) hx hb dX3_moveProcess_51 (by decide) ?_
    refine lv_istore (pc := 52) hx hb dX3_moveProcess_52 hl (by decide) rfl (fun ls hl => ?_)
    replace hl : lv_has ls 10 [(8, .int 0), (7, .int vp3), (6, .int v8), (5, .int v5), (4, .int v3), (0, .ref (B + a0)), (1, .ref (B + ap1)), (2, .int vp2), (3, .int vp3)] := hl
    obtain ⟨r9, hLp9, hK9⟩ := bd_some hF
    have hX9 : ∀ (h37 : Hp) (H : Heap) (locs : List Loc) (ls : Array Slot), Pic G B h37 s H locs → lv_has ls 10 [(1, .ref (B + ap1)), (2, .int vp2), (3, .int vp3), (4, .int v3)] → .inr h37 = r9 → W p l e (rmM 5 151 0 0) s m args below meth c H locs 0 0 Q (F0 m 147 ls []) := by
      intro h37 H locs ls P hl er
      subst er
      have hF := sE_ri hK9
      refine lv_aload_n (pc := 147) hx hb dX3_moveProcess_147 rfl (lv_at hl 0 rfl) ?_
      refine lv_iload_n (pc := 148) hx hb dX3_moveProcess_148 rfl (lv_at hl 1 rfl) ?_
      refine lv_iload_n (pc := 149) hx hb dX3_moveProcess_149 rfl (lv_at hl 2 rfl) ?_
      refine r_cVv (pc := 150) (As := [.int vp2, .int vp3]) (rest := []) CX P hl.1 hF kv_X3_107 (fun h1 q => c_X8_relocate l G B _ _ _ _ _ q) rfl rfl ⟨Nat.le_of_ble_eq_true rfl, Nat.le_of_ble_eq_true rfl⟩ (Nat.le_of_ble_eq_true rfl) ⟨Nat.le_of_ble_eq_true rfl, Nat.le_of_ble_eq_true rfl⟩ dX3_moveProcess_150 (fun h38 H locs P hF => ?_)
      refine lv_iload (pc := 153) hx hb dX3_moveProcess_153 (lv_at hl 3 rfl) ?_
      cases hF
      exact hret _ _ _ _ P rfl dX3_moveProcess_155
    have hL9 : ∀ (n : Nat) (v17 : Int32) (v18 : Int32) (h19 : Hp) (H : Heap) (locs : List Loc) (ls : Array Slot), Pic G B h19 s H locs → lv_has ls 10 [(0, .ref (B + a0)), (1, .ref (B + ap1)), (2, .int vp2), (3, .int vp3), (4, .int v3), (5, .int v5), (6, .int v8), (7, .int v17), (8, .int v18)] → loopF (fun x => F_X3_moveProcess_L54 a0 ap1 vp2 vp3 v3 v5 v8 x.1 x.2.1 x.2.2) n (v17, v18, h19) = some r9 → W p l e (rmM 5 151 0 0) s m args below meth c H locs 0 0 Q (F0 m 54 ls []) := by
      intro n
      induction n with
      | zero => intro v17 v18 h19 H locs ls P hl hq; cases hq
      | succ n ih =>
        intro v17 v18 h19 H locs ls P hl hq
        obtain ⟨z9, hS9, hI9, hR9⟩ := loop_some hq
        have hF : F_X3_moveProcess_L54 a0 ap1 vp2 vp3 v3 v5 v8 v17 v18 h19 = some z9 := hS9
        unfold F_X3_moveProcess_L54 at hF
        refine lv_iload (pc := 54) hx hb dX3_moveProcess_54 (lv_at hl 7 rfl) ?_
        refine lv_iconst (pc := 56) (v := (-1)) hx hb dX3_moveProcess_56 (by decide) ?_
        refine lv_icmp_eq (pc := 57) (tgt := 147) hx hb dX3_moveProcess_57 (by decide) (fun hc => ?_) (fun hc => ?_)
        · rw [if_pos hc] at hF
          exact hX9 _ _ _ _ P (lv_sub hl [1, 2, 3, 4] rfl) (hR9 _ (Option.some.inj hF).symm)
        · rw [if_neg hc] at hF
          refine lv_iload (pc := 60) hx hb dX3_moveProcess_60 (lv_at hl 7 rfl) ?_
          refine lv_iload (pc := 62) hx hb dX3_moveProcess_62 (lv_at hl 5 rfl) ?_
          refine lv_icmp_eq (pc := 64) (tgt := 147) hx hb dX3_moveProcess_64 (by decide) (fun hc => ?_) (fun hc => ?_)
          · rw [if_pos hc] at hF
            exact hX9 _ _ _ _ P (lv_sub hl [1, 2, 3, 4] rfl) (hR9 _ (Option.some.inj hF).symm)
          · rw [if_neg hc] at hF
            refine lv_iload (pc := 67) hx hb dX3_moveProcess_67 (lv_at hl 8 rfl) ?_
            refine lv_bipush (pc := 69) (v := 12) hx hb dX3_moveProcess_69 (by decide) ?_
            refine lv_icmp_ge (pc := 71) (tgt := 147) hx hb dX3_moveProcess_71 (by decide) (fun hc => ?_) (fun hc => ?_)
            · rw [if_pos hc] at hF
              exact hX9 _ _ _ _ P (lv_sub hl [1, 2, 3, 4] rfl) (hR9 _ (Option.some.inj hF).symm)
            · rw [if_neg hc] at hF
              refine lv_aload_n (pc := 74) hx hb dX3_moveProcess_74 rfl (lv_at hl 1 rfl) ?_
              refine r_gR (pc := 75) CX P hF fl_X3_27 dX3_moveProcess_75 (fun a20 hF => ?_)
              refine r_gR (pc := 78) CX P hF fl_X3_80 dX3_moveProcess_78 (fun a21 hF => ?_)
              refine lv_iload (pc := 81) hx hb dX3_moveProcess_81 (lv_at hl 7 rfl) ?_
              refine r_aI (pc := 83) CX P hF dX3_moveProcess_83 (fun v22 hF => ?_)
              refine lv_iload (pc := 84) hx hb dX3_moveProcess_84 (lv_at hl 6 rfl) ?_
              refine lv_iadd (pc := 86) hx hb dX3_moveProcess_86 ?_
              refine lv_aload_n (pc := 87) hx hb dX3_moveProcess_87 rfl (lv_at hl 1 rfl) ?_
              refine r_gR (pc := 88) CX P hF fl_X3_27 dX3_moveProcess_88 (fun a23 hF => ?_)
              refine r_gR (pc := 91) CX P hF fl_X3_73 dX3_moveProcess_91 (fun a24 hF => ?_)
              refine lv_iconst (pc := 94) (v := 3) hx hb dX3_moveProcess_94 (by decide) ?_
              refine r_aR (pc := 95) CX P hF (Or.inr (Or.inl rfl)) dX3_moveProcess_95 (fun a25 hF => ?_)
              refine lv_iload (pc := 96) hx hb dX3_moveProcess_96 (lv_at hl 7 rfl) ?_
              refine r_aI (pc := 98) CX P hF dX3_moveProcess_98 (fun v26 hF => ?_)
              obtain ⟨j27, hA27, hK27⟩ := bd_some hF
              have hJ27 : ∀ (v28 : Int32) (H : Heap) (locs : List Loc) (ls : Array Slot), Pic G B h19 s H locs → lv_has ls 10 [(0, .ref (B + a0)), (1, .ref (B + ap1)), (2, .int vp2), (3, .int vp3), (4, .int v3), (5, .int v5), (6, .int v8), (7, .int v17), (8, .int v18)] → v28 = j27 → W p l e (rmM 5 151 0 0) s m args below meth c H locs 0 0 Q (F0 m 107 ls [.int v28]) := by
                intro v28 H locs ls P hl ej
                subst ej
                have hF := hK27
                refine lv_istore (pc := 107) hx hb dX3_moveProcess_107 hl (by decide) rfl (fun ls hl => ?_)
                replace hl : lv_has ls 10 [(9, .int v28), (0, .ref (B + a0)), (1, .ref (B + ap1)), (2, .int vp2), (3, .int vp3), (4, .int v3), (5, .int v5), (6, .int v8), (7, .int v17), (8, .int v18)] := hl
                refine lv_iload (pc := 109) hx hb dX3_moveProcess_109 (lv_at hl 0 rfl) ?_
                obtain ⟨k29, ek29, hF⟩ := bl_o hF
                have hJ29 : ∀ (h32 : Hp) (H : Heap) (locs : List Loc) (ls : Array Slot), Pic G B h32 s H locs → lv_has ls 10 [(0, .ref (B + a0)), (1, .ref (B + ap1)), (2, .int vp2), (3, .int vp3), (4, .int v3), (5, .int v5), (6, .int v8), (7, .int v17), (8, .int v18)] → k29 h32 = some z9 → W p l e (rmM 5 151 0 0) s m args below meth c H locs 0 0 Q (F0 m 129 ls []) := by
                  intro h32 H locs ls P hl hF
                  rw [← ek29] at hF
                  dsimp only at hF
                  refine lv_aload_n (pc := 129) hx hb dX3_moveProcess_129 rfl (lv_at hl 1 rfl) ?_
                  refine r_gR (pc := 130) CX P hF fl_X3_27 dX3_moveProcess_130 (fun a33 hF => ?_)
                  refine r_gR (pc := 133) CX P hF fl_X3_94 dX3_moveProcess_133 (fun a34 hF => ?_)
                  refine lv_iload (pc := 136) hx hb dX3_moveProcess_136 (lv_at hl 7 rfl) ?_
                  refine r_aI (pc := 138) CX P hF dX3_moveProcess_138 (fun v35 hF => ?_)
                  refine lv_istore (pc := 139) hx hb dX3_moveProcess_139 hl (by decide) rfl (fun ls hl => ?_)
                  replace hl : lv_has ls 10 [(7, .int v35), (0, .ref (B + a0)), (1, .ref (B + ap1)), (2, .int vp2), (3, .int vp3), (4, .int v3), (5, .int v5), (6, .int v8), (8, .int v18)] := hl
                  obtain ⟨v36, ev36, hF⟩ := bl_o hF
                  refine lv_iinc (pc := 141) (k := 8) (v := v36) hx hb dX3_moveProcess_141 hl rfl ev36 (by decide) rfl (fun ls hl => ?_)
                  replace hl : lv_has ls 10 [(8, .int v36), (7, .int v35), (0, .ref (B + a0)), (1, .ref (B + ap1)), (2, .int vp2), (3, .int vp3), (4, .int v3), (5, .int v5), (6, .int v8)] := hl
                  refine lv_goto (pc := 144) (tgt := 54) hx hb dX3_moveProcess_144 (by decide) ?_
                  exact ih _ _ _ _ _ _ P (lv_sub hl [2, 3, 4, 5, 6, 7, 8, 1, 0] rfl) (hI9 _ (Option.some.inj hF).symm)
                refine lv_if_ne (pc := 111) (tgt := 129) hx hb dX3_moveProcess_111 (by decide) (fun hc => ?_) (fun hc => ?_)
                · rw [if_neg hc] at hF
                  exact hJ29 _ _ _ _ P (lv_sub hl [1, 2, 3, 4, 5, 6, 7, 8, 9] rfl) hF
                · rw [if_pos hc] at hF
                  refine lv_aload_n (pc := 114) hx hb dX3_moveProcess_114 rfl (lv_at hl 1 rfl) ?_
                  refine lv_aload_n (pc := 115) hx hb dX3_moveProcess_115 rfl (lv_at hl 2 rfl) ?_
                  refine lv_iload (pc := 116) hx hb dX3_moveProcess_116 (lv_at hl 8 rfl) ?_
                  refine lv_iload (pc := 118) hx hb dX3_moveProcess_118 (lv_at hl 7 rfl) ?_
                  refine r_cVi (pc := 120) (As := [.ref (B + ap1), .int v17, .int v8]) (rest := []) CX P hl.1 hF kv_X3_65 (fun r h1 q => c_X3_fitsUnderMax l G B _ _ _ _ _ _ _ q) rfl rfl ⟨Nat.le_of_ble_eq_true rfl, Nat.le_of_ble_eq_true rfl⟩ (Nat.le_of_ble_eq_true rfl) ⟨Nat.le_of_ble_eq_true rfl, Nat.le_of_ble_eq_true rfl⟩ dX3_moveProcess_120 (fun v30 h31 H locs P hF => ?_)
                  replace hF := un_i hF
                  refine lv_if_ne (pc := 123) (tgt := 129) hx hb dX3_moveProcess_123 (by decide) (fun hc => ?_) (fun hc => ?_)
                  · rw [if_neg hc] at hF
                    exact hJ29 _ _ _ _ P (lv_sub hl [1, 2, 3, 4, 5, 6, 7, 8, 9] rfl) hF
                  · rw [if_pos hc] at hF
                    refine lv_bipush (pc := 126) (v := (-4)) hx hb dX3_moveProcess_126 (by decide) ?_
                    have hE := hR9 _ (Option.some.inj hF).symm
                    subst hE
                    replace hF := sE_li hK9
                    cases hF
                    exact hret _ _ _ _ P rfl dX3_moveProcess_128
              replace hF := hA27
              refine lv_icmp_gt (pc := 99) (tgt := 106) hx hb dX3_moveProcess_99 (by decide) (fun hc => ?_) (fun hc => ?_)
              · rw [if_pos hc] at hF
                refine lv_iconst (pc := 106) (v := 0) hx hb dX3_moveProcess_106 (by decide) ?_
                exact hJ27 _ _ _ _ P (lv_sub hl [0, 1, 2, 3, 4, 5, 6, 7, 8] rfl) (Option.some.inj hF)
              · rw [if_neg hc] at hF
                refine lv_iconst (pc := 102) (v := 1) hx hb dX3_moveProcess_102 (by decide) ?_
                refine lv_goto (pc := 103) (tgt := 107) hx hb dX3_moveProcess_103 (by decide) ?_
                exact hJ27 _ _ _ _ P (lv_sub hl [0, 1, 2, 3, 4, 5, 6, 7, 8] rfl) (Option.some.inj hF)
    exact hL9 _ _ _ _ _ _ _ P (lv_sub hl [5, 6, 7, 8, 4, 3, 2, 1, 0] rfl) hLp9
  · rw [if_neg hc] at hF
    refine lv_bipush (pc := 35) (v := (-4)) hx hb dX3_moveProcess_35 (by decide) ?_
    cases hF
    exact hret _ _ _ _ P rfl dX3_moveProcess_37
def F_X2_quotaLeft (h : Hp) (ap0 : Nat) (vp1 : Int32) : Option (Int32) :=
(gR h ap0 8 0).bind fun a1 =>
(gR h a1 6 3).bind fun a2 =>
(aR h a2 15 7).bind fun a3 =>
(aI h a3 vp1).bind fun v4 =>
if v4 = 99 then (
some 15984) else (
(gI h ap0 8 7).bind fun v5 =>
(rmI v5 5).bind fun v6 =>
(if v6 = 0 then (
some 0) else (
(gR h ap0 8 0).bind fun a8 =>
(gR h a8 6 7).bind fun a9 =>
(aI h a9 vp1).bind fun v10 =>
some v10)).bind fun v11 =>
some (mxI 0 (v4 - v11)))
set_option maxRecDepth 100000 in
set_option maxHeartbeats 4000000 in
theorem c_X2_quotaLeft (l : Launch) (G : GG) (B : Nat) (h : Hp) (ap0 : Nat) (vp1 : Int32) (r0 : Int32) (hF : F_X2_quotaLeft h ap0 vp1 = some r0) : CI l yX2_quotaLeft cX2_quotaLeft 4 .int 1 39 0 0 G B h [.ref (B + ap0), .int vp1] r0 h := by
  refine ent_i rfl (Nat.le_of_ble_eq_true rfl) ?_
  intro p e s m args below meth c ls Q CX hnm hret P hl
  have CX : Cxt p m c cX2_quotaLeft 4 s args RX2 G B := CX
  obtain ⟨⟨hx, hb, hml, hown, hts⟩, -, -⟩ := id CX
  replace hl : lv_has ls 4 [(0, .ref (B + ap0)), (1, .int vp1)] := hl
  generalize s.heap = H at P ⊢
  generalize ([] : List Loc) = locs at P ⊢
  unfold F_X2_quotaLeft at hF
  refine lv_aload_n (pc := 0) hx hb dX2_quotaLeft_0 rfl (lv_at hl 0 rfl) ?_
  refine r_gR (pc := 1) CX P hF fl_X2_40 dX2_quotaLeft_1 (fun a1 hF => ?_)
  refine r_gR (pc := 4) CX P hF fl_X2_90 dX2_quotaLeft_4 (fun a2 hF => ?_)
  refine lv_bipush (pc := 7) (v := 7) hx hb dX2_quotaLeft_7 (by decide) ?_
  refine r_aR (pc := 9) CX P hF (Or.inr (Or.inl rfl)) dX2_quotaLeft_9 (fun a3 hF => ?_)
  refine lv_iload_n (pc := 10) hx hb dX2_quotaLeft_10 rfl (lv_at hl 1 rfl) ?_
  refine r_aI (pc := 11) CX P hF dX2_quotaLeft_11 (fun v4 hF => ?_)
  refine lv_istore_n (pc := 12) hx hb dX2_quotaLeft_12 rfl hl (by decide) rfl (fun ls hl => ?_)
  replace hl : lv_has ls 4 [(2, .int v4), (0, .ref (B + ap0)), (1, .int vp1)] := hl
  refine lv_iload_n (pc := 13) hx hb dX2_quotaLeft_13 rfl (lv_at hl 0 rfl) ?_
  refine lv_bipush (pc := 14) (v := 99) hx hb dX2_quotaLeft_14 (by decide) ?_
  refine lv_icmp_ne (pc := 16) (tgt := 23) hx hb dX2_quotaLeft_16 (by decide) (fun hc => ?_) (fun hc => ?_)
  · rw [if_neg hc] at hF
    refine lv_aload_n (pc := 23) hx hb dX2_quotaLeft_23 rfl (lv_at hl 1 rfl) ?_
    refine r_gI (pc := 24) CX P hF fl_X2_56 dX2_quotaLeft_24 (fun v5 hF => ?_)
    refine lv_iconst (pc := 27) (v := 5) hx hb dX2_quotaLeft_27 (by decide) ?_
    refine r_rm (pc := 28) hx hb hF dX2_quotaLeft_28 (fun v6 hF => ?_)
    obtain ⟨j7, hA7, hK7⟩ := bd_some hF
    have hJ7 : ∀ (v11 : Int32) (H : Heap) (locs : List Loc) (ls : Array Slot), Pic G B h s H locs → lv_has ls 4 [(2, .int v4)] → v11 = j7 → W p l e (rmM 1 39 0 0) s m args below meth c H locs 0 0 Q (F0 m 45 ls [.int v11]) := by
      intro v11 H locs ls P hl ej
      subst ej
      have hF := hK7
      refine lv_istore_n (pc := 45) hx hb dX2_quotaLeft_45 rfl hl (by decide) rfl (fun ls hl => ?_)
      replace hl : lv_has ls 4 [(3, .int v11), (2, .int v4)] := hl
      refine lv_iconst (pc := 46) (v := 0) hx hb dX2_quotaLeft_46 (by decide) ?_
      refine lv_iload_n (pc := 47) hx hb dX2_quotaLeft_47 rfl (lv_at hl 1 rfl) ?_
      refine lv_iload_n (pc := 48) hx hb dX2_quotaLeft_48 rfl (lv_at hl 0 rfl) ?_
      refine lv_isub (pc := 49) hx hb dX2_quotaLeft_49 ?_
      refine r_mx (pc := 50) CX hl.1 tw_710 tw_475 tw_14 tw_476 (Nat.le_of_ble_eq_true rfl) (Nat.le_of_ble_eq_true rfl) (Nat.le_of_ble_eq_true rfl) (Nat.le_of_ble_eq_true rfl) dX2_quotaLeft_50 ?_
      cases hF
      exact hret _ _ _ _ P rfl dX2_quotaLeft_53
    replace hF := hA7
    refine lv_if_ne (pc := 29) (tgt := 36) hx hb dX2_quotaLeft_29 (by decide) (fun hc => ?_) (fun hc => ?_)
    · rw [if_neg hc] at hF
      refine lv_aload_n (pc := 36) hx hb dX2_quotaLeft_36 rfl (lv_at hl 1 rfl) ?_
      refine r_gR (pc := 37) CX P hF fl_X2_40 dX2_quotaLeft_37 (fun a8 hF => ?_)
      refine r_gR (pc := 40) CX P hF fl_X2_59 dX2_quotaLeft_40 (fun a9 hF => ?_)
      refine lv_iload_n (pc := 43) hx hb dX2_quotaLeft_43 rfl (lv_at hl 2 rfl) ?_
      refine r_aI (pc := 44) CX P hF dX2_quotaLeft_44 (fun v10 hF => ?_)
      exact hJ7 _ _ _ _ P (lv_sub hl [0] rfl) (Option.some.inj hF)
    · rw [if_pos hc] at hF
      refine lv_iconst (pc := 32) (v := 0) hx hb dX2_quotaLeft_32 (by decide) ?_
      refine lv_goto (pc := 33) (tgt := 45) hx hb dX2_quotaLeft_33 (by decide) ?_
      exact hJ7 _ _ _ _ P (lv_sub hl [0] rfl) (Option.some.inj hF)
  · rw [if_pos hc] at hF
    refine lv_sipush (pc := 19) (v := 15984) hx hb dX2_quotaLeft_19 (by decide) ?_
    cases hF
    exact hret _ _ _ _ P rfl dX2_quotaLeft_22
def F_X2_collectAsks_L10 (a4 : Nat) (a5 : Nat) (v6 : Int32) (h7 : Hp) : Option ((Int32 × Hp) ⊕ (Hp)) :=
if 16 ≤ v6 then (
some (.inr h7)) else (
(gR h7 a5 8 1).bind fun a8 =>
(gR h7 a8 0 0).bind fun a9 =>
(aI h7 a9 v6).bind fun v10 =>
if v10 = (-1) then (
bl (v6 + 1) fun v11 =>
some (.inl (v11, h7))) else (
(gR h7 a5 8 1).bind fun a12 =>
(gR h7 a12 0 4).bind fun a13 =>
(aI h7 a13 v6).bind fun v14 =>
if v14 = 0 then (
(gR h7 a4 2 1).bind fun a16 =>
(gR h7 a5 8 1).bind fun a17 =>
(gR h7 a17 0 5).bind fun a18 =>
(aI h7 a18 v6).bind fun v19 =>
(sI h7 a16 (12 + v6) v19).bind fun h20 =>
(gR h20 a4 2 1).bind fun a21 =>
(aI h20 a21 v10).bind fun v22 =>
(gR h20 a5 8 1).bind fun a23 =>
(gR h20 a23 0 5).bind fun a24 =>
(aI h20 a24 v6).bind fun v25 =>
(sI h20 a21 v10 (v22 + v25)).bind fun h26 =>
bl (v6 + 1) fun v27 =>
some (.inl (v27, h26))) else (
bl (v6 + 1) fun v15 =>
some (.inl (v15, h7)))))
def F_X2_collectAsks_L95 (a33 : Nat) (a34 : Nat) (v35 : Int32) (h36 : Hp) : Option ((Int32 × Hp) ⊕ (Hp)) :=
if v35 < 0 then (
some (.inr h36)) else (
(gR h36 a34 8 0).bind fun a37 =>
(gR h36 a37 6 1).bind fun a38 =>
(aI h36 a38 v35).bind fun v39 =>
(gR h36 a33 2 1).bind fun a40 =>
(gR h36 a33 2 1).bind fun a41 =>
(aI h36 a41 v39).bind fun v42 =>
(F_X2_quotaLeft h36 a34 v39).bind fun v43 =>
(sI h36 a40 v39 (mnI v42 v43)).bind fun h44 =>
if v39 = 0 then (
bl (v35 + (-1)) fun v45 =>
some (.inl (v45, h44))) else (
(gR h44 a33 2 1).bind fun a46 =>
(gR h44 a34 8 0).bind fun a47 =>
(gR h44 a47 6 0).bind fun a48 =>
(aI h44 a48 v39).bind fun v49 =>
(aI h44 a46 v49).bind fun v50 =>
(gR h44 a33 2 1).bind fun a51 =>
(aI h44 a51 v39).bind fun v52 =>
(sI h44 a46 v49 (v50 + v52)).bind fun h53 =>
bl (v35 + (-1)) fun v54 =>
some (.inl (v54, h53))))
def F_X2_collectAsks (h : Hp) (a0 : Nat) (ap1 : Nat) : Option (Hp) :=
(gR h a0 2 1).bind fun a1 =>
(F_J7_fill_53178 h a1 0).bind fun h2 =>
(loopF (fun x => F_X2_collectAsks_L10 a0 ap1 x.1 x.2) 6000 (0, h2)).bind fun h28 =>
(gR h28 ap1 8 0).bind fun a29 =>
(gI h28 a29 6 2).bind fun v30 =>
bl (v30 - 1) fun v31 =>
(loopF (fun x => F_X2_collectAsks_L95 a0 ap1 x.1 x.2) 6000 (v31, h28)).bind fun h55 =>
some h55
set_option maxRecDepth 100000 in
set_option maxHeartbeats 4000000 in
theorem c_X2_collectAsks (l : Launch) (G : GG) (B : Nat) (h : Hp) (a0 : Nat) (ap1 : Nat) (hr : Hp) (hF : F_X2_collectAsks h a0 ap1 = some hr) : CV l yX2_collectAsks cX2_collectAsks 4 2 62 0 0 G B h [.ref (B + a0), .ref (B + ap1)] hr := by
  refine ent_v rfl (Nat.le_of_ble_eq_true rfl) ?_
  intro p e s m args below meth c ls Q CX hnm hret P hl
  have CX : Cxt p m c cX2_collectAsks 4 s args RX2 G B := CX
  obtain ⟨⟨hx, hb, hml, hown, hts⟩, -, -⟩ := id CX
  replace hl : lv_has ls 4 [(0, .ref (B + a0)), (1, .ref (B + ap1))] := hl
  generalize s.heap = H at P ⊢
  generalize ([] : List Loc) = locs at P ⊢
  unfold F_X2_collectAsks at hF
  refine lv_aload_n (pc := 0) hx hb dX2_collectAsks_0 rfl (lv_at hl 0 rfl) ?_
  refine r_gR (pc := 1) CX P hF fl_X2_15 dX2_collectAsks_1 (fun a1 hF => ?_)
  refine lv_iconst (pc := 4) (v := 0) hx hb dX2_collectAsks_4 (by decide) ?_
  refine r_cSv (pc := 5) (As := [.ref (B + a1), .int 0]) (rest := []) CX P hl.1 hF ks_X2_22 (fun h1 q => c_J7_fill_53178 l G B _ _ _ _ q) rfl rfl ⟨Nat.le_of_ble_eq_true rfl, Nat.le_of_ble_eq_true rfl⟩ (Nat.le_of_ble_eq_true rfl) ⟨Nat.le_of_ble_eq_true rfl, Nat.le_of_ble_eq_true rfl⟩ dX2_collectAsks_5 (fun h2 H locs P hF => ?_)
  refine lv_iconst (pc := 8) (v := 0) hx hb dX2_collectAsks_8 (by decide) ?_
  refine lv_istore_n (pc := 9) hx hb dX2_collectAsks_9 rfl hl (by decide) rfl (fun ls hl => ?_)
  replace hl : lv_has ls 4 [(2, .int 0), (0, .ref (B + a0)), (1, .ref (B + ap1))] := hl
  obtain ⟨r3, hLp3, hK3⟩ := bd_some hF
  have hX3 : ∀ (h28 : Hp) (H : Heap) (locs : List Loc) (ls : Array Slot), Pic G B h28 s H locs → lv_has ls 4 [(0, .ref (B + a0)), (1, .ref (B + ap1))] → h28 = r3 → W p l e (rmM 2 62 0 0) s m args below meth c H locs 0 0 Q (F0 m 85 ls []) := by
    intro h28 H locs ls P hl er
    subst er
    have hF := hK3
    refine lv_aload_n (pc := 85) hx hb dX2_collectAsks_85 rfl (lv_at hl 1 rfl) ?_
    refine r_gR (pc := 86) CX P hF fl_X2_40 dX2_collectAsks_86 (fun a29 hF => ?_)
    refine r_gI (pc := 89) CX P hF fl_X2_44 dX2_collectAsks_89 (fun v30 hF => ?_)
    refine lv_iconst (pc := 92) (v := 1) hx hb dX2_collectAsks_92 (by decide) ?_
    refine lv_isub (pc := 93) hx hb dX2_collectAsks_93 ?_
    refine lv_topi (fun v31 ev31 => ?_)
    replace hF := bl_e hF ev31
    refine lv_istore_n (pc := 94) hx hb dX2_collectAsks_94 rfl hl (by decide) rfl (fun ls hl => ?_)
    replace hl : lv_has ls 4 [(2, .int v31), (0, .ref (B + a0)), (1, .ref (B + ap1))] := hl
    obtain ⟨r32, hLp32, hK32⟩ := bd_some hF
    have hX32 : ∀ (h55 : Hp) (H : Heap) (locs : List Loc) (ls : Array Slot), Pic G B h55 s H locs → lv_has ls 4 [] → h55 = r32 → W p l e (rmM 2 62 0 0) s m args below meth c H locs 0 0 Q (F0 m 162 ls []) := by
      intro h55 H locs ls P hl er
      subst er
      have hF := hK32
      cases hF
      exact hret _ _ _ _ P dX2_collectAsks_162
    have hL32 : ∀ (n : Nat) (v35 : Int32) (h36 : Hp) (H : Heap) (locs : List Loc) (ls : Array Slot), Pic G B h36 s H locs → lv_has ls 4 [(0, .ref (B + a0)), (1, .ref (B + ap1)), (2, .int v35)] → loopF (fun x => F_X2_collectAsks_L95 a0 ap1 x.1 x.2) n (v35, h36) = some r32 → W p l e (rmM 2 62 0 0) s m args below meth c H locs 0 0 Q (F0 m 95 ls []) := by
      intro n
      induction n with
      | zero => intro v35 h36 H locs ls P hl hq; cases hq
      | succ n ih =>
        intro v35 h36 H locs ls P hl hq
        obtain ⟨z32, hS32, hI32, hR32⟩ := loop_some hq
        have hF : F_X2_collectAsks_L95 a0 ap1 v35 h36 = some z32 := hS32
        unfold F_X2_collectAsks_L95 at hF
        refine lv_iload_n (pc := 95) hx hb dX2_collectAsks_95 rfl (lv_at hl 2 rfl) ?_
        refine lv_if_lt (pc := 96) (tgt := 162) hx hb dX2_collectAsks_96 (by decide) (fun hc => ?_) (fun hc => ?_)
        · rw [if_pos hc] at hF
          exact hX32 _ _ _ _ P (lv_sub hl [] rfl) (hR32 _ (Option.some.inj hF).symm)
        · rw [if_neg hc] at hF
          refine lv_aload_n (pc := 99) hx hb dX2_collectAsks_99 rfl (lv_at hl 1 rfl) ?_
          refine r_gR (pc := 100) CX P hF fl_X2_40 dX2_collectAsks_100 (fun a37 hF => ?_)
          refine r_gR (pc := 103) CX P hF fl_X2_49 dX2_collectAsks_103 (fun a38 hF => ?_)
          refine lv_iload_n (pc := 106) hx hb dX2_collectAsks_106 rfl (lv_at hl 2 rfl) ?_
          refine r_aI (pc := 107) CX P hF dX2_collectAsks_107 (fun v39 hF => ?_)
          refine lv_istore_n (pc := 108) hx hb dX2_collectAsks_108 rfl hl (by decide) rfl (fun ls hl => ?_)
          replace hl : lv_has ls 4 [(3, .int v39), (0, .ref (B + a0)), (1, .ref (B + ap1)), (2, .int v35)] := hl
          refine lv_aload_n (pc := 109) hx hb dX2_collectAsks_109 rfl (lv_at hl 1 rfl) ?_
          refine r_gR (pc := 110) CX P hF fl_X2_15 dX2_collectAsks_110 (fun a40 hF => ?_)
          refine lv_iload_n (pc := 113) hx hb dX2_collectAsks_113 rfl (lv_at hl 0 rfl) ?_
          refine lv_aload_n (pc := 114) hx hb dX2_collectAsks_114 rfl (lv_at hl 1 rfl) ?_
          refine r_gR (pc := 115) CX P hF fl_X2_15 dX2_collectAsks_115 (fun a41 hF => ?_)
          refine lv_iload_n (pc := 118) hx hb dX2_collectAsks_118 rfl (lv_at hl 0 rfl) ?_
          refine r_aI (pc := 119) CX P hF dX2_collectAsks_119 (fun v42 hF => ?_)
          refine lv_aload_n (pc := 120) hx hb dX2_collectAsks_120 rfl (lv_at hl 2 rfl) ?_
          refine lv_iload_n (pc := 121) hx hb dX2_collectAsks_121 rfl (lv_at hl 0 rfl) ?_
          refine r_cSp (pc := 122) (As := [.ref (B + ap1), .int v39]) (rest := [.int v42, .int v39, .ref (B + a40)]) CX P hl.1 hF ks_X2_83 (fun r q => c_X2_quotaLeft l G B _ _ _ _ q) rfl rfl ⟨Nat.le_of_ble_eq_true rfl, Nat.le_of_ble_eq_true rfl⟩ (Nat.le_of_ble_eq_true rfl) ⟨Nat.le_of_ble_eq_true rfl, Nat.le_of_ble_eq_true rfl⟩ dX2_collectAsks_122 (fun v43 H locs P hF => ?_)
          refine r_mn (pc := 125) CX hl.1 tw_711 tw_468 tw_14 tw_469 (Nat.le_of_ble_eq_true rfl) (Nat.le_of_ble_eq_true rfl) (Nat.le_of_ble_eq_true rfl) (Nat.le_of_ble_eq_true rfl) dX2_collectAsks_125 ?_
          refine r_sI (pc := 128) CX P hF dX2_collectAsks_128 (fun h44 H locs P hF => ?_)
          refine lv_iload_n (pc := 129) hx hb dX2_collectAsks_129 rfl (lv_at hl 0 rfl) ?_
          refine lv_if_eq (pc := 130) (tgt := 156) hx hb dX2_collectAsks_130 (by decide) (fun hc => ?_) (fun hc => ?_)
          · rw [if_pos hc] at hF
            obtain ⟨v45, ev45, hF⟩ := bl_o hF
            refine lv_iinc (pc := 156) (k := 3) (v := v45) hx hb dX2_collectAsks_156 hl rfl ev45 (by decide) rfl (fun ls hl => ?_)
            replace hl : lv_has ls 4 [(2, .int v45), (3, .int v39), (0, .ref (B + a0)), (1, .ref (B + ap1))] := hl
            refine lv_goto (pc := 159) (tgt := 95) hx hb dX2_collectAsks_159 (by decide) ?_
            exact ih _ _ _ _ _ P (lv_sub hl [2, 3, 0] rfl) (hI32 _ (Option.some.inj hF).symm)
          · rw [if_neg hc] at hF
            refine lv_aload_n (pc := 133) hx hb dX2_collectAsks_133 rfl (lv_at hl 1 rfl) ?_
            refine r_gR (pc := 134) CX P hF fl_X2_15 dX2_collectAsks_134 (fun a46 hF => ?_)
            refine lv_aload_n (pc := 137) hx hb dX2_collectAsks_137 rfl (lv_at hl 2 rfl) ?_
            refine r_gR (pc := 138) CX P hF fl_X2_40 dX2_collectAsks_138 (fun a47 hF => ?_)
            refine r_gR (pc := 141) CX P hF fl_X2_87 dX2_collectAsks_141 (fun a48 hF => ?_)
            refine lv_iload_n (pc := 144) hx hb dX2_collectAsks_144 rfl (lv_at hl 0 rfl) ?_
            refine r_aI (pc := 145) CX P hF dX2_collectAsks_145 (fun v49 hF => ?_)
            refine lv_dup2_11 (pc := 146) hx hb dX2_collectAsks_146 rfl rfl ?_
            refine r_aI (pc := 147) CX P hF dX2_collectAsks_147 (fun v50 hF => ?_)
            refine lv_aload_n (pc := 148) hx hb dX2_collectAsks_148 rfl (lv_at hl 1 rfl) ?_
            refine r_gR (pc := 149) CX P hF fl_X2_15 dX2_collectAsks_149 (fun a51 hF => ?_)
            refine lv_iload_n (pc := 152) hx hb dX2_collectAsks_152 rfl (lv_at hl 0 rfl) ?_
            refine r_aI (pc := 153) CX P hF dX2_collectAsks_153 (fun v52 hF => ?_)
            refine lv_iadd (pc := 154) hx hb dX2_collectAsks_154 ?_
            refine r_sI (pc := 155) CX P hF dX2_collectAsks_155 (fun h53 H locs P hF => ?_)
            obtain ⟨v54, ev54, hF⟩ := bl_o hF
            refine lv_iinc (pc := 156) (k := 3) (v := v54) hx hb dX2_collectAsks_156 hl rfl ev54 (by decide) rfl (fun ls hl => ?_)
            replace hl : lv_has ls 4 [(2, .int v54), (3, .int v39), (0, .ref (B + a0)), (1, .ref (B + ap1))] := hl
            refine lv_goto (pc := 159) (tgt := 95) hx hb dX2_collectAsks_159 (by decide) ?_
            exact ih _ _ _ _ _ P (lv_sub hl [2, 3, 0] rfl) (hI32 _ (Option.some.inj hF).symm)
    exact hL32 _ _ _ _ _ _ P (lv_sub hl [1, 2, 0] rfl) hLp32
  have hL3 : ∀ (n : Nat) (v6 : Int32) (h7 : Hp) (H : Heap) (locs : List Loc) (ls : Array Slot), Pic G B h7 s H locs → lv_has ls 4 [(0, .ref (B + a0)), (1, .ref (B + ap1)), (2, .int v6)] → loopF (fun x => F_X2_collectAsks_L10 a0 ap1 x.1 x.2) n (v6, h7) = some r3 → W p l e (rmM 2 62 0 0) s m args below meth c H locs 0 0 Q (F0 m 10 ls []) := by
    intro n
    induction n with
    | zero => intro v6 h7 H locs ls P hl hq; cases hq
    | succ n ih =>
      intro v6 h7 H locs ls P hl hq
      obtain ⟨z3, hS3, hI3, hR3⟩ := loop_some hq
      have hF : F_X2_collectAsks_L10 a0 ap1 v6 h7 = some z3 := hS3
      unfold F_X2_collectAsks_L10 at hF
      refine lv_iload_n (pc := 10) hx hb dX2_collectAsks_10 rfl (lv_at hl 2 rfl) ?_
      refine lv_bipush (pc := 11) (v := 16) hx hb dX2_collectAsks_11 (by decide) ?_
      refine lv_icmp_ge (pc := 13) (tgt := 85) hx hb dX2_collectAsks_13 (by decide) (fun hc => ?_) (fun hc => ?_)
      · rw [if_pos hc] at hF
        exact hX3 _ _ _ _ P (lv_sub hl [0, 1] rfl) (hR3 _ (Option.some.inj hF).symm)
      · rw [if_neg hc] at hF
        refine lv_aload_n (pc := 16) hx hb dX2_collectAsks_16 rfl (lv_at hl 1 rfl) ?_
        refine r_gR (pc := 17) CX P hF fl_X2_65 dX2_collectAsks_17 (fun a8 hF => ?_)
        refine r_gR (pc := 20) CX P hF fl_X2_77 dX2_collectAsks_20 (fun a9 hF => ?_)
        refine lv_iload_n (pc := 23) hx hb dX2_collectAsks_23 rfl (lv_at hl 2 rfl) ?_
        refine r_aI (pc := 24) CX P hF dX2_collectAsks_24 (fun v10 hF => ?_)
        refine lv_istore_n (pc := 25) hx hb dX2_collectAsks_25 rfl hl (by decide) rfl (fun ls hl => ?_)
        replace hl : lv_has ls 4 [(3, .int v10), (0, .ref (B + a0)), (1, .ref (B + ap1)), (2, .int v6)] := hl
        refine lv_iload_n (pc := 26) hx hb dX2_collectAsks_26 rfl (lv_at hl 0 rfl) ?_
        refine lv_iconst (pc := 27) (v := (-1)) hx hb dX2_collectAsks_27 (by decide) ?_
        refine lv_icmp_eq (pc := 28) (tgt := 79) hx hb dX2_collectAsks_28 (by decide) (fun hc => ?_) (fun hc => ?_)
        · rw [if_pos hc] at hF
          obtain ⟨v11, ev11, hF⟩ := bl_o hF
          refine lv_iinc (pc := 79) (k := 3) (v := v11) hx hb dX2_collectAsks_79 hl rfl ev11 (by decide) rfl (fun ls hl => ?_)
          replace hl : lv_has ls 4 [(2, .int v11), (3, .int v10), (0, .ref (B + a0)), (1, .ref (B + ap1))] := hl
          refine lv_goto (pc := 82) (tgt := 10) hx hb dX2_collectAsks_82 (by decide) ?_
          exact ih _ _ _ _ _ P (lv_sub hl [2, 3, 0] rfl) (hI3 _ (Option.some.inj hF).symm)
        · rw [if_neg hc] at hF
          refine lv_aload_n (pc := 31) hx hb dX2_collectAsks_31 rfl (lv_at hl 2 rfl) ?_
          refine r_gR (pc := 32) CX P hF fl_X2_65 dX2_collectAsks_32 (fun a12 hF => ?_)
          refine r_gR (pc := 35) CX P hF fl_X2_80 dX2_collectAsks_35 (fun a13 hF => ?_)
          refine lv_iload_n (pc := 38) hx hb dX2_collectAsks_38 rfl (lv_at hl 3 rfl) ?_
          refine r_aI (pc := 39) CX P hF dX2_collectAsks_39 (fun v14 hF => ?_)
          refine lv_if_ne (pc := 40) (tgt := 79) hx hb dX2_collectAsks_40 (by decide) (fun hc => ?_) (fun hc => ?_)
          · rw [if_neg hc] at hF
            obtain ⟨v15, ev15, hF⟩ := bl_o hF
            refine lv_iinc (pc := 79) (k := 3) (v := v15) hx hb dX2_collectAsks_79 hl rfl ev15 (by decide) rfl (fun ls hl => ?_)
            replace hl : lv_has ls 4 [(2, .int v15), (3, .int v10), (0, .ref (B + a0)), (1, .ref (B + ap1))] := hl
            refine lv_goto (pc := 82) (tgt := 10) hx hb dX2_collectAsks_82 (by decide) ?_
            exact ih _ _ _ _ _ P (lv_sub hl [2, 3, 0] rfl) (hI3 _ (Option.some.inj hF).symm)
          · rw [if_pos hc] at hF
            refine lv_aload_n (pc := 43) hx hb dX2_collectAsks_43 rfl (lv_at hl 1 rfl) ?_
            refine r_gR (pc := 44) CX P hF fl_X2_15 dX2_collectAsks_44 (fun a16 hF => ?_)
            refine lv_bipush (pc := 47) (v := 12) hx hb dX2_collectAsks_47 (by decide) ?_
            refine lv_iload_n (pc := 49) hx hb dX2_collectAsks_49 rfl (lv_at hl 3 rfl) ?_
            refine lv_iadd (pc := 50) hx hb dX2_collectAsks_50 ?_
            refine lv_aload_n (pc := 51) hx hb dX2_collectAsks_51 rfl (lv_at hl 2 rfl) ?_
            refine r_gR (pc := 52) CX P hF fl_X2_65 dX2_collectAsks_52 (fun a17 hF => ?_)
            refine r_gR (pc := 55) CX P hF fl_X2_69 dX2_collectAsks_55 (fun a18 hF => ?_)
            refine lv_iload_n (pc := 58) hx hb dX2_collectAsks_58 rfl (lv_at hl 3 rfl) ?_
            refine r_aI (pc := 59) CX P hF dX2_collectAsks_59 (fun v19 hF => ?_)
            refine r_sI (pc := 60) CX P hF dX2_collectAsks_60 (fun h20 H locs P hF => ?_)
            refine lv_aload_n (pc := 61) hx hb dX2_collectAsks_61 rfl (lv_at hl 1 rfl) ?_
            refine r_gR (pc := 62) CX P hF fl_X2_15 dX2_collectAsks_62 (fun a21 hF => ?_)
            refine lv_iload_n (pc := 65) hx hb dX2_collectAsks_65 rfl (lv_at hl 0 rfl) ?_
            refine lv_dup2_11 (pc := 66) hx hb dX2_collectAsks_66 rfl rfl ?_
            refine r_aI (pc := 67) CX P hF dX2_collectAsks_67 (fun v22 hF => ?_)
            refine lv_aload_n (pc := 68) hx hb dX2_collectAsks_68 rfl (lv_at hl 2 rfl) ?_
            refine r_gR (pc := 69) CX P hF fl_X2_65 dX2_collectAsks_69 (fun a23 hF => ?_)
            refine r_gR (pc := 72) CX P hF fl_X2_69 dX2_collectAsks_72 (fun a24 hF => ?_)
            refine lv_iload_n (pc := 75) hx hb dX2_collectAsks_75 rfl (lv_at hl 3 rfl) ?_
            refine r_aI (pc := 76) CX P hF dX2_collectAsks_76 (fun v25 hF => ?_)
            refine lv_iadd (pc := 77) hx hb dX2_collectAsks_77 ?_
            refine r_sI (pc := 78) CX P hF dX2_collectAsks_78 (fun h26 H locs P hF => ?_)
            obtain ⟨v27, ev27, hF⟩ := bl_o hF
            refine lv_iinc (pc := 79) (k := 3) (v := v27) hx hb dX2_collectAsks_79 hl rfl ev27 (by decide) rfl (fun ls hl => ?_)
            replace hl : lv_has ls 4 [(2, .int v27), (3, .int v10), (0, .ref (B + a0)), (1, .ref (B + ap1))] := hl
            refine lv_goto (pc := 82) (tgt := 10) hx hb dX2_collectAsks_82 (by decide) ?_
            exact ih _ _ _ _ _ P (lv_sub hl [2, 3, 0] rfl) (hI3 _ (Option.some.inj hF).symm)
  exact hL3 _ _ _ _ _ _ P (lv_sub hl [1, 2, 0] rfl) hLp3
def F_X2_askingWeight (h : Hp) (a0 : Nat) (ap1 : Nat) (vp2 : Int32) (vp3 : Int32) : Option (Int32) :=
(gR h a0 2 1).bind fun a1 =>
(aI h a1 vp3).bind fun v2 =>
(gR h a0 2 0).bind fun a3 =>
(aI h a3 vp3).bind fun v4 =>
if v4 < v2 then (
if vp3 < 12 then (
(gR h ap1 8 0).bind fun a5 =>
(gR h a5 6 0).bind fun a6 =>
(aI h a6 vp3).bind fun v7 =>
if v7 = vp2 then (
(gR h ap1 8 0).bind fun a8 =>
(gR h a8 6 3).bind fun a9 =>
(aR h a9 15 6).bind fun a10 =>
(aI h a10 vp3).bind fun v11 =>
some v11) else (
some 0)) else (
(gR h ap1 8 1).bind fun a12 =>
(gR h a12 0 0).bind fun a13 =>
(aI h a13 (vp3 - 12)).bind fun v14 =>
if v14 = vp2 then (
some 1) else (
some 0))) else (
some 0)
set_option maxRecDepth 100000 in
set_option maxHeartbeats 4000000 in
theorem c_X2_askingWeight (l : Launch) (G : GG) (B : Nat) (h : Hp) (a0 : Nat) (ap1 : Nat) (vp2 : Int32) (vp3 : Int32) (r0 : Int32) (hF : F_X2_askingWeight h a0 ap1 vp2 vp3 = some r0) : CI l yX2_askingWeight cX2_askingWeight 4 .int 0 0 0 0 G B h [.ref (B + a0), .ref (B + ap1), .int vp2, .int vp3] r0 h := by
  refine ent_i rfl (Nat.le_of_ble_eq_true rfl) ?_
  intro p e s m args below meth c ls Q CX hnm hret P hl
  have CX : Cxt p m c cX2_askingWeight 4 s args RX2 G B := CX
  obtain ⟨⟨hx, hb, hml, hown, hts⟩, -, -⟩ := id CX
  replace hl : lv_has ls 4 [(0, .ref (B + a0)), (1, .ref (B + ap1)), (2, .int vp2), (3, .int vp3)] := hl
  generalize s.heap = H at P ⊢
  generalize ([] : List Loc) = locs at P ⊢
  unfold F_X2_askingWeight at hF
  refine lv_aload_n (pc := 0) hx hb dX2_askingWeight_0 rfl (lv_at hl 0 rfl) ?_
  refine r_gR (pc := 1) CX P hF fl_X2_15 dX2_askingWeight_1 (fun a1 hF => ?_)
  refine lv_iload_n (pc := 4) hx hb dX2_askingWeight_4 rfl (lv_at hl 3 rfl) ?_
  refine r_aI (pc := 5) CX P hF dX2_askingWeight_5 (fun v2 hF => ?_)
  refine lv_aload_n (pc := 6) hx hb dX2_askingWeight_6 rfl (lv_at hl 0 rfl) ?_
  refine r_gR (pc := 7) CX P hF fl_X2_11 dX2_askingWeight_7 (fun a3 hF => ?_)
  refine lv_iload_n (pc := 10) hx hb dX2_askingWeight_10 rfl (lv_at hl 3 rfl) ?_
  refine r_aI (pc := 11) CX P hF dX2_askingWeight_11 (fun v4 hF => ?_)
  refine lv_icmp_gt (pc := 12) (tgt := 17) hx hb dX2_askingWeight_12 (by decide) (fun hc => ?_) (fun hc => ?_)
  · rw [if_pos hc] at hF
    refine lv_iload_n (pc := 17) hx hb dX2_askingWeight_17 rfl (lv_at hl 3 rfl) ?_
    refine lv_bipush (pc := 18) (v := 12) hx hb dX2_askingWeight_18 (by decide) ?_
    refine lv_icmp_lt (pc := 20) (tgt := 45) hx hb dX2_askingWeight_20 (by decide) (fun hc => ?_) (fun hc => ?_)
    · rw [if_pos hc] at hF
      refine lv_aload_n (pc := 45) hx hb dX2_askingWeight_45 rfl (lv_at hl 1 rfl) ?_
      refine r_gR (pc := 46) CX P hF fl_X2_40 dX2_askingWeight_46 (fun a5 hF => ?_)
      refine r_gR (pc := 49) CX P hF fl_X2_87 dX2_askingWeight_49 (fun a6 hF => ?_)
      refine lv_iload_n (pc := 52) hx hb dX2_askingWeight_52 rfl (lv_at hl 3 rfl) ?_
      refine r_aI (pc := 53) CX P hF dX2_askingWeight_53 (fun v7 hF => ?_)
      refine lv_iload_n (pc := 54) hx hb dX2_askingWeight_54 rfl (lv_at hl 2 rfl) ?_
      refine lv_icmp_ne (pc := 55) (tgt := 73) hx hb dX2_askingWeight_55 (by decide) (fun hc => ?_) (fun hc => ?_)
      · rw [if_neg hc] at hF
        refine lv_iconst (pc := 73) (v := 0) hx hb dX2_askingWeight_73 (by decide) ?_
        cases hF
        exact hret _ _ _ _ P rfl dX2_askingWeight_74
      · rw [if_pos hc] at hF
        refine lv_aload_n (pc := 58) hx hb dX2_askingWeight_58 rfl (lv_at hl 1 rfl) ?_
        refine r_gR (pc := 59) CX P hF fl_X2_40 dX2_askingWeight_59 (fun a8 hF => ?_)
        refine r_gR (pc := 62) CX P hF fl_X2_90 dX2_askingWeight_62 (fun a9 hF => ?_)
        refine lv_bipush (pc := 65) (v := 6) hx hb dX2_askingWeight_65 (by decide) ?_
        refine r_aR (pc := 67) CX P hF (Or.inr (Or.inl rfl)) dX2_askingWeight_67 (fun a10 hF => ?_)
        refine lv_iload_n (pc := 68) hx hb dX2_askingWeight_68 rfl (lv_at hl 3 rfl) ?_
        refine r_aI (pc := 69) CX P hF dX2_askingWeight_69 (fun v11 hF => ?_)
        refine lv_goto (pc := 70) (tgt := 74) hx hb dX2_askingWeight_70 (by decide) ?_
        cases hF
        exact hret _ _ _ _ P rfl dX2_askingWeight_74
    · rw [if_neg hc] at hF
      refine lv_aload_n (pc := 23) hx hb dX2_askingWeight_23 rfl (lv_at hl 1 rfl) ?_
      refine r_gR (pc := 24) CX P hF fl_X2_65 dX2_askingWeight_24 (fun a12 hF => ?_)
      refine r_gR (pc := 27) CX P hF fl_X2_77 dX2_askingWeight_27 (fun a13 hF => ?_)
      refine lv_iload_n (pc := 30) hx hb dX2_askingWeight_30 rfl (lv_at hl 3 rfl) ?_
      refine lv_bipush (pc := 31) (v := 12) hx hb dX2_askingWeight_31 (by decide) ?_
      refine lv_isub (pc := 33) hx hb dX2_askingWeight_33 ?_
      refine r_aI (pc := 34) CX P hF dX2_askingWeight_34 (fun v14 hF => ?_)
      refine lv_iload_n (pc := 35) hx hb dX2_askingWeight_35 rfl (lv_at hl 2 rfl) ?_
      refine lv_icmp_ne (pc := 36) (tgt := 43) hx hb dX2_askingWeight_36 (by decide) (fun hc => ?_) (fun hc => ?_)
      · rw [if_neg hc] at hF
        refine lv_iconst (pc := 43) (v := 0) hx hb dX2_askingWeight_43 (by decide) ?_
        cases hF
        exact hret _ _ _ _ P rfl dX2_askingWeight_44
      · rw [if_pos hc] at hF
        refine lv_iconst (pc := 39) (v := 1) hx hb dX2_askingWeight_39 (by decide) ?_
        refine lv_goto (pc := 40) (tgt := 44) hx hb dX2_askingWeight_40 (by decide) ?_
        cases hF
        exact hret _ _ _ _ P rfl dX2_askingWeight_44
  · rw [if_neg hc] at hF
    refine lv_iconst (pc := 15) (v := 0) hx hb dX2_askingWeight_15 (by decide) ?_
    cases hF
    exact hret _ _ _ _ P rfl dX2_askingWeight_16
