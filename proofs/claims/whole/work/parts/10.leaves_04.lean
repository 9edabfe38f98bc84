def F_X0_pagesIn_L5 (h7 : Hp) (a2 : Nat) (v3 : Int32) (v4 : Int32) (v5 : Int32) (v6 : Int32) : Option ((Int32 × Int32) ⊕ (Int32)) :=
if 16 ≤ v6 then (
some (.inr v5)) else (
(gR h7 a2 0 0).bind fun a8 =>
(aI h7 a8 v6).bind fun v9 =>
(if v9 = v3 then (
(gR h7 a2 0 2).bind fun a11 =>
(aR h7 a11 15 v4).bind fun a12 =>
(aI h7 a12 v6).bind fun v13 =>
some (v13 : Int32)) else (
some (0 : Int32))).bind fun v14 =>
bl (v5 + v14) fun v15 =>
bl (v6 + 1) fun v16 =>
some (.inl (v15, v16)))
def F_X0_pagesIn (h : Hp) (a0 : Nat) (vp1 : Int32) (vp2 : Int32) : Option (Int32) :=
(loopF (fun x => F_X0_pagesIn_L5 h a0 vp1 vp2 x.1 x.2) 6000 (0, 0)).bind fun v17 =>
some v17
set_option maxRecDepth 100000 in
set_option maxHeartbeats 4000000 in
theorem c_X0_pagesIn (l : Launch) (G : GG) (B : Nat) (h : Hp) (a0 : Nat) (vp1 : Int32) (vp2 : Int32) (r0 : Int32) (hF : F_X0_pagesIn h a0 vp1 vp2 = some r0) : CI l yX0_pagesIn cX0_pagesIn 5 .int 0 0 0 0 G B h [.ref (B + a0), .int vp1, .int vp2] r0 h := by
  refine ent_i rfl (Nat.le_of_ble_eq_true rfl) ?_
  intro p e s m args below meth c ls Q CX hnm hret P hl
  have CX : Cxt p m c cX0_pagesIn 5 s args RX0 G B := CX
  obtain ⟨⟨hx, hb, hml, hown, hts⟩, -, -⟩ := id CX
  replace hl : lv_has ls 5 [(0, .ref (B + a0)), (1, .int vp1), (2, .int vp2)] := hl
  generalize s.heap = H at P ⊢
  generalize ([] : List Loc) = locs at P ⊢
  unfold F_X0_pagesIn at hF
  refine lv_iconst (pc := 0) (v := 0) hx hb dX0_pagesIn_0 (by decide) ?_
  refine lv_istore_n (pc := 1) hx hb dX0_pagesIn_1 rfl hl (by decide) rfl (fun ls hl => ?_)
  replace hl : lv_has ls 5 [(3, .int 0), (0, .ref (B + a0)), (1, .int vp1), (2, .int vp2)] := hl
  refine lv_iconst (pc := 2) (v := 0) hx hb dX0_pagesIn_2 (by decide) ?_
  refine lv_istore (pc := 3) hx hb dX0_pagesIn_3 hl (by decide) rfl (fun ls hl => ?_)
  replace hl : lv_has ls 5 [(4, .int 0), (3, .int 0), (0, .ref (B + a0)), (1, .int vp1), (2, .int vp2)] := hl
  obtain ⟨r1, hLp1, hK1⟩ := bd_some hF
  have hX1 : ∀ (v17 : Int32) (H : Heap) (locs : List Loc) (ls : Array Slot), Pic G B h s H locs → lv_has ls 5 [(3, .int v17)] → v17 = r1 → W p l e (rmM 0 0 0 0) s m args below meth c H locs 0 0 Q (F0 m 45 ls []) := by
    intro v17 H locs ls P hl er
    subst er
    have hF := hK1
    refine lv_iload_n (pc := 45) hx hb dX0_pagesIn_45 rfl (lv_at hl 0 rfl) ?_
    cases hF
    exact hret _ _ _ _ P rfl dX0_pagesIn_46
  have hL1 : ∀ (n : Nat) (v5 : Int32) (v6 : Int32) (H : Heap) (locs : List Loc) (ls : Array Slot), Pic G B h s H locs → lv_has ls 5 [(0, .ref (B + a0)), (1, .int vp1), (2, .int vp2), (3, .int v5), (4, .int v6)] → loopF (fun x => F_X0_pagesIn_L5 h a0 vp1 vp2 x.1 x.2) n (v5, v6) = some r1 → W p l e (rmM 0 0 0 0) s m args below meth c H locs 0 0 Q (F0 m 5 ls []) := by
    intro n
    induction n with
    | zero => intro v5 v6 H locs ls P hl hq; cases hq
    | succ n ih =>
      intro v5 v6 H locs ls P hl hq
      obtain ⟨z1, hS1, hI1, hR1⟩ := loop_some hq
      have hF : F_X0_pagesIn_L5 h a0 vp1 vp2 v5 v6 = some z1 := hS1
      unfold F_X0_pagesIn_L5 at hF
      refine lv_iload (pc := 5) hx hb dX0_pagesIn_5 (lv_at hl 4 rfl) ?_
      refine lv_bipush (pc := 7) (v := 16) hx hb dX0_pagesIn_7 (by decide) ?_
      refine lv_icmp_ge (pc := 9) (tgt := 45) hx hb dX0_pagesIn_9 (by decide) (fun hc => ?_) (fun hc => ?_)
      · rw [if_pos hc] at hF
        exact hX1 _ _ _ _ P (lv_sub hl [3] rfl) (hR1 _ (Option.some.inj hF).symm)
      · rw [if_neg hc] at hF
        refine lv_iload_n (pc := 12) hx hb dX0_pagesIn_12 rfl (lv_at hl 3 rfl) ?_
        refine lv_aload_n (pc := 13) hx hb dX0_pagesIn_13 rfl (lv_at hl 0 rfl) ?_
        refine r_gR (pc := 14) CX P hF fl_X0_9 dX0_pagesIn_14 (fun a8 hF => ?_)
        refine lv_iload (pc := 17) hx hb dX0_pagesIn_17 (lv_at hl 4 rfl) ?_
        refine r_aI (pc := 19) CX P hF dX0_pagesIn_19 (fun v9 hF => ?_)
        refine lv_iload_n (pc := 20) hx hb dX0_pagesIn_20 rfl (lv_at hl 1 rfl) ?_
        obtain ⟨j10, hA10, hK10⟩ := bd_some hF
        have hJ10 : ∀ (v14 : Int32) (H : Heap) (locs : List Loc) (ls : Array Slot), Pic G B h s H locs → lv_has ls 5 [(0, .ref (B + a0)), (1, .int vp1), (2, .int vp2), (4, .int v6)] → v14 = j10 → W p l e (rmM 0 0 0 0) s m args below meth c H locs 0 0 Q (F0 m 37 ls [.int v14, .int v5]) := by
          intro v14 H locs ls P hl ej
          subst ej
          have hF := hK10
          refine lv_iadd (pc := 37) hx hb dX0_pagesIn_37 ?_
          refine lv_topi (fun v15 ev15 => ?_)
          replace hF := bl_e hF ev15
          refine lv_istore_n (pc := 38) hx hb dX0_pagesIn_38 rfl hl (by decide) rfl (fun ls hl => ?_)
          replace hl : lv_has ls 5 [(3, .int v15), (0, .ref (B + a0)), (1, .int vp1), (2, .int vp2), (4, .int v6)] := hl
          obtain ⟨v16, ev16, hF⟩ := bl_o hF
          refine lv_iinc (pc := 39) (k := 4) (v := v16) hx hb dX0_pagesIn_39 hl rfl ev16 (by decide) rfl (fun ls hl => ?_)
          replace hl : lv_has ls 5 [(4, .int v16), (3, .int v15), (0, .ref (B + a0)), (1, .int vp1), (2, .int vp2)] := hl
          refine lv_goto (pc := 42) (tgt := 5) hx hb dX0_pagesIn_42 (by decide) ?_
          exact ih _ _ _ _ _ P (lv_sub hl [2, 3, 4, 1, 0] rfl) (hI1 _ (Option.some.inj hF).symm)
        replace hF := hA10
        refine lv_icmp_ne (pc := 21) (tgt := 36) hx hb dX0_pagesIn_21 (by decide) (fun hc => ?_) (fun hc => ?_)
        · rw [if_neg hc] at hF
          refine lv_iconst (pc := 36) (v := 0) hx hb dX0_pagesIn_36 (by decide) ?_
          exact hJ10 _ _ _ _ P (lv_sub hl [0, 1, 2, 4] rfl) (Option.some.inj hF)
        · rw [if_pos hc] at hF
          refine lv_aload_n (pc := 24) hx hb dX0_pagesIn_24 rfl (lv_at hl 0 rfl) ?_
          refine r_gR (pc := 25) CX P hF fl_X0_20 dX0_pagesIn_25 (fun a11 hF => ?_)
          refine lv_iload_n (pc := 28) hx hb dX0_pagesIn_28 rfl (lv_at hl 2 rfl) ?_
          refine r_aR (pc := 29) CX P hF (Or.inr (Or.inl rfl)) dX0_pagesIn_29 (fun a12 hF => ?_)
          refine lv_iload (pc := 30) hx hb dX0_pagesIn_30 (lv_at hl 4 rfl) ?_
          refine r_aI (pc := 32) CX P hF dX0_pagesIn_32 (fun v13 hF => ?_)
          refine lv_goto (pc := 33) (tgt := 37) hx hb dX0_pagesIn_33 (by decide) ?_
          exact hJ10 _ _ _ _ P (lv_sub hl [0, 1, 2, 4] rfl) (Option.some.inj hF)
  exact hL1 _ _ _ _ _ _ P (lv_sub hl [2, 3, 4, 1, 0] rfl) hLp1
def F_X0_ownPages (h : Hp) (a0 : Nat) (vp1 : Int32) : Option (Int32) :=
(cO h a0 0 (F_X0_pagesIn h a0 vp1 0)).bind fun v1 =>
(cO h a0 0 (F_X0_pagesIn h a0 vp1 1)).bind fun v2 =>
some (v1 + v2)
set_option maxRecDepth 100000 in
set_option maxHeartbeats 4000000 in
theorem c_X0_ownPages (l : Launch) (G : GG) (B : Nat) (h : Hp) (a0 : Nat) (vp1 : Int32) (r0 : Int32) (hF : F_X0_ownPages h a0 vp1 = some r0) : CI l yX0_ownPages cX0_ownPages 2 .int 1 24 0 0 G B h [.ref (B + a0), .int vp1] r0 h := by
  refine ent_i rfl (Nat.le_of_ble_eq_true rfl) ?_
  intro p e s m args below meth c ls Q CX hnm hret P hl
  have CX : Cxt p m c cX0_ownPages 2 s args RX0 G B := CX
  obtain ⟨⟨hx, hb, hml, hown, hts⟩, -, -⟩ := id CX
  replace hl : lv_has ls 2 [(0, .ref (B + a0)), (1, .int vp1)] := hl
  generalize s.heap = H at P ⊢
  generalize ([] : List Loc) = locs at P ⊢
  unfold F_X0_ownPages at hF
  refine lv_aload_n (pc := 0) hx hb dX0_ownPages_0 rfl (lv_at hl 0 rfl) ?_
  refine lv_iload_n (pc := 1) hx hb dX0_ownPages_1 rfl (lv_at hl 1 rfl) ?_
  refine lv_iconst (pc := 2) (v := 0) hx hb dX0_ownPages_2 (by decide) ?_
  refine r_cVp (pc := 3) (As := [.int vp1, .int 0]) (rest := []) CX P hl.1 hF kv_X0_51 (fun r q => c_X0_pagesIn l G B _ _ _ _ _ q) rfl rfl ⟨Nat.le_of_ble_eq_true rfl, Nat.le_of_ble_eq_true rfl⟩ (Nat.le_of_ble_eq_true rfl) ⟨Nat.le_of_ble_eq_true rfl, Nat.le_of_ble_eq_true rfl⟩ dX0_ownPages_3 (fun v1 H locs P hF => ?_)
  refine lv_aload_n (pc := 6) hx hb dX0_ownPages_6 rfl (lv_at hl 0 rfl) ?_
  refine lv_iload_n (pc := 7) hx hb dX0_ownPages_7 rfl (lv_at hl 1 rfl) ?_
  refine lv_iconst (pc := 8) (v := 1) hx hb dX0_ownPages_8 (by decide) ?_
  refine r_cVp (pc := 9) (As := [.int vp1, .int 1]) (rest := [.int v1]) CX P hl.1 hF kv_X0_51 (fun r q => c_X0_pagesIn l G B _ _ _ _ _ q) rfl rfl ⟨Nat.le_of_ble_eq_true rfl, Nat.le_of_ble_eq_true rfl⟩ (Nat.le_of_ble_eq_true rfl) ⟨Nat.le_of_ble_eq_true rfl, Nat.le_of_ble_eq_true rfl⟩ dX0_ownPages_9 (fun v2 H locs P hF => ?_)
  refine lv_iadd (pc := 12) hx hb dX0_ownPages_12 ?_
  cases hF
  exact hret _ _ _ _ P rfl dX0_ownPages_13
def F_X6_leastLeft_L9 (h6 : Hp) (a2 : Nat) (v3 : Int32) (v4 : Int32) (v5 : Int32) : Option ((Int32 × Int32 × Int32) ⊕ (Int32)) :=
if v4 = (-1) then (
some (.inr v3)) else (
if 12 ≤ v5 then (
some (.inr v3)) else (
(gR h6 a2 6 3).bind fun a7 =>
(aR h6 a7 15 3).bind fun a8 =>
(aI h6 a8 v4).bind fun v9 =>
(gR h6 a2 6 5).bind fun a10 =>
(aI h6 a10 v4).bind fun v11 =>
bl (mnI v3 (v9 - v11)) fun v12 =>
(gR h6 a2 6 0).bind fun a13 =>
(aI h6 a13 v4).bind fun v14 =>
bl (v5 + 1) fun v15 =>
some (.inl (v12, v14, v15))))
def F_X6_leastLeft (h : Hp) (a0 : Nat) (vp1 : Int32) : Option (Int32) :=
(loopF (fun x => F_X6_leastLeft_L9 h a0 x.1 x.2.1 x.2.2) 6000 (999, vp1, 0)).bind fun v16 =>
some v16
set_option maxRecDepth 100000 in
set_option maxHeartbeats 4000000 in
theorem c_X6_leastLeft (l : Launch) (G : GG) (B : Nat) (h : Hp) (a0 : Nat) (vp1 : Int32) (r0 : Int32) (hF : F_X6_leastLeft h a0 vp1 = some r0) : CI l yX6_leastLeft cX6_leastLeft 5 .int 1 39 0 0 G B h [.ref (B + a0), .int vp1] r0 h := by
  refine ent_i rfl (Nat.le_of_ble_eq_true rfl) ?_
  intro p e s m args below meth c ls Q CX hnm hret P hl
  have CX : Cxt p m c cX6_leastLeft 5 s args RX6 G B := CX
  obtain ⟨⟨hx, hb, hml, hown, hts⟩, -, -⟩ := id CX
  replace hl : lv_has ls 5 [(0, .ref (B + a0)), (1, .int vp1)] := hl
  generalize s.heap = H at P ⊢
  generalize ([] : List Loc) = locs at P ⊢
  unfold F_X6_leastLeft at hF
  refine lv_sipush (pc := 0) (v := 999) hx hb dX6_leastLeft_0 (by decide) ?_
  refine lv_istore_n (pc := 3) hx hb dX6_leastLeft_3 rfl hl (by decide) rfl (fun ls hl => ?_)
  replace hl : lv_has ls 5 [(2, .int 999), (0, .ref (B + a0)), (1, .int vp1)] := hl
  refine lv_iload_n (pc := 4) hx hb dX6_leastLeft_4 rfl (lv_at hl 2 rfl) ?_
  refine lv_istore_n (pc := 5) hx hb dX6_leastLeft_5 rfl hl (by decide) rfl (fun ls hl => ?_)
  replace hl : lv_has ls 5 [(3, .int vp1), (2, .int 999), (0, .ref (B + a0)), (1, .int vp1)] := hl
  refine lv_iconst (pc := 6) (v := 0) hx hb dX6_leastLeft_6 (by decide) ?_
  refine lv_istore (pc := 7) hx hb dX6_leastLeft_7 hl (by decide) rfl (fun ls hl => ?_)
  replace hl : lv_has ls 5 [(4, .int 0), (3, .int vp1), (2, .int 999), (0, .ref (B + a0)), (1, .int vp1)] := hl
  obtain ⟨r1, hLp1, hK1⟩ := bd_some hF
  have hX1 : ∀ (v16 : Int32) (H : Heap) (locs : List Loc) (ls : Array Slot), Pic G B h s H locs → lv_has ls 5 [(2, .int v16)] → v16 = r1 → W p l e (rmM 1 39 0 0) s m args below meth c H locs 0 0 Q (F0 m 54 ls []) := by
    intro v16 H locs ls P hl er
    subst er
    have hF := hK1
    refine lv_iload_n (pc := 54) hx hb dX6_leastLeft_54 rfl (lv_at hl 0 rfl) ?_
    cases hF
    exact hret _ _ _ _ P rfl dX6_leastLeft_55
  have hL1 : ∀ (n : Nat) (v3 : Int32) (v4 : Int32) (v5 : Int32) (H : Heap) (locs : List Loc) (ls : Array Slot), Pic G B h s H locs → lv_has ls 5 [(0, .ref (B + a0)), (2, .int v3), (3, .int v4), (4, .int v5)] → loopF (fun x => F_X6_leastLeft_L9 h a0 x.1 x.2.1 x.2.2) n (v3, v4, v5) = some r1 → W p l e (rmM 1 39 0 0) s m args below meth c H locs 0 0 Q (F0 m 9 ls []) := by
    intro n
    induction n with
    | zero => intro v3 v4 v5 H locs ls P hl hq; cases hq
    | succ n ih =>
      intro v3 v4 v5 H locs ls P hl hq
      obtain ⟨z1, hS1, hI1, hR1⟩ := loop_some hq
      have hF : F_X6_leastLeft_L9 h a0 v3 v4 v5 = some z1 := hS1
      unfold F_X6_leastLeft_L9 at hF
      refine lv_iload_n (pc := 9) hx hb dX6_leastLeft_9 rfl (lv_at hl 2 rfl) ?_
      refine lv_iconst (pc := 10) (v := (-1)) hx hb dX6_leastLeft_10 (by decide) ?_
      refine lv_icmp_eq (pc := 11) (tgt := 54) hx hb dX6_leastLeft_11 (by decide) (fun hc => ?_) (fun hc => ?_)
      · rw [if_pos hc] at hF
        exact hX1 _ _ _ _ P (lv_sub hl [1] rfl) (hR1 _ (Option.some.inj hF).symm)
      · rw [if_neg hc] at hF
        refine lv_iload (pc := 14) hx hb dX6_leastLeft_14 (lv_at hl 3 rfl) ?_
        refine lv_bipush (pc := 16) (v := 12) hx hb dX6_leastLeft_16 (by decide) ?_
        refine lv_icmp_ge (pc := 18) (tgt := 54) hx hb dX6_leastLeft_18 (by decide) (fun hc => ?_) (fun hc => ?_)
        · rw [if_pos hc] at hF
          exact hX1 _ _ _ _ P (lv_sub hl [1] rfl) (hR1 _ (Option.some.inj hF).symm)
        · rw [if_neg hc] at hF
          refine lv_iload_n (pc := 21) hx hb dX6_leastLeft_21 rfl (lv_at hl 1 rfl) ?_
          refine lv_aload_n (pc := 22) hx hb dX6_leastLeft_22 rfl (lv_at hl 0 rfl) ?_
          refine r_gR (pc := 23) CX P hF fl_X6_20 dX6_leastLeft_23 (fun a7 hF => ?_)
          refine lv_iconst (pc := 26) (v := 3) hx hb dX6_leastLeft_26 (by decide) ?_
          refine r_aR (pc := 27) CX P hF (Or.inr (Or.inl rfl)) dX6_leastLeft_27 (fun a8 hF => ?_)
          refine lv_iload_n (pc := 28) hx hb dX6_leastLeft_28 rfl (lv_at hl 2 rfl) ?_
          refine r_aI (pc := 29) CX P hF dX6_leastLeft_29 (fun v9 hF => ?_)
          refine lv_aload_n (pc := 30) hx hb dX6_leastLeft_30 rfl (lv_at hl 0 rfl) ?_
          refine r_gR (pc := 31) CX P hF fl_X6_26 dX6_leastLeft_31 (fun a10 hF => ?_)
          refine lv_iload_n (pc := 34) hx hb dX6_leastLeft_34 rfl (lv_at hl 2 rfl) ?_
          refine r_aI (pc := 35) CX P hF dX6_leastLeft_35 (fun v11 hF => ?_)
          refine lv_isub (pc := 36) hx hb dX6_leastLeft_36 ?_
          refine r_mn (pc := 37) CX hl.1 tw_871 tw_468 tw_14 tw_469 (Nat.le_of_ble_eq_true rfl) (Nat.le_of_ble_eq_true rfl) (Nat.le_of_ble_eq_true rfl) (Nat.le_of_ble_eq_true rfl) dX6_leastLeft_37 ?_
          refine lv_topi (fun v12 ev12 => ?_)
          replace hF := bl_e hF ev12
          refine lv_istore_n (pc := 40) hx hb dX6_leastLeft_40 rfl hl (by decide) rfl (fun ls hl => ?_)
          replace hl : lv_has ls 5 [(2, .int v12), (0, .ref (B + a0)), (3, .int v4), (4, .int v5)] := hl
          refine lv_aload_n (pc := 41) hx hb dX6_leastLeft_41 rfl (lv_at hl 1 rfl) ?_
          refine r_gR (pc := 42) CX P hF fl_X6_9 dX6_leastLeft_42 (fun a13 hF => ?_)
          refine lv_iload_n (pc := 45) hx hb dX6_leastLeft_45 rfl (lv_at hl 2 rfl) ?_
          refine r_aI (pc := 46) CX P hF dX6_leastLeft_46 (fun v14 hF => ?_)
          refine lv_istore_n (pc := 47) hx hb dX6_leastLeft_47 rfl hl (by decide) rfl (fun ls hl => ?_)
          replace hl : lv_has ls 5 [(3, .int v14), (2, .int v12), (0, .ref (B + a0)), (4, .int v5)] := hl
          obtain ⟨v15, ev15, hF⟩ := bl_o hF
          refine lv_iinc (pc := 48) (k := 3) (v := v15) hx hb dX6_leastLeft_48 hl rfl ev15 (by decide) rfl (fun ls hl => ?_)
          replace hl : lv_has ls 5 [(4, .int v15), (3, .int v14), (2, .int v12), (0, .ref (B + a0))] := hl
          refine lv_goto (pc := 51) (tgt := 9) hx hb dX6_leastLeft_51 (by decide) ?_
          exact ih _ _ _ _ _ _ P (lv_sub hl [3, 2, 1, 0] rfl) (hI1 _ (Option.some.inj hF).symm)
  exact hL1 _ _ _ _ _ _ _ P (lv_sub hl [3, 2, 1, 0] rfl) hLp1
def F_X0_hasTodo_L2 (h4 : Hp) (a2 : Nat) (v3 : Int32) : Option ((Int32) ⊕ ((Int32) ⊕ (Unit))) :=
if 16 ≤ v3 then (
some (.inr (.inr ()))) else (
(gR h4 a2 0 5).bind fun a5 =>
(aI h4 a5 v3).bind fun v6 =>
if v6 ≤ 0 then (
bl (v3 + 1) fun v7 =>
some (.inl v7)) else (
some (.inr (.inl 1))))
def F_X0_hasTodo (h : Hp) (a0 : Nat) : Option (Int32) :=
(loopF (fun x => F_X0_hasTodo_L2 h a0 x) 6000 0).bind (sE (fun x => some x) (fun q1 =>
some 0))
set_option maxRecDepth 100000 in
set_option maxHeartbeats 4000000 in
theorem c_X0_hasTodo (l : Launch) (G : GG) (B : Nat) (h : Hp) (a0 : Nat) (r0 : Int32) (hF : F_X0_hasTodo h a0 = some r0) : CI l yX0_hasTodo cX0_hasTodo 2 .boolean 0 0 0 0 G B h [.ref (B + a0)] r0 h := by
  refine ent_i rfl (Nat.le_of_ble_eq_true rfl) ?_
  intro p e s m args below meth c ls Q CX hnm hret P hl
  have CX : Cxt p m c cX0_hasTodo 2 s args RX0 G B := CX
  obtain ⟨⟨hx, hb, hml, hown, hts⟩, -, -⟩ := id CX
  replace hl : lv_has ls 2 [(0, .ref (B + a0))] := hl
  generalize s.heap = H at P ⊢
  generalize ([] : List Loc) = locs at P ⊢
  unfold F_X0_hasTodo at hF
  refine lv_iconst (pc := 0) (v := 0) hx hb dX0_hasTodo_0 (by decide) ?_
  refine lv_istore_n (pc := 1) hx hb dX0_hasTodo_1 rfl hl (by decide) rfl (fun ls hl => ?_)
  replace hl : lv_has ls 2 [(1, .int 0), (0, .ref (B + a0))] := hl
  obtain ⟨r1, hLp1, hK1⟩ := bd_some hF
  have hX1 : ∀  (H : Heap) (locs : List Loc) (ls : Array Slot), Pic G B h s H locs → lv_has ls 2 [] → .inr () = r1 → W p l e (rmM 0 0 0 0) s m args below meth c H locs 0 0 Q (F0 m 25 ls []) := by
    intro  H locs ls P hl er
    subst er
    have hF := sE_ri hK1
    try dsimp only at hF
    refine lv_iconst (pc := 25) (v := 0) hx hb dX0_hasTodo_25 (by decide) ?_
    cases hF
    exact hret _ _ _ _ P rfl dX0_hasTodo_26
  have hL1 : ∀ (n : Nat) (v3 : Int32) (H : Heap) (locs : List Loc) (ls : Array Slot), Pic G B h s H locs → lv_has ls 2 [(0, .ref (B + a0)), (1, .int v3)] → loopF (fun x => F_X0_hasTodo_L2 h a0 x) n v3 = some r1 → W p l e (rmM 0 0 0 0) s m args below meth c H locs 0 0 Q (F0 m 2 ls []) := by
    intro n
    induction n with
    | zero => intro v3 H locs ls P hl hq; cases hq
    | succ n ih =>
      intro v3 H locs ls P hl hq
      obtain ⟨z1, hS1, hI1, hR1⟩ := loop_some hq
      have hF : F_X0_hasTodo_L2 h a0 v3 = some z1 := hS1
      unfold F_X0_hasTodo_L2 at hF
      refine lv_iload_n (pc := 2) hx hb dX0_hasTodo_2 rfl (lv_at hl 1 rfl) ?_
      refine lv_bipush (pc := 3) (v := 16) hx hb dX0_hasTodo_3 (by decide) ?_
      refine lv_icmp_ge (pc := 5) (tgt := 25) hx hb dX0_hasTodo_5 (by decide) (fun hc => ?_) (fun hc => ?_)
      · rw [if_pos hc] at hF
        exact hX1  _ _ _ P (lv_sub hl [] rfl) (hR1 _ (Option.some.inj hF).symm)
      · rw [if_neg hc] at hF
        refine lv_aload_n (pc := 8) hx hb dX0_hasTodo_8 rfl (lv_at hl 0 rfl) ?_
        refine r_gR (pc := 9) CX P hF fl_X0_29 dX0_hasTodo_9 (fun a5 hF => ?_)
        refine lv_iload_n (pc := 12) hx hb dX0_hasTodo_12 rfl (lv_at hl 1 rfl) ?_
        refine r_aI (pc := 13) CX P hF dX0_hasTodo_13 (fun v6 hF => ?_)
        refine lv_if_le (pc := 14) (tgt := 19) hx hb dX0_hasTodo_14 (by decide) (fun hc => ?_) (fun hc => ?_)
        · rw [if_pos hc] at hF
          obtain ⟨v7, ev7, hF⟩ := bl_o hF
          refine lv_iinc (pc := 19) (k := 1) (v := v7) hx hb dX0_hasTodo_19 hl rfl ev7 (by decide) rfl (fun ls hl => ?_)
          replace hl : lv_has ls 2 [(1, .int v7), (0, .ref (B + a0))] := hl
          refine lv_goto (pc := 22) (tgt := 2) hx hb dX0_hasTodo_22 (by decide) ?_
          exact ih _ _ _ _ P (lv_sub hl [1, 0] rfl) (hI1 _ (Option.some.inj hF).symm)
        · rw [if_neg hc] at hF
          refine lv_iconst (pc := 17) (v := 1) hx hb dX0_hasTodo_17 (by decide) ?_
          have hE := hR1 _ (Option.some.inj hF).symm
          subst hE
          replace hF := sE_li hK1
          cases hF
          exact hret _ _ _ _ P rfl dX0_hasTodo_18
  exact hL1 _ _ _ _ _ P (lv_sub hl [1, 0] rfl) hLp1
def F_X0_allPages_L4 (h6 : Hp) (a2 : Nat) (v3 : Int32) (v4 : Int32) (v5 : Int32) : Option ((Int32 × Int32) ⊕ (Int32)) :=
if 16 ≤ v5 then (
some (.inr v4)) else (
(gR h6 a2 0 2).bind fun a7 =>
(aR h6 a7 15 v3).bind fun a8 =>
(aI h6 a8 v5).bind fun v9 =>
bl (v4 + v9) fun v10 =>
bl (v5 + 1) fun v11 =>
some (.inl (v10, v11)))
def F_X0_allPages (h : Hp) (a0 : Nat) (vp1 : Int32) : Option (Int32) :=
(loopF (fun x => F_X0_allPages_L4 h a0 vp1 x.1 x.2) 6000 (0, 0)).bind fun v12 =>
some v12
set_option maxRecDepth 100000 in
set_option maxHeartbeats 4000000 in
theorem c_X0_allPages (l : Launch) (G : GG) (B : Nat) (h : Hp) (a0 : Nat) (vp1 : Int32) (r0 : Int32) (hF : F_X0_allPages h a0 vp1 = some r0) : CI l yX0_allPages cX0_allPages 4 .int 0 0 0 0 G B h [.ref (B + a0), .int vp1] r0 h := by
  refine ent_i rfl (Nat.le_of_ble_eq_true rfl) ?_
  intro p e s m args below meth c ls Q CX hnm hret P hl
  have CX : Cxt p m c cX0_allPages 4 s args RX0 G B := CX
  obtain ⟨⟨hx, hb, hml, hown, hts⟩, -, -⟩ := id CX
  replace hl : lv_has ls 4 [(0, .ref (B + a0)), (1, .int vp1)] := hl
  generalize s.heap = H at P ⊢
  generalize ([] : List Loc) = locs at P ⊢
  unfold F_X0_allPages at hF
  refine lv_iconst (pc := 0) (v := 0) hx hb dX0_allPages_0 (by decide) ?_
  refine lv_istore_n (pc := 1) hx hb dX0_allPages_1 rfl hl (by decide) rfl (fun ls hl => ?_)
  replace hl : lv_has ls 4 [(2, .int 0), (0, .ref (B + a0)), (1, .int vp1)] := hl
  refine lv_iconst (pc := 2) (v := 0) hx hb dX0_allPages_2 (by decide) ?_
  refine lv_istore_n (pc := 3) hx hb dX0_allPages_3 rfl hl (by decide) rfl (fun ls hl => ?_)
  replace hl : lv_has ls 4 [(3, .int 0), (2, .int 0), (0, .ref (B + a0)), (1, .int vp1)] := hl
  obtain ⟨r1, hLp1, hK1⟩ := bd_some hF
  have hX1 : ∀ (v12 : Int32) (H : Heap) (locs : List Loc) (ls : Array Slot), Pic G B h s H locs → lv_has ls 4 [(2, .int v12)] → v12 = r1 → W p l e (rmM 0 0 0 0) s m args below meth c H locs 0 0 Q (F0 m 27 ls []) := by
    intro v12 H locs ls P hl er
    subst er
    have hF := hK1
    refine lv_iload_n (pc := 27) hx hb dX0_allPages_27 rfl (lv_at hl 0 rfl) ?_
    cases hF
    exact hret _ _ _ _ P rfl dX0_allPages_28
  have hL1 : ∀ (n : Nat) (v4 : Int32) (v5 : Int32) (H : Heap) (locs : List Loc) (ls : Array Slot), Pic G B h s H locs → lv_has ls 4 [(0, .ref (B + a0)), (1, .int vp1), (2, .int v4), (3, .int v5)] → loopF (fun x => F_X0_allPages_L4 h a0 vp1 x.1 x.2) n (v4, v5) = some r1 → W p l e (rmM 0 0 0 0) s m args below meth c H locs 0 0 Q (F0 m 4 ls []) := by
    intro n
    induction n with
    | zero => intro v4 v5 H locs ls P hl hq; cases hq
    | succ n ih =>
      intro v4 v5 H locs ls P hl hq
      obtain ⟨z1, hS1, hI1, hR1⟩ := loop_some hq
      have hF : F_X0_allPages_L4 h a0 vp1 v4 v5 = some z1 := hS1
      unfold F_X0_allPages_L4 at hF
      refine lv_iload_n (pc := 4) hx hb dX0_allPages_4 rfl (lv_at hl 3 rfl) ?_
      refine lv_bipush (pc := 5) (v := 16) hx hb dX0_allPages_5 (by decide) ?_
      refine lv_icmp_ge (pc := 7) (tgt := 27) hx hb dX0_allPages_7 (by decide) (fun hc => ?_) (fun hc => ?_)
      · rw [if_pos hc] at hF
        exact hX1 _ _ _ _ P (lv_sub hl [2] rfl) (hR1 _ (Option.some.inj hF).symm)
      · rw [if_neg hc] at hF
        refine lv_iload_n (pc := 10) hx hb dX0_allPages_10 rfl (lv_at hl 2 rfl) ?_
        refine lv_aload_n (pc := 11) hx hb dX0_allPages_11 rfl (lv_at hl 0 rfl) ?_
        refine r_gR (pc := 12) CX P hF fl_X0_20 dX0_allPages_12 (fun a7 hF => ?_)
        refine lv_iload_n (pc := 15) hx hb dX0_allPages_15 rfl (lv_at hl 1 rfl) ?_
        refine r_aR (pc := 16) CX P hF (Or.inr (Or.inl rfl)) dX0_allPages_16 (fun a8 hF => ?_)
        refine lv_iload_n (pc := 17) hx hb dX0_allPages_17 rfl (lv_at hl 3 rfl) ?_
        refine r_aI (pc := 18) CX P hF dX0_allPages_18 (fun v9 hF => ?_)
        refine lv_iadd (pc := 19) hx hb dX0_allPages_19 ?_
        refine lv_topi (fun v10 ev10 => ?_)
        replace hF := bl_e hF ev10
        refine lv_istore_n (pc := 20) hx hb dX0_allPages_20 rfl hl (by decide) rfl (fun ls hl => ?_)
        replace hl : lv_has ls 4 [(2, .int v10), (0, .ref (B + a0)), (1, .int vp1), (3, .int v5)] := hl
        obtain ⟨v11, ev11, hF⟩ := bl_o hF
        refine lv_iinc (pc := 21) (k := 3) (v := v11) hx hb dX0_allPages_21 hl rfl ev11 (by decide) rfl (fun ls hl => ?_)
        replace hl : lv_has ls 4 [(3, .int v11), (2, .int v10), (0, .ref (B + a0)), (1, .int vp1)] := hl
        refine lv_goto (pc := 24) (tgt := 4) hx hb dX0_allPages_24 (by decide) ?_
        exact ih _ _ _ _ _ P (lv_sub hl [2, 3, 1, 0] rfl) (hI1 _ (Option.some.inj hF).symm)
  exact hL1 _ _ _ _ _ _ P (lv_sub hl [2, 3, 1, 0] rfl) hLp1
