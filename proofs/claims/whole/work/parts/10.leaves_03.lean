def F_X9_stallFor (h : Hp) (vp0 : Int32) : Option (Int32) :=
(dvI ((vp0 + 4) - 1) 4).bind fun v1 =>
some v1
set_option maxRecDepth 100000 in
set_option maxHeartbeats 4000000 in
theorem c_X9_stallFor (l : Launch) (G : GG) (B : Nat) (h : Hp) (vp0 : Int32) (r0 : Int32) (hF : F_X9_stallFor h vp0 = some r0) : CI l yX9_stallFor cX9_stallFor 1 .int 0 0 0 0 G B h [.int vp0] r0 h := by
  refine ent_i rfl (Nat.le_of_ble_eq_true rfl) ?_
  intro p e s m args below meth c ls Q CX hnm hret P hl
  have CX : Cxt p m c cX9_stallFor 1 s args RX9 G B := CX
  obtain ⟨⟨hx, hb, hml, hown, hts⟩, -, -⟩ := id CX
  replace hl : lv_has ls 1 [(0, .int vp0)] := hl
  generalize s.heap = H at P ⊢
  generalize ([] : List Loc) = locs at P ⊢
  unfold F_X9_stallFor at hF
  refine lv_iload_n (pc := 0) hx hb dX9_stallFor_0 rfl (lv_at hl 0 rfl) ?_
  refine lv_iconst (pc := 1) (v := 4) hx hb dX9_stallFor_1 (by decide) ?_
  refine lv_iadd (pc := 2) hx hb dX9_stallFor_2 ?_
  refine lv_iconst (pc := 3) (v := 1) hx hb dX9_stallFor_3 (by decide) ?_
  refine lv_isub (pc := 4) hx hb dX9_stallFor_4 ?_
  refine lv_iconst (pc := 5) (v := 4) hx hb dX9_stallFor_5 (by decide) ?_
  refine r_dv (pc := 6) hx hb hF dX9_stallFor_6 (fun v1 hF => ?_)
  cases hF
  exact hret _ _ _ _ P rfl dX9_stallFor_7
def F_X0_addStall (h : Hp) (a0 : Nat) (vp1 : Int32) (vp2 : Int32) : Option (Hp) :=
(gR h a0 0 4).bind fun a1 =>
(gR h a0 0 4).bind fun a2 =>
(aI h a2 vp1).bind fun v3 =>
(sI h a1 vp1 (mnI 20 (v3 + vp2))).bind fun h4 =>
some h4
set_option maxRecDepth 100000 in
set_option maxHeartbeats 4000000 in
theorem c_X0_addStall (l : Launch) (G : GG) (B : Nat) (h : Hp) (a0 : Nat) (vp1 : Int32) (vp2 : Int32) (hr : Hp) (hF : F_X0_addStall h a0 vp1 vp2 = some hr) : CV l yX0_addStall cX0_addStall 3 1 39 0 0 G B h [.ref (B + a0), .int vp1, .int vp2] hr := by
  refine ent_v rfl (Nat.le_of_ble_eq_true rfl) ?_
  intro p e s m args below meth c ls Q CX hnm hret P hl
  have CX : Cxt p m c cX0_addStall 3 s args RX0 G B := CX
  obtain ⟨⟨hx, hb, hml, hown, hts⟩, -, -⟩ := id CX
  replace hl : lv_has ls 3 [(0, .ref (B + a0)), (1, .int vp1), (2, .int vp2)] := hl
  generalize s.heap = H at P ⊢
  generalize ([] : List Loc) = locs at P ⊢
  unfold F_X0_addStall at hF
  refine lv_aload_n (pc := 0) hx hb dX0_addStall_0 rfl (lv_at hl 0 rfl) ?_
  refine r_gR (pc := 1) CX P hF fl_X0_26 dX0_addStall_1 (fun a1 hF => ?_)
  refine lv_iload_n (pc := 4) hx hb dX0_addStall_4 rfl (lv_at hl 1 rfl) ?_
  refine lv_bipush (pc := 5) (v := 20) hx hb dX0_addStall_5 (by decide) ?_
  refine lv_aload_n (pc := 7) hx hb dX0_addStall_7 rfl (lv_at hl 0 rfl) ?_
  refine r_gR (pc := 8) CX P hF fl_X0_26 dX0_addStall_8 (fun a2 hF => ?_)
  refine lv_iload_n (pc := 11) hx hb dX0_addStall_11 rfl (lv_at hl 1 rfl) ?_
  refine r_aI (pc := 12) CX P hF dX0_addStall_12 (fun v3 hF => ?_)
  refine lv_iload_n (pc := 13) hx hb dX0_addStall_13 rfl (lv_at hl 2 rfl) ?_
  refine lv_iadd (pc := 14) hx hb dX0_addStall_14 ?_
  refine r_mn (pc := 15) CX hl.1 tw_612 tw_468 tw_14 tw_469 (Nat.le_of_ble_eq_true rfl) (Nat.le_of_ble_eq_true rfl) (Nat.le_of_ble_eq_true rfl) (Nat.le_of_ble_eq_true rfl) dX0_addStall_15 ?_
  refine r_sI (pc := 18) CX P hF dX0_addStall_18 (fun h4 H locs P hF => ?_)
  cases hF
  exact hret _ _ _ _ P dX0_addStall_19
def F_X6_pathBits_L7 (h6 : Hp) (a2 : Nat) (v3 : Int32) (v4 : Int32) (v5 : Int32) : Option ((Int32 × Int32 × Int32) ⊕ (Int32)) :=
if v4 = (-1) then (
some (.inr v3)) else (
if 12 ≤ v5 then (
some (.inr v3)) else (
bl (v3 ||| (1 <<< (v4 &&& 31))) fun v7 =>
(gR h6 a2 6 0).bind fun a8 =>
(aI h6 a8 v4).bind fun v9 =>
bl (v5 + 1) fun v10 =>
some (.inl (v7, v9, v10))))
def F_X6_pathBits (h : Hp) (a0 : Nat) (vp1 : Int32) : Option (Int32) :=
(loopF (fun x => F_X6_pathBits_L7 h a0 x.1 x.2.1 x.2.2) 6000 (0, vp1, 0)).bind fun v11 =>
some v11
set_option maxRecDepth 100000 in
set_option maxHeartbeats 4000000 in
theorem c_X6_pathBits (l : Launch) (G : GG) (B : Nat) (h : Hp) (a0 : Nat) (vp1 : Int32) (r0 : Int32) (hF : F_X6_pathBits h a0 vp1 = some r0) : CI l yX6_pathBits cX6_pathBits 5 .int 0 0 0 0 G B h [.ref (B + a0), .int vp1] r0 h := by
  refine ent_i rfl (Nat.le_of_ble_eq_true rfl) ?_
  intro p e s m args below meth c ls Q CX hnm hret P hl
  have CX : Cxt p m c cX6_pathBits 5 s args RX6 G B := CX
  obtain ⟨⟨hx, hb, hml, hown, hts⟩, -, -⟩ := id CX
  replace hl : lv_has ls 5 [(0, .ref (B + a0)), (1, .int vp1)] := hl
  generalize s.heap = H at P ⊢
  generalize ([] : List Loc) = locs at P ⊢
  unfold F_X6_pathBits at hF
  refine lv_iconst (pc := 0) (v := 0) hx hb dX6_pathBits_0 (by decide) ?_
  refine lv_istore_n (pc := 1) hx hb dX6_pathBits_1 rfl hl (by decide) rfl (fun ls hl => ?_)
  replace hl : lv_has ls 5 [(2, .int 0), (0, .ref (B + a0)), (1, .int vp1)] := hl
  refine lv_iload_n (pc := 2) hx hb dX6_pathBits_2 rfl (lv_at hl 2 rfl) ?_
  refine lv_istore_n (pc := 3) hx hb dX6_pathBits_3 rfl hl (by decide) rfl (fun ls hl => ?_)
  replace hl : lv_has ls 5 [(3, .int vp1), (2, .int 0), (0, .ref (B + a0)), (1, .int vp1)] := hl
  refine lv_iconst (pc := 4) (v := 0) hx hb dX6_pathBits_4 (by decide) ?_
  refine lv_istore (pc := 5) hx hb dX6_pathBits_5 hl (by decide) rfl (fun ls hl => ?_)
  replace hl : lv_has ls 5 [(4, .int 0), (3, .int vp1), (2, .int 0), (0, .ref (B + a0)), (1, .int vp1)] := hl
  obtain ⟨r1, hLp1, hK1⟩ := bd_some hF
  have hX1 : ∀ (v11 : Int32) (H : Heap) (locs : List Loc) (ls : Array Slot), Pic G B h s H locs → lv_has ls 5 [(2, .int v11)] → v11 = r1 → W p l e (rmM 0 0 0 0) s m args below meth c H locs 0 0 Q (F0 m 38 ls []) := by
    intro v11 H locs ls P hl er
    subst er
    have hF := hK1
    refine lv_iload_n (pc := 38) hx hb dX6_pathBits_38 rfl (lv_at hl 0 rfl) ?_
    cases hF
    exact hret _ _ _ _ P rfl dX6_pathBits_39
  have hL1 : ∀ (n : Nat) (v3 : Int32) (v4 : Int32) (v5 : Int32) (H : Heap) (locs : List Loc) (ls : Array Slot), Pic G B h s H locs → lv_has ls 5 [(0, .ref (B + a0)), (2, .int v3), (3, .int v4), (4, .int v5)] → loopF (fun x => F_X6_pathBits_L7 h a0 x.1 x.2.1 x.2.2) n (v3, v4, v5) = some r1 → W p l e (rmM 0 0 0 0) s m args below meth c H locs 0 0 Q (F0 m 7 ls []) := by
    intro n
    induction n with
    | zero => intro v3 v4 v5 H locs ls P hl hq; cases hq
    | succ n ih =>
      intro v3 v4 v5 H locs ls P hl hq
      obtain ⟨z1, hS1, hI1, hR1⟩ := loop_some hq
      have hF : F_X6_pathBits_L7 h a0 v3 v4 v5 = some z1 := hS1
      unfold F_X6_pathBits_L7 at hF
      refine lv_iload_n (pc := 7) hx hb dX6_pathBits_7 rfl (lv_at hl 2 rfl) ?_
      refine lv_iconst (pc := 8) (v := (-1)) hx hb dX6_pathBits_8 (by decide) ?_
      refine lv_icmp_eq (pc := 9) (tgt := 38) hx hb dX6_pathBits_9 (by decide) (fun hc => ?_) (fun hc => ?_)
      · rw [if_pos hc] at hF
        exact hX1 _ _ _ _ P (lv_sub hl [1] rfl) (hR1 _ (Option.some.inj hF).symm)
      · rw [if_neg hc] at hF
        refine lv_iload (pc := 12) hx hb dX6_pathBits_12 (lv_at hl 3 rfl) ?_
        refine lv_bipush (pc := 14) (v := 12) hx hb dX6_pathBits_14 (by decide) ?_
        refine lv_icmp_ge (pc := 16) (tgt := 38) hx hb dX6_pathBits_16 (by decide) (fun hc => ?_) (fun hc => ?_)
        · rw [if_pos hc] at hF
          exact hX1 _ _ _ _ P (lv_sub hl [1] rfl) (hR1 _ (Option.some.inj hF).symm)
        · rw [if_neg hc] at hF
          refine lv_iload_n (pc := 19) hx hb dX6_pathBits_19 rfl (lv_at hl 1 rfl) ?_
          refine lv_iconst (pc := 20) (v := 1) hx hb dX6_pathBits_20 (by decide) ?_
          refine lv_iload_n (pc := 21) hx hb dX6_pathBits_21 rfl (lv_at hl 2 rfl) ?_
          refine lv_ishl (pc := 22) hx hb dX6_pathBits_22 ?_
          refine lv_ior (pc := 23) hx hb dX6_pathBits_23 ?_
          refine lv_topi (fun v7 ev7 => ?_)
          replace hF := bl_e hF ev7
          refine lv_istore_n (pc := 24) hx hb dX6_pathBits_24 rfl hl (by decide) rfl (fun ls hl => ?_)
          replace hl : lv_has ls 5 [(2, .int v7), (0, .ref (B + a0)), (3, .int v4), (4, .int v5)] := hl
          refine lv_aload_n (pc := 25) hx hb dX6_pathBits_25 rfl (lv_at hl 1 rfl) ?_
          refine r_gR (pc := 26) CX P hF fl_X6_9 dX6_pathBits_26 (fun a8 hF => ?_)
          refine lv_iload_n (pc := 29) hx hb dX6_pathBits_29 rfl (lv_at hl 2 rfl) ?_
          refine r_aI (pc := 30) CX P hF dX6_pathBits_30 (fun v9 hF => ?_)
          refine lv_istore_n (pc := 31) hx hb dX6_pathBits_31 rfl hl (by decide) rfl (fun ls hl => ?_)
          replace hl : lv_has ls 5 [(3, .int v9), (2, .int v7), (0, .ref (B + a0)), (4, .int v5)] := hl
          obtain ⟨v10, ev10, hF⟩ := bl_o hF
          refine lv_iinc (pc := 32) (k := 3) (v := v10) hx hb dX6_pathBits_32 hl rfl ev10 (by decide) rfl (fun ls hl => ?_)
          replace hl : lv_has ls 5 [(4, .int v10), (3, .int v9), (2, .int v7), (0, .ref (B + a0))] := hl
          refine lv_goto (pc := 35) (tgt := 7) hx hb dX6_pathBits_35 (by decide) ?_
          exact ih _ _ _ _ _ _ P (lv_sub hl [3, 2, 1, 0] rfl) (hI1 _ (Option.some.inj hF).symm)
  exact hL1 _ _ _ _ _ _ _ P (lv_sub hl [3, 2, 1, 0] rfl) hLp1
def F_X6_lowestCommon_L12 (h7 : Hp) (a3 : Nat) (v4 : Int32) (v5 : Int32) (v6 : Int32) : Option ((Int32 × Int32) ⊕ (Int32)) :=
if ((v4 >>> (v5 &&& 31)) &&& 1) = 0 then (
if v5 = 0 then (
some (.inr v5)) else (
if 12 ≤ v6 then (
some (.inr v5)) else (
(gR h7 a3 6 0).bind fun a8 =>
(aI h7 a8 v5).bind fun v9 =>
bl (v6 + 1) fun v10 =>
some (.inl (v9, v10))))) else (
some (.inr v5))
def F_X6_lowestCommon (h : Hp) (a0 : Nat) (vp1 : Int32) (vp2 : Int32) : Option (Int32) :=
(cO h a0 6 (F_X6_pathBits h a0 vp2)).bind fun v1 =>
(loopF (fun x => F_X6_lowestCommon_L12 h a0 v1 x.1 x.2) 6000 (vp1, 0)).bind fun v11 =>
some v11
set_option maxRecDepth 100000 in
set_option maxHeartbeats 4000000 in
theorem c_X6_lowestCommon (l : Launch) (G : GG) (B : Nat) (h : Hp) (a0 : Nat) (vp1 : Int32) (vp2 : Int32) (r0 : Int32) (hF : F_X6_lowestCommon h a0 vp1 vp2 = some r0) : CI l yX6_lowestCommon cX6_lowestCommon 6 .int 1 24 0 0 G B h [.ref (B + a0), .int vp1, .int vp2] r0 h := by
  refine ent_i rfl (Nat.le_of_ble_eq_true rfl) ?_
  intro p e s m args below meth c ls Q CX hnm hret P hl
  have CX : Cxt p m c cX6_lowestCommon 6 s args RX6 G B := CX
  obtain ⟨⟨hx, hb, hml, hown, hts⟩, -, -⟩ := id CX
  replace hl : lv_has ls 6 [(0, .ref (B + a0)), (1, .int vp1), (2, .int vp2)] := hl
  generalize s.heap = H at P ⊢
  generalize ([] : List Loc) = locs at P ⊢
  unfold F_X6_lowestCommon at hF
  refine lv_aload_n (pc := 0) hx hb dX6_lowestCommon_0 rfl (lv_at hl 0 rfl) ?_
  refine lv_iload_n (pc := 1) hx hb dX6_lowestCommon_1 rfl (lv_at hl 2 rfl) ?_
  refine r_cVp (pc := 2) (As := [.int vp2]) (rest := []) CX P hl.1 hF kv_X6_64 (fun r q => c_X6_pathBits l G B _ _ _ _ q) rfl rfl ⟨Nat.le_of_ble_eq_true rfl, Nat.le_of_ble_eq_true rfl⟩ (Nat.le_of_ble_eq_true rfl) ⟨Nat.le_of_ble_eq_true rfl, Nat.le_of_ble_eq_true rfl⟩ dX6_lowestCommon_2 (fun v1 H locs P hF => ?_)
  refine lv_istore_n (pc := 5) hx hb dX6_lowestCommon_5 rfl hl (by decide) rfl (fun ls hl => ?_)
  replace hl : lv_has ls 6 [(3, .int v1), (0, .ref (B + a0)), (1, .int vp1), (2, .int vp2)] := hl
  refine lv_iload_n (pc := 6) hx hb dX6_lowestCommon_6 rfl (lv_at hl 2 rfl) ?_
  refine lv_istore (pc := 7) hx hb dX6_lowestCommon_7 hl (by decide) rfl (fun ls hl => ?_)
  replace hl : lv_has ls 6 [(4, .int vp1), (3, .int v1), (0, .ref (B + a0)), (1, .int vp1), (2, .int vp2)] := hl
  refine lv_iconst (pc := 9) (v := 0) hx hb dX6_lowestCommon_9 (by decide) ?_
  refine lv_istore (pc := 10) hx hb dX6_lowestCommon_10 hl (by decide) rfl (fun ls hl => ?_)
  replace hl : lv_has ls 6 [(5, .int 0), (4, .int vp1), (3, .int v1), (0, .ref (B + a0)), (1, .int vp1), (2, .int vp2)] := hl
  obtain ⟨r2, hLp2, hK2⟩ := bd_some hF
  have hX2 : ∀ (v11 : Int32) (H : Heap) (locs : List Loc) (ls : Array Slot), Pic G B h s H locs → lv_has ls 6 [(4, .int v11)] → v11 = r2 → W p l e (rmM 1 24 0 0) s m args below meth c H locs 0 0 Q (F0 m 48 ls []) := by
    intro v11 H locs ls P hl er
    subst er
    have hF := hK2
    refine lv_iload (pc := 48) hx hb dX6_lowestCommon_48 (lv_at hl 0 rfl) ?_
    cases hF
    exact hret _ _ _ _ P rfl dX6_lowestCommon_50
  have hL2 : ∀ (n : Nat) (v5 : Int32) (v6 : Int32) (H : Heap) (locs : List Loc) (ls : Array Slot), Pic G B h s H locs → lv_has ls 6 [(0, .ref (B + a0)), (3, .int v1), (4, .int v5), (5, .int v6)] → loopF (fun x => F_X6_lowestCommon_L12 h a0 v1 x.1 x.2) n (v5, v6) = some r2 → W p l e (rmM 1 24 0 0) s m args below meth c H locs 0 0 Q (F0 m 12 ls []) := by
    intro n
    induction n with
    | zero => intro v5 v6 H locs ls P hl hq; cases hq
    | succ n ih =>
      intro v5 v6 H locs ls P hl hq
      obtain ⟨z2, hS2, hI2, hR2⟩ := loop_some hq
      have hF : F_X6_lowestCommon_L12 h a0 v1 v5 v6 = some z2 := hS2
      unfold F_X6_lowestCommon_L12 at hF
      refine lv_iload_n (pc := 12) hx hb dX6_lowestCommon_12 rfl (lv_at hl 1 rfl) ?_
      refine lv_iload (pc := 13) hx hb dX6_lowestCommon_13 (lv_at hl 2 rfl) ?_
      refine lv_ishr (pc := 15) hx hb dX6_lowestCommon_15 ?_
      refine lv_iconst (pc := 16) (v := 1) hx hb dX6_lowestCommon_16 (by decide) ?_
      refine lv_iand (pc := 17) hx hb dX6_lowestCommon_17 ?_
      refine lv_if_ne (pc := 18) (tgt := 48) hx hb dX6_lowestCommon_18 (by decide) (fun hc => ?_) (fun hc => ?_)
      · rw [if_neg hc] at hF
        exact hX2 _ _ _ _ P (lv_sub hl [2] rfl) (hR2 _ (Option.some.inj hF).symm)
      · rw [if_pos hc] at hF
        refine lv_iload (pc := 21) hx hb dX6_lowestCommon_21 (lv_at hl 2 rfl) ?_
        refine lv_if_eq (pc := 23) (tgt := 48) hx hb dX6_lowestCommon_23 (by decide) (fun hc => ?_) (fun hc => ?_)
        · rw [if_pos hc] at hF
          exact hX2 _ _ _ _ P (lv_sub hl [2] rfl) (hR2 _ (Option.some.inj hF).symm)
        · rw [if_neg hc] at hF
          refine lv_iload (pc := 26) hx hb dX6_lowestCommon_26 (lv_at hl 3 rfl) ?_
          refine lv_bipush (pc := 28) (v := 12) hx hb dX6_lowestCommon_28 (by decide) ?_
          refine lv_icmp_ge (pc := 30) (tgt := 48) hx hb dX6_lowestCommon_30 (by decide) (fun hc => ?_) (fun hc => ?_)
          · rw [if_pos hc] at hF
            exact hX2 _ _ _ _ P (lv_sub hl [2] rfl) (hR2 _ (Option.some.inj hF).symm)
          · rw [if_neg hc] at hF
            refine lv_aload_n (pc := 33) hx hb dX6_lowestCommon_33 rfl (lv_at hl 0 rfl) ?_
            refine r_gR (pc := 34) CX P hF fl_X6_9 dX6_lowestCommon_34 (fun a8 hF => ?_)
            refine lv_iload (pc := 37) hx hb dX6_lowestCommon_37 (lv_at hl 2 rfl) ?_
            refine r_aI (pc := 39) CX P hF dX6_lowestCommon_39 (fun v9 hF => ?_)
            refine lv_istore (pc := 40) hx hb dX6_lowestCommon_40 hl (by decide) rfl (fun ls hl => ?_)
            replace hl : lv_has ls 6 [(4, .int v9), (0, .ref (B + a0)), (3, .int v1), (5, .int v6)] := hl
            obtain ⟨v10, ev10, hF⟩ := bl_o hF
            refine lv_iinc (pc := 42) (k := 3) (v := v10) hx hb dX6_lowestCommon_42 hl rfl ev10 (by decide) rfl (fun ls hl => ?_)
            replace hl : lv_has ls 6 [(5, .int v10), (4, .int v9), (0, .ref (B + a0)), (3, .int v1)] := hl
            refine lv_goto (pc := 45) (tgt := 12) hx hb dX6_lowestCommon_45 (by decide) ?_
            exact ih _ _ _ _ _ P (lv_sub hl [2, 3, 1, 0] rfl) (hI2 _ (Option.some.inj hF).symm)
  exact hL2 _ _ _ _ _ _ P (lv_sub hl [3, 2, 1, 0] rfl) hLp2
def F_X1_note_L52 (a16 : Nat) (v17 : Int32) (v18 : Int32) (v19 : Int32) (v20 : Int32) (h21 : Hp) : Option ((Int32 × Hp) ⊕ (Hp)) :=
if 3 ≤ v20 then (
some (.inr h21)) else (
(sX 3 v20).bind fun v22 =>
(gR h21 a16 1 2).bind fun a23 =>
(aR h21 a23 15 ((v18 * 3) + v20)).bind fun a24 =>
if 0 < v22 then (
(aI h21 a24 v17).bind fun v25 =>
(if v19 = 0 then (
some (0 : Int32)) else (
some (1000 : Int32))).bind fun v27 =>
(dvI (((v22 - 1) * v25) + v27) v22).bind fun v28 =>
(sI h21 a24 v17 v28).bind fun h29 =>
bl (v20 + 1) fun v30 =>
some (.inl (v30, h29))) else (
(sI h21 a24 v17 0).bind fun h31 =>
bl (v20 + 1) fun v32 =>
some (.inl (v32, h31))))
def F_X1_note (h : Hp) (a0 : Nat) (vp1 : Int32) (vp2 : Int32) (vp3 : Int32) : Option (Hp) :=
(gR h a0 1 0).bind fun a1 =>
(aR h a1 16 vp2).bind fun a2 =>
(gR h a0 1 0).bind fun a3 =>
(aR h a3 16 vp2).bind fun a4 =>
(aJ h a4 vp1).bind fun v5 =>
(if vp3 = 0 then (
some (0 : Int32)) else (
some (1 : Int32))).bind fun v7 =>
(sJ h a2 vp1 ((v5 <<< (Int32.toInt64 1 &&& 63)) ||| (Int32.toInt64 v7))).bind fun h8 =>
(gR h8 a0 1 1).bind fun a9 =>
(aR h8 a9 15 vp2).bind fun a10 =>
(aI h8 a10 vp1).bind fun v11 =>
(if vp3 = 0 then (
some (0 : Int32)) else (
some (1 : Int32))).bind fun v13 =>
(sI h8 a10 vp1 (v11 + v13)).bind fun h14 =>
(loopF (fun x => F_X1_note_L52 a0 vp1 vp2 vp3 x.1 x.2) 6000 (0, h14)).bind fun h33 =>
some h33
set_option maxRecDepth 100000 in
set_option maxHeartbeats 4000000 in
theorem c_X1_note (l : Launch) (G : GG) (B : Nat) (h : Hp) (a0 : Nat) (vp1 : Int32) (vp2 : Int32) (vp3 : Int32) (hr : Hp) (hF : F_X1_note h a0 vp1 vp2 vp3 = some hr) : CV l yX1_note cX1_note 7 0 0 0 0 G B h [.ref (B + a0), .int vp1, .int vp2, .int vp3] hr := by
  refine ent_v rfl (Nat.le_of_ble_eq_true rfl) ?_
  intro p e s m args below meth c ls Q CX hnm hret P hl
  have CX : Cxt p m c cX1_note 7 s args RX1 G B := CX
  obtain ⟨⟨hx, hb, hml, hown, hts⟩, -, -⟩ := id CX
  replace hl : lv_has ls 7 [(0, .ref (B + a0)), (1, .int vp1), (2, .int vp2), (3, .int vp3)] := hl
  generalize s.heap = H at P ⊢
  generalize ([] : List Loc) = locs at P ⊢
  unfold F_X1_note at hF
  refine lv_aload_n (pc := 0) hx hb dX1_note_0 rfl (lv_at hl 0 rfl) ?_
  refine r_gR (pc := 1) CX P hF fl_X1_11 dX1_note_1 (fun a1 hF => ?_)
  refine lv_iload_n (pc := 4) hx hb dX1_note_4 rfl (lv_at hl 2 rfl) ?_
  refine r_aR (pc := 5) CX P hF (Or.inr (Or.inr rfl)) dX1_note_5 (fun a2 hF => ?_)
  refine lv_iload_n (pc := 6) hx hb dX1_note_6 rfl (lv_at hl 1 rfl) ?_
  refine lv_aload_n (pc := 7) hx hb dX1_note_7 rfl (lv_at hl 0 rfl) ?_
  refine r_gR (pc := 8) CX P hF fl_X1_11 dX1_note_8 (fun a3 hF => ?_)
  refine lv_iload_n (pc := 11) hx hb dX1_note_11 rfl (lv_at hl 2 rfl) ?_
  refine r_aR (pc := 12) CX P hF (Or.inr (Or.inr rfl)) dX1_note_12 (fun a4 hF => ?_)
  refine lv_iload_n (pc := 13) hx hb dX1_note_13 rfl (lv_at hl 1 rfl) ?_
  refine r_aJ (pc := 14) CX P hF dX1_note_14 (fun v5 hF => ?_)
  refine lv_iconst (pc := 15) (v := 1) hx hb dX1_note_15 (by decide) ?_
  refine lv_lshl (pc := 16) hx hb dX1_note_16 rfl ?_
  refine lv_iload_n (pc := 17) hx hb dX1_note_17 rfl (lv_at hl 3 rfl) ?_
  obtain ⟨j6, hA6, hK6⟩ := bd_some hF
  have hJ6 : ∀ (v7 : Int32) (H : Heap) (locs : List Loc) (ls : Array Slot), Pic G B h s H locs → lv_has ls 7 [(0, .ref (B + a0)), (1, .int vp1), (2, .int vp2), (3, .int vp3)] → v7 = j6 → W p l e (rmM 0 0 0 0) s m args below meth c H locs 0 0 Q (F0 m 26 ls [.int v7, .long (v5 <<< (Int32.toInt64 1 &&& 63)), .int vp1, .ref (B + a2)]) := by
    intro v7 H locs ls P hl ej
    subst ej
    have hF := hK6
    refine lv_i2l (pc := 26) hx hb dX1_note_26 rfl ?_
    refine lv_lor (pc := 27) hx hb dX1_note_27 ?_
    refine r_sJ (pc := 28) CX P hF dX1_note_28 (fun h8 H locs P hF => ?_)
    refine lv_aload_n (pc := 29) hx hb dX1_note_29 rfl (lv_at hl 0 rfl) ?_
    refine r_gR (pc := 30) CX P hF fl_X1_18 dX1_note_30 (fun a9 hF => ?_)
    refine lv_iload_n (pc := 33) hx hb dX1_note_33 rfl (lv_at hl 2 rfl) ?_
    refine r_aR (pc := 34) CX P hF (Or.inr (Or.inl rfl)) dX1_note_34 (fun a10 hF => ?_)
    refine lv_iload_n (pc := 35) hx hb dX1_note_35 rfl (lv_at hl 1 rfl) ?_
    refine lv_dup2_11 (pc := 36) hx hb dX1_note_36 rfl rfl ?_
    refine r_aI (pc := 37) CX P hF dX1_note_37 (fun v11 hF => ?_)
    refine lv_iload_n (pc := 38) hx hb dX1_note_38 rfl (lv_at hl 3 rfl) ?_
    obtain ⟨j12, hA12, hK12⟩ := bd_some hF
    have hJ12 : ∀ (v13 : Int32) (H : Heap) (locs : List Loc) (ls : Array Slot), Pic G B h8 s H locs → lv_has ls 7 [(0, .ref (B + a0)), (1, .int vp1), (2, .int vp2), (3, .int vp3)] → v13 = j12 → W p l e (rmM 0 0 0 0) s m args below meth c H locs 0 0 Q (F0 m 47 ls [.int v13, .int v11, .int vp1, .ref (B + a10)]) := by
      intro v13 H locs ls P hl ej
      subst ej
      have hF := hK12
      refine lv_iadd (pc := 47) hx hb dX1_note_47 ?_
      refine r_sI (pc := 48) CX P hF dX1_note_48 (fun h14 H locs P hF => ?_)
      refine lv_iconst (pc := 49) (v := 0) hx hb dX1_note_49 (by decide) ?_
      refine lv_istore (pc := 50) hx hb dX1_note_50 hl (by decide) rfl (fun ls hl => ?_)
      replace hl : lv_has ls 7 [(4, .int 0), (0, .ref (B + a0)), (1, .int vp1), (2, .int vp2), (3, .int vp3)] := hl
      obtain ⟨r15, hLp15, hK15⟩ := bd_some hF
      have hX15 : ∀ (h33 : Hp) (H : Heap) (locs : List Loc) (ls : Array Slot), Pic G B h33 s H locs → lv_has ls 7 [] → h33 = r15 → W p l e (rmM 0 0 0 0) s m args below meth c H locs 0 0 Q (F0 m 122 ls []) := by
        intro h33 H locs ls P hl er
        subst er
        have hF := hK15
        cases hF
        exact hret _ _ _ _ P dX1_note_122
      have hL15 : ∀ (n : Nat) (v20 : Int32) (h21 : Hp) (H : Heap) (locs : List Loc) (ls : Array Slot), Pic G B h21 s H locs → lv_has ls 7 [(0, .ref (B + a0)), (1, .int vp1), (2, .int vp2), (3, .int vp3), (4, .int v20)] → loopF (fun x => F_X1_note_L52 a0 vp1 vp2 vp3 x.1 x.2) n (v20, h21) = some r15 → W p l e (rmM 0 0 0 0) s m args below meth c H locs 0 0 Q (F0 m 52 ls []) := by
        intro n
        induction n with
        | zero => intro v20 h21 H locs ls P hl hq; cases hq
        | succ n ih =>
          intro v20 h21 H locs ls P hl hq
          obtain ⟨z15, hS15, hI15, hR15⟩ := loop_some hq
          have hF : F_X1_note_L52 a0 vp1 vp2 vp3 v20 h21 = some z15 := hS15
          unfold F_X1_note_L52 at hF
          refine lv_iload (pc := 52) hx hb dX1_note_52 (lv_at hl 4 rfl) ?_
          refine lv_iconst (pc := 54) (v := 3) hx hb dX1_note_54 (by decide) ?_
          refine lv_icmp_ge (pc := 55) (tgt := 122) hx hb dX1_note_55 (by decide) (fun hc => ?_) (fun hc => ?_)
          · rw [if_pos hc] at hF
            exact hX15 _ _ _ _ P (lv_sub hl [] rfl) (hR15 _ (Option.some.inj hF).symm)
          · rw [if_neg hc] at hF
            refine r_gs (pc := 58) CX P (k := 3) (by decide) (Or.inr (by decide)) dX1_note_58 ?_
            refine lv_iload (pc := 61) hx hb dX1_note_61 (lv_at hl 4 rfl) ?_
            refine r_sX (pc := 63) CX P (by decide) hF dX1_note_63 (fun v22 hF => ?_)
            refine lv_istore (pc := 64) hx hb dX1_note_64 hl (by decide) rfl (fun ls hl => ?_)
            replace hl : lv_has ls 7 [(5, .int v22), (0, .ref (B + a0)), (1, .int vp1), (2, .int vp2), (3, .int vp3), (4, .int v20)] := hl
            refine lv_aload_n (pc := 66) hx hb dX1_note_66 rfl (lv_at hl 1 rfl) ?_
            refine r_gR (pc := 67) CX P hF fl_X1_21 dX1_note_67 (fun a23 hF => ?_)
            refine lv_iload_n (pc := 70) hx hb dX1_note_70 rfl (lv_at hl 3 rfl) ?_
            refine lv_iconst (pc := 71) (v := 3) hx hb dX1_note_71 (by decide) ?_
            refine lv_imul (pc := 72) hx hb dX1_note_72 ?_
            refine lv_iload (pc := 73) hx hb dX1_note_73 (lv_at hl 5 rfl) ?_
            refine lv_iadd (pc := 75) hx hb dX1_note_75 ?_
            refine r_aR (pc := 76) CX P hF (Or.inr (Or.inl rfl)) dX1_note_76 (fun a24 hF => ?_)
            refine lv_astore (pc := 77) hx hb dX1_note_77 hl (by decide) rfl (fun ls hl => ?_)
            replace hl : lv_has ls 7 [(6, .ref (B + a24)), (5, .int v22), (0, .ref (B + a0)), (1, .int vp1), (2, .int vp2), (3, .int vp3), (4, .int v20)] := hl
            refine lv_aload (pc := 79) hx hb dX1_note_79 (lv_at hl 0 rfl) ?_
            refine lv_iload_n (pc := 81) hx hb dX1_note_81 rfl (lv_at hl 3 rfl) ?_
            refine lv_iload (pc := 82) hx hb dX1_note_82 (lv_at hl 1 rfl) ?_
            refine lv_if_gt (pc := 84) (tgt := 91) hx hb dX1_note_84 (by decide) (fun hc => ?_) (fun hc => ?_)
            · rw [if_pos hc] at hF
              refine lv_iload (pc := 91) hx hb dX1_note_91 (lv_at hl 1 rfl) ?_
              refine lv_iconst (pc := 93) (v := 1) hx hb dX1_note_93 (by decide) ?_
              refine lv_isub (pc := 94) hx hb dX1_note_94 ?_
              refine lv_aload (pc := 95) hx hb dX1_note_95 (lv_at hl 0 rfl) ?_
              refine lv_iload_n (pc := 97) hx hb dX1_note_97 rfl (lv_at hl 3 rfl) ?_
              refine r_aI (pc := 98) CX P hF dX1_note_98 (fun v25 hF => ?_)
              refine lv_imul (pc := 99) hx hb dX1_note_99 ?_
              refine lv_iload_n (pc := 100) hx hb dX1_note_100 rfl (lv_at hl 5 rfl) ?_
              obtain ⟨j26, hA26, hK26⟩ := bd_some hF
              have hJ26 : ∀ (v27 : Int32) (H : Heap) (locs : List Loc) (ls : Array Slot), Pic G B h21 s H locs → lv_has ls 7 [(0, .ref (B + a0)), (1, .int vp1), (2, .int vp2), (3, .int vp3), (4, .int v20), (5, .int v22)] → v27 = j26 → W p l e (rmM 0 0 0 0) s m args below meth c H locs 0 0 Q (F0 m 111 ls [.int v27, .int ((v22 - 1) * v25), .int vp1, .ref (B + a24)]) := by
                intro v27 H locs ls P hl ej
                subst ej
                have hF := hK26
                refine lv_iadd (pc := 111) hx hb dX1_note_111 ?_
                refine lv_iload (pc := 112) hx hb dX1_note_112 (lv_at hl 5 rfl) ?_
                refine r_dv (pc := 114) hx hb hF dX1_note_114 (fun v28 hF => ?_)
                refine r_sI (pc := 115) CX P hF dX1_note_115 (fun h29 H locs P hF => ?_)
                obtain ⟨v30, ev30, hF⟩ := bl_o hF
                refine lv_iinc (pc := 116) (k := 4) (v := v30) hx hb dX1_note_116 hl rfl ev30 (by decide) rfl (fun ls hl => ?_)
                replace hl : lv_has ls 7 [(4, .int v30), (0, .ref (B + a0)), (1, .int vp1), (2, .int vp2), (3, .int vp3), (5, .int v22)] := hl
                refine lv_goto (pc := 119) (tgt := 52) hx hb dX1_note_119 (by decide) ?_
                exact ih _ _ _ _ _ P (lv_sub hl [1, 2, 3, 4, 0] rfl) (hI15 _ (Option.some.inj hF).symm)
              replace hF := hA26
              refine lv_if_eq (pc := 101) (tgt := 110) hx hb dX1_note_101 (by decide) (fun hc => ?_) (fun hc => ?_)
              · rw [if_pos hc] at hF
                refine lv_iconst (pc := 110) (v := 0) hx hb dX1_note_110 (by decide) ?_
                exact hJ26 _ _ _ _ P (lv_sub hl [2, 3, 4, 5, 6, 1] rfl) (Option.some.inj hF)
              · rw [if_neg hc] at hF
                refine lv_sipush (pc := 104) (v := 1000) hx hb dX1_note_104 (by decide) ?_
                refine lv_goto (pc := 107) (tgt := 111) hx hb dX1_note_107 (by decide) ?_
                exact hJ26 _ _ _ _ P (lv_sub hl [2, 3, 4, 5, 6, 1] rfl) (Option.some.inj hF)
            · rw [if_neg hc] at hF
              refine lv_iconst (pc := 87) (v := 0) hx hb dX1_note_87 (by decide) ?_
              refine lv_goto (pc := 88) (tgt := 115) hx hb dX1_note_88 (by decide) ?_
              refine r_sI (pc := 115) CX P hF dX1_note_115 (fun h31 H locs P hF => ?_)
              obtain ⟨v32, ev32, hF⟩ := bl_o hF
              refine lv_iinc (pc := 116) (k := 6) (v := v32) hx hb dX1_note_116 hl rfl ev32 (by decide) rfl (fun ls hl => ?_)
              replace hl : lv_has ls 7 [(4, .int v32), (6, .ref (B + a24)), (5, .int v22), (0, .ref (B + a0)), (1, .int vp1), (2, .int vp2), (3, .int vp3)] := hl
              refine lv_goto (pc := 119) (tgt := 52) hx hb dX1_note_119 (by decide) ?_
              exact ih _ _ _ _ _ P (lv_sub hl [3, 4, 5, 6, 0] rfl) (hI15 _ (Option.some.inj hF).symm)
      exact hL15 _ _ _ _ _ _ P (lv_sub hl [1, 2, 3, 4, 0] rfl) hLp15
    replace hF := hA12
    refine lv_if_eq (pc := 39) (tgt := 46) hx hb dX1_note_39 (by decide) (fun hc => ?_) (fun hc => ?_)
    · rw [if_pos hc] at hF
      refine lv_iconst (pc := 46) (v := 0) hx hb dX1_note_46 (by decide) ?_
      exact hJ12 _ _ _ _ P (lv_sub hl [0, 1, 2, 3] rfl) (Option.some.inj hF)
    · rw [if_neg hc] at hF
      refine lv_iconst (pc := 42) (v := 1) hx hb dX1_note_42 (by decide) ?_
      refine lv_goto (pc := 43) (tgt := 47) hx hb dX1_note_43 (by decide) ?_
      exact hJ12 _ _ _ _ P (lv_sub hl [0, 1, 2, 3] rfl) (Option.some.inj hF)
  replace hF := hA6
  refine lv_if_eq (pc := 18) (tgt := 25) hx hb dX1_note_18 (by decide) (fun hc => ?_) (fun hc => ?_)
  · rw [if_pos hc] at hF
    refine lv_iconst (pc := 25) (v := 0) hx hb dX1_note_25 (by decide) ?_
    exact hJ6 _ _ _ _ P (lv_sub hl [0, 1, 2, 3] rfl) (Option.some.inj hF)
  · rw [if_neg hc] at hF
    refine lv_iconst (pc := 21) (v := 1) hx hb dX1_note_21 (by decide) ?_
    refine lv_goto (pc := 22) (tgt := 26) hx hb dX1_note_22 (by decide) ?_
    exact hJ6 _ _ _ _ P (lv_sub hl [0, 1, 2, 3] rfl) (Option.some.inj hF)
def F_X1_lowBits (h : Hp) (vp0 : Int32) : Option (Int64) :=
some ((1 <<< (Int32.toInt64 vp0 &&& 63)) - 1)
set_option maxRecDepth 100000 in
set_option maxHeartbeats 4000000 in
theorem c_X1_lowBits (l : Launch) (G : GG) (B : Nat) (h : Hp) (vp0 : Int32) (r0 : Int64) (hF : F_X1_lowBits h vp0 = some r0) : CL l yX1_lowBits cX1_lowBits 1 .long 0 0 0 0 G B h [.int vp0] r0 h := by
  refine ent_l rfl (Nat.le_of_ble_eq_true rfl) ?_
  intro p e s m args below meth c ls Q CX hnm hret P hl
  have CX : Cxt p m c cX1_lowBits 1 s args RX1 G B := CX
  obtain ⟨⟨hx, hb, hml, hown, hts⟩, -, -⟩ := id CX
  replace hl : lv_has ls 1 [(0, .int vp0)] := hl
  generalize s.heap = H at P ⊢
  generalize ([] : List Loc) = locs at P ⊢
  unfold F_X1_lowBits at hF
  refine lv_lconst (pc := 0) (v := 1) hx hb dX1_lowBits_0 (by decide) ?_
  refine lv_iload_n (pc := 1) hx hb dX1_lowBits_1 rfl (lv_at hl 0 rfl) ?_
  refine lv_lshl (pc := 2) hx hb dX1_lowBits_2 rfl ?_
  refine lv_lconst (pc := 3) (v := 1) hx hb dX1_lowBits_3 (by decide) ?_
  refine lv_lsub (pc := 4) hx hb dX1_lowBits_4 ?_
  cases hF
  exact hret _ _ _ _ P dX1_lowBits_5
def F_J13_bitCount_95d88 (h : Hp) (vp0 : Int64) : Option (Int32) :=
bl (vp0 - (((Int64.toUInt64 vp0 >>> (Int64.toUInt64 (Int32.toInt64 1) &&& Int64.toUInt64 63)).toInt64) &&& 6148914691236517205)) fun v1 =>
bl ((v1 &&& 3689348814741910323) + (((Int64.toUInt64 v1 >>> (Int64.toUInt64 (Int32.toInt64 2) &&& Int64.toUInt64 63)).toInt64) &&& 3689348814741910323)) fun v2 =>
bl ((v2 + ((Int64.toUInt64 v2 >>> (Int64.toUInt64 (Int32.toInt64 4) &&& Int64.toUInt64 63)).toInt64)) &&& 1085102592571150095) fun v3 =>
bl (v3 + ((Int64.toUInt64 v3 >>> (Int64.toUInt64 (Int32.toInt64 8) &&& Int64.toUInt64 63)).toInt64)) fun v4 =>
bl (v4 + ((Int64.toUInt64 v4 >>> (Int64.toUInt64 (Int32.toInt64 16) &&& Int64.toUInt64 63)).toInt64)) fun v5 =>
bl (v5 + ((Int64.toUInt64 v5 >>> (Int64.toUInt64 (Int32.toInt64 32) &&& Int64.toUInt64 63)).toInt64)) fun v6 =>
some ((Int64.toInt32 v6) &&& 127)
set_option maxRecDepth 100000 in
set_option maxHeartbeats 4000000 in
theorem c_J13_bitCount_95d88 (l : Launch) (G : GG) (B : Nat) (h : Hp) (vp0 : Int64) (r0 : Int32) (hF : F_J13_bitCount_95d88 h vp0 = some r0) : CI l yJ13_bitCount_95d88 cJ13_bitCount_95d88 2 .int 0 0 0 0 G B h [.long vp0] r0 h := by
  refine ent_i rfl (Nat.le_of_ble_eq_true rfl) ?_
  intro p e s m args below meth c ls Q CX hnm hret P hl
  have CX : Cxt p m c cJ13_bitCount_95d88 2 s args RJ13 G B := CX
  obtain ⟨⟨hx, hb, hml, hown, hts⟩, -, -⟩ := id CX
  replace hl : lv_has ls 2 [(0, .long vp0)] := hl
  generalize s.heap = H at P ⊢
  generalize ([] : List Loc) = locs at P ⊢
  unfold F_J13_bitCount_95d88 at hF
  refine lv_lload_n (pc := 0) hx hb dJ13_bitCount_95d88_0 rfl (lv_at hl 0 rfl) ?_
  refine lv_lload_n (pc := 1) hx hb dJ13_bitCount_95d88_1 rfl (lv_at hl 0 rfl) ?_
  refine lv_iconst (pc := 2) (v := 1) hx hb dJ13_bitCount_95d88_2 (by decide) ?_
  refine lv_lushr (pc := 3) hx hb dJ13_bitCount_95d88_3 rfl ?_
  refine lv_ldc2 (pc := 4) (v := 6148914691236517205) hx hb hown (hts _ tw_745) dJ13_bitCount_95d88_4 ?_
  refine lv_land (pc := 7) hx hb dJ13_bitCount_95d88_7 ?_
  refine lv_lsub (pc := 8) hx hb dJ13_bitCount_95d88_8 ?_
  refine lv_topl (fun v1 ev1 => ?_)
  replace hF := bl_e hF ev1
  refine lv_lstore_n (pc := 9) hx hb dJ13_bitCount_95d88_9 rfl hl (by decide) rfl (fun ls hl => ?_)
  replace hl : lv_has ls 2 [(0, .long v1)] := hl
  refine lv_lload_n (pc := 10) hx hb dJ13_bitCount_95d88_10 rfl (lv_at hl 0 rfl) ?_
  refine lv_ldc2 (pc := 11) (v := 3689348814741910323) hx hb hown (hts _ tw_746) dJ13_bitCount_95d88_11 ?_
  refine lv_land (pc := 14) hx hb dJ13_bitCount_95d88_14 ?_
  refine lv_lload_n (pc := 15) hx hb dJ13_bitCount_95d88_15 rfl (lv_at hl 0 rfl) ?_
  refine lv_iconst (pc := 16) (v := 2) hx hb dJ13_bitCount_95d88_16 (by decide) ?_
  refine lv_lushr (pc := 17) hx hb dJ13_bitCount_95d88_17 rfl ?_
  refine lv_ldc2 (pc := 18) (v := 3689348814741910323) hx hb hown (hts _ tw_746) dJ13_bitCount_95d88_18 ?_
  refine lv_land (pc := 21) hx hb dJ13_bitCount_95d88_21 ?_
  refine lv_ladd (pc := 22) hx hb dJ13_bitCount_95d88_22 ?_
  refine lv_topl (fun v2 ev2 => ?_)
  replace hF := bl_e hF ev2
  refine lv_lstore_n (pc := 23) hx hb dJ13_bitCount_95d88_23 rfl hl (by decide) rfl (fun ls hl => ?_)
  replace hl : lv_has ls 2 [(0, .long v2)] := hl
  refine lv_lload_n (pc := 24) hx hb dJ13_bitCount_95d88_24 rfl (lv_at hl 0 rfl) ?_
  refine lv_lload_n (pc := 25) hx hb dJ13_bitCount_95d88_25 rfl (lv_at hl 0 rfl) ?_
  refine lv_iconst (pc := 26) (v := 4) hx hb dJ13_bitCount_95d88_26 (by decide) ?_
  refine lv_lushr (pc := 27) hx hb dJ13_bitCount_95d88_27 rfl ?_
  refine lv_ladd (pc := 28) hx hb dJ13_bitCount_95d88_28 ?_
  refine lv_ldc2 (pc := 29) (v := 1085102592571150095) hx hb hown (hts _ tw_747) dJ13_bitCount_95d88_29 ?_
  refine lv_land (pc := 32) hx hb dJ13_bitCount_95d88_32 ?_
  refine lv_topl (fun v3 ev3 => ?_)
  replace hF := bl_e hF ev3
  refine lv_lstore_n (pc := 33) hx hb dJ13_bitCount_95d88_33 rfl hl (by decide) rfl (fun ls hl => ?_)
  replace hl : lv_has ls 2 [(0, .long v3)] := hl
  refine lv_lload_n (pc := 34) hx hb dJ13_bitCount_95d88_34 rfl (lv_at hl 0 rfl) ?_
  refine lv_lload_n (pc := 35) hx hb dJ13_bitCount_95d88_35 rfl (lv_at hl 0 rfl) ?_
  refine lv_bipush (pc := 36) (v := 8) hx hb dJ13_bitCount_95d88_36 (by decide) ?_
  refine lv_lushr (pc := 38) hx hb dJ13_bitCount_95d88_38 rfl ?_
  refine lv_ladd (pc := 39) hx hb dJ13_bitCount_95d88_39 ?_
  refine lv_topl (fun v4 ev4 => ?_)
  replace hF := bl_e hF ev4
  refine lv_lstore_n (pc := 40) hx hb dJ13_bitCount_95d88_40 rfl hl (by decide) rfl (fun ls hl => ?_)
  replace hl : lv_has ls 2 [(0, .long v4)] := hl
  refine lv_lload_n (pc := 41) hx hb dJ13_bitCount_95d88_41 rfl (lv_at hl 0 rfl) ?_
  refine lv_lload_n (pc := 42) hx hb dJ13_bitCount_95d88_42 rfl (lv_at hl 0 rfl) ?_
  refine lv_bipush (pc := 43) (v := 16) hx hb dJ13_bitCount_95d88_43 (by decide) ?_
  refine lv_lushr (pc := 45) hx hb dJ13_bitCount_95d88_45 rfl ?_
  refine lv_ladd (pc := 46) hx hb dJ13_bitCount_95d88_46 ?_
  refine lv_topl (fun v5 ev5 => ?_)
  replace hF := bl_e hF ev5
  refine lv_lstore_n (pc := 47) hx hb dJ13_bitCount_95d88_47 rfl hl (by decide) rfl (fun ls hl => ?_)
  replace hl : lv_has ls 2 [(0, .long v5)] := hl
  refine lv_lload_n (pc := 48) hx hb dJ13_bitCount_95d88_48 rfl (lv_at hl 0 rfl) ?_
  refine lv_lload_n (pc := 49) hx hb dJ13_bitCount_95d88_49 rfl (lv_at hl 0 rfl) ?_
  refine lv_bipush (pc := 50) (v := 32) hx hb dJ13_bitCount_95d88_50 (by decide) ?_
  refine lv_lushr (pc := 52) hx hb dJ13_bitCount_95d88_52 rfl ?_
  refine lv_ladd (pc := 53) hx hb dJ13_bitCount_95d88_53 ?_
  refine lv_topl (fun v6 ev6 => ?_)
  replace hF := bl_e hF ev6
  refine lv_lstore_n (pc := 54) hx hb dJ13_bitCount_95d88_54 rfl hl (by decide) rfl (fun ls hl => ?_)
  replace hl : lv_has ls 2 [(0, .long v6)] := hl
  refine lv_lload_n (pc := 55) hx hb dJ13_bitCount_95d88_55 rfl (lv_at hl 0 rfl) ?_
  refine lv_l2i (pc := 56) hx hb dJ13_bitCount_95d88_56 rfl ?_
  refine lv_bipush (pc := 57) (v := 127) hx hb dJ13_bitCount_95d88_57 (by decide) ?_
  refine lv_iand (pc := 59) hx hb dJ13_bitCount_95d88_59 ?_
  cases hF
  exact hret _ _ _ _ P rfl dJ13_bitCount_95d88_60
def F_X1_recent (h : Hp) (a0 : Nat) (vp1 : Int32) (vp2 : Int32) (vp3 : Int32) : Option (Int32) :=
(gR h a0 1 0).bind fun a1 =>
(aR h a1 16 vp2).bind fun a2 =>
(aJ h a2 vp1).bind fun v3 =>
(F_X1_lowBits h vp3).bind fun v4 =>
(F_J13_bitCount_95d88 h (v3 &&& v4)).bind fun v5 =>
some v5
set_option maxRecDepth 100000 in
set_option maxHeartbeats 4000000 in
theorem c_X1_recent (l : Launch) (G : GG) (B : Nat) (h : Hp) (a0 : Nat) (vp1 : Int32) (vp2 : Int32) (vp3 : Int32) (r0 : Int32) (hF : F_X1_recent h a0 vp1 vp2 vp3 = some r0) : CI l yX1_recent cX1_recent 4 .int 1 21 0 0 G B h [.ref (B + a0), .int vp1, .int vp2, .int vp3] r0 h := by
  refine ent_i rfl (Nat.le_of_ble_eq_true rfl) ?_
  intro p e s m args below meth c ls Q CX hnm hret P hl
  have CX : Cxt p m c cX1_recent 4 s args RX1 G B := CX
  obtain ⟨⟨hx, hb, hml, hown, hts⟩, -, -⟩ := id CX
  replace hl : lv_has ls 4 [(0, .ref (B + a0)), (1, .int vp1), (2, .int vp2), (3, .int vp3)] := hl
  generalize s.heap = H at P ⊢
  generalize ([] : List Loc) = locs at P ⊢
  unfold F_X1_recent at hF
  refine lv_aload_n (pc := 0) hx hb dX1_recent_0 rfl (lv_at hl 0 rfl) ?_
  refine r_gR (pc := 1) CX P hF fl_X1_11 dX1_recent_1 (fun a1 hF => ?_)
  refine lv_iload_n (pc := 4) hx hb dX1_recent_4 rfl (lv_at hl 2 rfl) ?_
  refine r_aR (pc := 5) CX P hF (Or.inr (Or.inr rfl)) dX1_recent_5 (fun a2 hF => ?_)
  refine lv_iload_n (pc := 6) hx hb dX1_recent_6 rfl (lv_at hl 1 rfl) ?_
  refine r_aJ (pc := 7) CX P hF dX1_recent_7 (fun v3 hF => ?_)
  refine lv_iload_n (pc := 8) hx hb dX1_recent_8 rfl (lv_at hl 3 rfl) ?_
  refine r_cSl (pc := 9) (As := [.int vp3]) (rest := [.long v3]) CX P hl.1 hF ks_X1_34 (fun r q => c_X1_lowBits l G B _ _ _ q) rfl rfl ⟨Nat.le_of_ble_eq_true rfl, Nat.le_of_ble_eq_true rfl⟩ (Nat.le_of_ble_eq_true rfl) ⟨Nat.le_of_ble_eq_true rfl, Nat.le_of_ble_eq_true rfl⟩ dX1_recent_9 (fun v4 H locs P hF => ?_)
  refine lv_land (pc := 12) hx hb dX1_recent_12 ?_
  refine r_cSp (pc := 13) (As := [.long (v3 &&& v4)]) (rest := []) CX P hl.1 hF ks_X1_38 (fun r q => c_J13_bitCount_95d88 l G B _ _ _ q) rfl rfl ⟨Nat.le_of_ble_eq_true rfl, Nat.le_of_ble_eq_true rfl⟩ (Nat.le_of_ble_eq_true rfl) ⟨Nat.le_of_ble_eq_true rfl, Nat.le_of_ble_eq_true rfl⟩ dX1_recent_13 (fun v5 H locs P hF => ?_)
  cases hF
  exact hret _ _ _ _ P rfl dX1_recent_16
def F_X1_recentAhead (h : Hp) (a0 : Nat) (vp1 : Int32) (vp2 : Int32) (vp3 : Int32) : Option (Int32) :=
(gR h a0 1 0).bind fun a1 =>
(aR h a1 16 vp2).bind fun a2 =>
(aJ h a2 vp1).bind fun v3 =>
(F_X1_lowBits h vp3).bind fun v4 =>
(F_J13_bitCount_95d88 h (((Int64.toUInt64 v3 >>> (Int64.toUInt64 (Int32.toInt64 1) &&& Int64.toUInt64 63)).toInt64) &&& v4)).bind fun v5 =>
some v5
set_option maxRecDepth 100000 in
set_option maxHeartbeats 4000000 in
theorem c_X1_recentAhead (l : Launch) (G : GG) (B : Nat) (h : Hp) (a0 : Nat) (vp1 : Int32) (vp2 : Int32) (vp3 : Int32) (r0 : Int32) (hF : F_X1_recentAhead h a0 vp1 vp2 vp3 = some r0) : CI l yX1_recentAhead cX1_recentAhead 4 .int 1 21 0 0 G B h [.ref (B + a0), .int vp1, .int vp2, .int vp3] r0 h := by
  refine ent_i rfl (Nat.le_of_ble_eq_true rfl) ?_
  intro p e s m args below meth c ls Q CX hnm hret P hl
  have CX : Cxt p m c cX1_recentAhead 4 s args RX1 G B := CX
  obtain ⟨⟨hx, hb, hml, hown, hts⟩, -, -⟩ := id CX
  replace hl : lv_has ls 4 [(0, .ref (B + a0)), (1, .int vp1), (2, .int vp2), (3, .int vp3)] := hl
  generalize s.heap = H at P ⊢
  generalize ([] : List Loc) = locs at P ⊢
  unfold F_X1_recentAhead at hF
  refine lv_aload_n (pc := 0) hx hb dX1_recentAhead_0 rfl (lv_at hl 0 rfl) ?_
  refine r_gR (pc := 1) CX P hF fl_X1_11 dX1_recentAhead_1 (fun a1 hF => ?_)
  refine lv_iload_n (pc := 4) hx hb dX1_recentAhead_4 rfl (lv_at hl 2 rfl) ?_
  refine r_aR (pc := 5) CX P hF (Or.inr (Or.inr rfl)) dX1_recentAhead_5 (fun a2 hF => ?_)
  refine lv_iload_n (pc := 6) hx hb dX1_recentAhead_6 rfl (lv_at hl 1 rfl) ?_
  refine r_aJ (pc := 7) CX P hF dX1_recentAhead_7 (fun v3 hF => ?_)
  refine lv_iconst (pc := 8) (v := 1) hx hb dX1_recentAhead_8 (by decide) ?_
  refine lv_lushr (pc := 9) hx hb dX1_recentAhead_9 rfl ?_
  refine lv_iload_n (pc := 10) hx hb dX1_recentAhead_10 rfl (lv_at hl 3 rfl) ?_
  refine r_cSl (pc := 11) (As := [.int vp3]) (rest := [.long ((Int64.toUInt64 v3 >>> (Int64.toUInt64 (Int32.toInt64 1) &&& Int64.toUInt64 63)).toInt64)]) CX P hl.1 hF ks_X1_34 (fun r q => c_X1_lowBits l G B _ _ _ q) rfl rfl ⟨Nat.le_of_ble_eq_true rfl, Nat.le_of_ble_eq_true rfl⟩ (Nat.le_of_ble_eq_true rfl) ⟨Nat.le_of_ble_eq_true rfl, Nat.le_of_ble_eq_true rfl⟩ dX1_recentAhead_11 (fun v4 H locs P hF => ?_)
  refine lv_land (pc := 14) hx hb dX1_recentAhead_14 ?_
  refine r_cSp (pc := 15) (As := [.long (((Int64.toUInt64 v3 >>> (Int64.toUInt64 (Int32.toInt64 1) &&& Int64.toUInt64 63)).toInt64) &&& v4)]) (rest := []) CX P hl.1 hF ks_X1_38 (fun r q => c_J13_bitCount_95d88 l G B _ _ _ q) rfl rfl ⟨Nat.le_of_ble_eq_true rfl, Nat.le_of_ble_eq_true rfl⟩ (Nat.le_of_ble_eq_true rfl) ⟨Nat.le_of_ble_eq_true rfl, Nat.le_of_ble_eq_true rfl⟩ dX1_recentAhead_15 (fun v5 H locs P hF => ?_)
  cases hF
  exact hret _ _ _ _ P rfl dX1_recentAhead_18
def F_X7_fire_L2 (a2 : Nat) (a3 : Nat) (v4 : Int32) (h5 : Hp) : Option ((Int32 × Hp) ⊕ (Hp)) :=
(gI h5 a2 7 4).bind fun v6 =>
if v6 ≤ v4 then (
some (.inr h5)) else (
(gR h5 a2 7 0).bind fun a7 =>
(aI h5 a7 v4).bind fun v8 =>
(gR h5 a2 7 1).bind fun a9 =>
(aI h5 a9 v4).bind fun v10 =>
(cO h5 a3 1 (F_X1_recent h5 a3 v8 0 v10)).bind fun v11 =>
(gR h5 a2 7 2).bind fun a12 =>
(aI h5 a12 v4).bind fun v13 =>
(if v11 < v13 then (
some (0 : Int32)) else (
some (1 : Int32))).bind fun v15 =>
(gR h5 a2 7 0).bind fun a16 =>
(aI h5 a16 v4).bind fun v17 =>
(gR h5 a2 7 1).bind fun a18 =>
(aI h5 a18 v4).bind fun v19 =>
(cO h5 a3 1 (F_X1_recentAhead h5 a3 v17 0 v19)).bind fun v20 =>
(gR h5 a2 7 2).bind fun a21 =>
(aI h5 a21 v4).bind fun v22 =>
(if v20 < v22 then (
some (0 : Int32)) else (
some (1 : Int32))).bind fun v24 =>
if v15 = 0 then (
bl (v4 + 1) fun v25 =>
some (.inl (v25, h5))) else (
if v24 = 0 then (
(gR h5 a2 7 3).bind fun a27 =>
(aI h5 a27 v4).bind fun v28 =>
(sI h5 a27 v4 (v28 + 1)).bind fun h29 =>
bl (v4 + 1) fun v30 =>
some (.inl (v30, h29))) else (
bl (v4 + 1) fun v26 =>
some (.inl (v26, h5)))))
def F_X7_fire (h : Hp) (a0 : Nat) (ap1 : Nat) : Option (Hp) :=
(loopF (fun x => F_X7_fire_L2 a0 ap1 x.1 x.2) 6000 (0, h)).bind fun h31 =>
some h31
set_option maxRecDepth 100000 in
set_option maxHeartbeats 4000000 in
theorem c_X7_fire (l : Launch) (G : GG) (B : Nat) (h : Hp) (a0 : Nat) (ap1 : Nat) (hr : Hp) (hF : F_X7_fire h a0 ap1 = some hr) : CV l yX7_fire cX7_fire 5 2 44 0 0 G B h [.ref (B + a0), .ref (B + ap1)] hr := by
  refine ent_v rfl (Nat.le_of_ble_eq_true rfl) ?_
  intro p e s m args below meth c ls Q CX hnm hret P hl
  have CX : Cxt p m c cX7_fire 5 s args RX7 G B := CX
  obtain ⟨⟨hx, hb, hml, hown, hts⟩, -, -⟩ := id CX
  replace hl : lv_has ls 5 [(0, .ref (B + a0)), (1, .ref (B + ap1))] := hl
  generalize s.heap = H at P ⊢
  generalize ([] : List Loc) = locs at P ⊢
  unfold F_X7_fire at hF
  refine lv_iconst (pc := 0) (v := 0) hx hb dX7_fire_0 (by decide) ?_
  refine lv_istore_n (pc := 1) hx hb dX7_fire_1 rfl hl (by decide) rfl (fun ls hl => ?_)
  replace hl : lv_has ls 5 [(2, .int 0), (0, .ref (B + a0)), (1, .ref (B + ap1))] := hl
  obtain ⟨r1, hLp1, hK1⟩ := bd_some hF
  have hX1 : ∀ (h31 : Hp) (H : Heap) (locs : List Loc) (ls : Array Slot), Pic G B h31 s H locs → lv_has ls 5 [] → h31 = r1 → W p l e (rmM 2 44 0 0) s m args below meth c H locs 0 0 Q (F0 m 100 ls []) := by
    intro h31 H locs ls P hl er
    subst er
    have hF := hK1
    cases hF
    exact hret _ _ _ _ P dX7_fire_100
  have hL1 : ∀ (n : Nat) (v4 : Int32) (h5 : Hp) (H : Heap) (locs : List Loc) (ls : Array Slot), Pic G B h5 s H locs → lv_has ls 5 [(0, .ref (B + a0)), (1, .ref (B + ap1)), (2, .int v4)] → loopF (fun x => F_X7_fire_L2 a0 ap1 x.1 x.2) n (v4, h5) = some r1 → W p l e (rmM 2 44 0 0) s m args below meth c H locs 0 0 Q (F0 m 2 ls []) := by
    intro n
    induction n with
    | zero => intro v4 h5 H locs ls P hl hq; cases hq
    | succ n ih =>
      intro v4 h5 H locs ls P hl hq
      obtain ⟨z1, hS1, hI1, hR1⟩ := loop_some hq
      have hF : F_X7_fire_L2 a0 ap1 v4 h5 = some z1 := hS1
      unfold F_X7_fire_L2 at hF
      refine lv_iload_n (pc := 2) hx hb dX7_fire_2 rfl (lv_at hl 2 rfl) ?_
      refine lv_aload_n (pc := 3) hx hb dX7_fire_3 rfl (lv_at hl 0 rfl) ?_
      refine r_gI (pc := 4) CX P hF fl_X7_30 dX7_fire_4 (fun v6 hF => ?_)
      refine lv_icmp_ge (pc := 7) (tgt := 100) hx hb dX7_fire_7 (by decide) (fun hc => ?_) (fun hc => ?_)
      · rw [if_pos hc] at hF
        exact hX1 _ _ _ _ P (lv_sub hl [] rfl) (hR1 _ (Option.some.inj hF).symm)
      · rw [if_neg hc] at hF
        refine lv_aload_n (pc := 10) hx hb dX7_fire_10 rfl (lv_at hl 1 rfl) ?_
        refine lv_aload_n (pc := 11) hx hb dX7_fire_11 rfl (lv_at hl 0 rfl) ?_
        refine r_gR (pc := 12) CX P hF fl_X7_9 dX7_fire_12 (fun a7 hF => ?_)
        refine lv_iload_n (pc := 15) hx hb dX7_fire_15 rfl (lv_at hl 2 rfl) ?_
        refine r_aI (pc := 16) CX P hF dX7_fire_16 (fun v8 hF => ?_)
        refine lv_iconst (pc := 17) (v := 0) hx hb dX7_fire_17 (by decide) ?_
        refine lv_aload_n (pc := 18) hx hb dX7_fire_18 rfl (lv_at hl 0 rfl) ?_
        refine r_gR (pc := 19) CX P hF fl_X7_15 dX7_fire_19 (fun a9 hF => ?_)
        refine lv_iload_n (pc := 22) hx hb dX7_fire_22 rfl (lv_at hl 2 rfl) ?_
        refine r_aI (pc := 23) CX P hF dX7_fire_23 (fun v10 hF => ?_)
        refine r_cVp (pc := 24) (As := [.int v8, .int 0, .int v10]) (rest := []) CX P hl.1 hF kv_X7_34 (fun r q => c_X1_recent l G B _ _ _ _ _ _ q) rfl rfl ⟨Nat.le_of_ble_eq_true rfl, Nat.le_of_ble_eq_true rfl⟩ (Nat.le_of_ble_eq_true rfl) ⟨Nat.le_of_ble_eq_true rfl, Nat.le_of_ble_eq_true rfl⟩ dX7_fire_24 (fun v11 H locs P hF => ?_)
        refine lv_aload_n (pc := 27) hx hb dX7_fire_27 rfl (lv_at hl 0 rfl) ?_
        refine r_gR (pc := 28) CX P hF fl_X7_18 dX7_fire_28 (fun a12 hF => ?_)
        refine lv_iload_n (pc := 31) hx hb dX7_fire_31 rfl (lv_at hl 2 rfl) ?_
        refine r_aI (pc := 32) CX P hF dX7_fire_32 (fun v13 hF => ?_)
        obtain ⟨j14, hA14, hK14⟩ := bd_some hF
        have hJ14 : ∀ (v15 : Int32) (H : Heap) (locs : List Loc) (ls : Array Slot), Pic G B h5 s H locs → lv_has ls 5 [(0, .ref (B + a0)), (1, .ref (B + ap1)), (2, .int v4)] → v15 = j14 → W p l e (rmM 2 44 0 0) s m args below meth c H locs 0 0 Q (F0 m 41 ls [.int v15]) := by
          intro v15 H locs ls P hl ej
          subst ej
          have hF := hK14
          refine lv_istore_n (pc := 41) hx hb dX7_fire_41 rfl hl (by decide) rfl (fun ls hl => ?_)
          replace hl : lv_has ls 5 [(3, .int v15), (0, .ref (B + a0)), (1, .ref (B + ap1)), (2, .int v4)] := hl
          refine lv_aload_n (pc := 42) hx hb dX7_fire_42 rfl (lv_at hl 2 rfl) ?_
          refine lv_aload_n (pc := 43) hx hb dX7_fire_43 rfl (lv_at hl 1 rfl) ?_
          refine r_gR (pc := 44) CX P hF fl_X7_9 dX7_fire_44 (fun a16 hF => ?_)
          refine lv_iload_n (pc := 47) hx hb dX7_fire_47 rfl (lv_at hl 3 rfl) ?_
          refine r_aI (pc := 48) CX P hF dX7_fire_48 (fun v17 hF => ?_)
          refine lv_iconst (pc := 49) (v := 0) hx hb dX7_fire_49 (by decide) ?_
          refine lv_aload_n (pc := 50) hx hb dX7_fire_50 rfl (lv_at hl 1 rfl) ?_
          refine r_gR (pc := 51) CX P hF fl_X7_15 dX7_fire_51 (fun a18 hF => ?_)
          refine lv_iload_n (pc := 54) hx hb dX7_fire_54 rfl (lv_at hl 3 rfl) ?_
          refine r_aI (pc := 55) CX P hF dX7_fire_55 (fun v19 hF => ?_)
          refine r_cVp (pc := 56) (As := [.int v17, .int 0, .int v19]) (rest := []) CX P hl.1 hF kv_X7_40 (fun r q => c_X1_recentAhead l G B _ _ _ _ _ _ q) rfl rfl ⟨Nat.le_of_ble_eq_true rfl, Nat.le_of_ble_eq_true rfl⟩ (Nat.le_of_ble_eq_true rfl) ⟨Nat.le_of_ble_eq_true rfl, Nat.le_of_ble_eq_true rfl⟩ dX7_fire_56 (fun v20 H locs P hF => ?_)
          refine lv_aload_n (pc := 59) hx hb dX7_fire_59 rfl (lv_at hl 1 rfl) ?_
          refine r_gR (pc := 60) CX P hF fl_X7_18 dX7_fire_60 (fun a21 hF => ?_)
          refine lv_iload_n (pc := 63) hx hb dX7_fire_63 rfl (lv_at hl 3 rfl) ?_
          refine r_aI (pc := 64) CX P hF dX7_fire_64 (fun v22 hF => ?_)
          obtain ⟨j23, hA23, hK23⟩ := bd_some hF
          have hJ23 : ∀ (v24 : Int32) (H : Heap) (locs : List Loc) (ls : Array Slot), Pic G B h5 s H locs → lv_has ls 5 [(0, .ref (B + a0)), (1, .ref (B + ap1)), (2, .int v4), (3, .int v15)] → v24 = j23 → W p l e (rmM 2 44 0 0) s m args below meth c H locs 0 0 Q (F0 m 73 ls [.int v24]) := by
            intro v24 H locs ls P hl ej
            subst ej
            have hF := hK23
            refine lv_istore (pc := 73) hx hb dX7_fire_73 hl (by decide) rfl (fun ls hl => ?_)
            replace hl : lv_has ls 5 [(4, .int v24), (0, .ref (B + a0)), (1, .ref (B + ap1)), (2, .int v4), (3, .int v15)] := hl
            refine lv_iload_n (pc := 75) hx hb dX7_fire_75 rfl (lv_at hl 4 rfl) ?_
            refine lv_if_eq (pc := 76) (tgt := 94) hx hb dX7_fire_76 (by decide) (fun hc => ?_) (fun hc => ?_)
            · rw [if_pos hc] at hF
              obtain ⟨v25, ev25, hF⟩ := bl_o hF
              refine lv_iinc (pc := 94) (k := 3) (v := v25) hx hb dX7_fire_94 hl rfl ev25 (by decide) rfl (fun ls hl => ?_)
              replace hl : lv_has ls 5 [(2, .int v25), (4, .int v24), (0, .ref (B + a0)), (1, .ref (B + ap1)), (3, .int v15)] := hl
              refine lv_goto (pc := 97) (tgt := 2) hx hb dX7_fire_97 (by decide) ?_
              exact ih _ _ _ _ _ P (lv_sub hl [2, 3, 0] rfl) (hI1 _ (Option.some.inj hF).symm)
            · rw [if_neg hc] at hF
              refine lv_iload (pc := 79) hx hb dX7_fire_79 (lv_at hl 0 rfl) ?_
              refine lv_if_ne (pc := 81) (tgt := 94) hx hb dX7_fire_81 (by decide) (fun hc => ?_) (fun hc => ?_)
              · rw [if_neg hc] at hF
                obtain ⟨v26, ev26, hF⟩ := bl_o hF
                refine lv_iinc (pc := 94) (k := 3) (v := v26) hx hb dX7_fire_94 hl rfl ev26 (by decide) rfl (fun ls hl => ?_)
                replace hl : lv_has ls 5 [(2, .int v26), (4, .int v24), (0, .ref (B + a0)), (1, .ref (B + ap1)), (3, .int v15)] := hl
                refine lv_goto (pc := 97) (tgt := 2) hx hb dX7_fire_97 (by decide) ?_
                exact ih _ _ _ _ _ P (lv_sub hl [2, 3, 0] rfl) (hI1 _ (Option.some.inj hF).symm)
              · rw [if_pos hc] at hF
                refine lv_aload_n (pc := 84) hx hb dX7_fire_84 rfl (lv_at hl 1 rfl) ?_
                refine r_gR (pc := 85) CX P hF fl_X7_21 dX7_fire_85 (fun a27 hF => ?_)
                refine lv_iload_n (pc := 88) hx hb dX7_fire_88 rfl (lv_at hl 3 rfl) ?_
                refine lv_dup2_11 (pc := 89) hx hb dX7_fire_89 rfl rfl ?_
                refine r_aI (pc := 90) CX P hF dX7_fire_90 (fun v28 hF => ?_)
                refine lv_iconst (pc := 91) (v := 1) hx hb dX7_fire_91 (by decide) ?_
                refine lv_iadd (pc := 92) hx hb dX7_fire_92 ?_
                refine r_sI (pc := 93) CX P hF dX7_fire_93 (fun h29 H locs P hF => ?_)
                obtain ⟨v30, ev30, hF⟩ := bl_o hF
                refine lv_iinc (pc := 94) (k := 3) (v := v30) hx hb dX7_fire_94 hl rfl ev30 (by decide) rfl (fun ls hl => ?_)
                replace hl : lv_has ls 5 [(2, .int v30), (4, .int v24), (0, .ref (B + a0)), (1, .ref (B + ap1)), (3, .int v15)] := hl
                refine lv_goto (pc := 97) (tgt := 2) hx hb dX7_fire_97 (by decide) ?_
                exact ih _ _ _ _ _ P (lv_sub hl [2, 3, 0] rfl) (hI1 _ (Option.some.inj hF).symm)
          replace hF := hA23
          refine lv_icmp_lt (pc := 65) (tgt := 72) hx hb dX7_fire_65 (by decide) (fun hc => ?_) (fun hc => ?_)
          · rw [if_pos hc] at hF
            refine lv_iconst (pc := 72) (v := 0) hx hb dX7_fire_72 (by decide) ?_
            exact hJ23 _ _ _ _ P (lv_sub hl [1, 2, 3, 0] rfl) (Option.some.inj hF)
          · rw [if_neg hc] at hF
            refine lv_iconst (pc := 68) (v := 1) hx hb dX7_fire_68 (by decide) ?_
            refine lv_goto (pc := 69) (tgt := 73) hx hb dX7_fire_69 (by decide) ?_
            exact hJ23 _ _ _ _ P (lv_sub hl [1, 2, 3, 0] rfl) (Option.some.inj hF)
        replace hF := hA14
        refine lv_icmp_lt (pc := 33) (tgt := 40) hx hb dX7_fire_33 (by decide) (fun hc => ?_) (fun hc => ?_)
        · rw [if_pos hc] at hF
          refine lv_iconst (pc := 40) (v := 0) hx hb dX7_fire_40 (by decide) ?_
          exact hJ14 _ _ _ _ P (lv_sub hl [0, 1, 2] rfl) (Option.some.inj hF)
        · rw [if_neg hc] at hF
          refine lv_iconst (pc := 36) (v := 1) hx hb dX7_fire_36 (by decide) ?_
          refine lv_goto (pc := 37) (tgt := 41) hx hb dX7_fire_37 (by decide) ?_
          exact hJ14 _ _ _ _ P (lv_sub hl [0, 1, 2] rfl) (Option.some.inj hF)
  exact hL1 _ _ _ _ _ _ P (lv_sub hl [1, 2, 0] rfl) hLp1
def F_X0_fadeStalls_L2 (a2 : Nat) (v3 : Int32) (h4 : Hp) : Option ((Int32 × Hp) ⊕ (Hp)) :=
if 16 ≤ v3 then (
some (.inr h4)) else (
(gR h4 a2 0 4).bind fun a5 =>
(gR h4 a2 0 4).bind fun a6 =>
(aI h4 a6 v3).bind fun v7 =>
(sI h4 a5 v3 (mxI 0 (v7 - 1))).bind fun h8 =>
bl (v3 + 1) fun v9 =>
some (.inl (v9, h8)))
def F_X0_fadeStalls (h : Hp) (a0 : Nat) : Option (Hp) :=
(loopF (fun x => F_X0_fadeStalls_L2 a0 x.1 x.2) 6000 (0, h)).bind fun h10 =>
some h10
set_option maxRecDepth 100000 in
set_option maxHeartbeats 4000000 in
theorem c_X0_fadeStalls (l : Launch) (G : GG) (B : Nat) (h : Hp) (a0 : Nat) (hr : Hp) (hF : F_X0_fadeStalls h a0 = some hr) : CV l yX0_fadeStalls cX0_fadeStalls 2 1 39 0 0 G B h [.ref (B + a0)] hr := by
  refine ent_v rfl (Nat.le_of_ble_eq_true rfl) ?_
  intro p e s m args below meth c ls Q CX hnm hret P hl
  have CX : Cxt p m c cX0_fadeStalls 2 s args RX0 G B := CX
  obtain ⟨⟨hx, hb, hml, hown, hts⟩, -, -⟩ := id CX
  replace hl : lv_has ls 2 [(0, .ref (B + a0))] := hl
  generalize s.heap = H at P ⊢
  generalize ([] : List Loc) = locs at P ⊢
  unfold F_X0_fadeStalls at hF
  refine lv_iconst (pc := 0) (v := 0) hx hb dX0_fadeStalls_0 (by decide) ?_
  refine lv_istore_n (pc := 1) hx hb dX0_fadeStalls_1 rfl hl (by decide) rfl (fun ls hl => ?_)
  replace hl : lv_has ls 2 [(1, .int 0), (0, .ref (B + a0))] := hl
  obtain ⟨r1, hLp1, hK1⟩ := bd_some hF
  have hX1 : ∀ (h10 : Hp) (H : Heap) (locs : List Loc) (ls : Array Slot), Pic G B h10 s H locs → lv_has ls 2 [] → h10 = r1 → W p l e (rmM 1 39 0 0) s m args below meth c H locs 0 0 Q (F0 m 32 ls []) := by
    intro h10 H locs ls P hl er
    subst er
    have hF := hK1
    cases hF
    exact hret _ _ _ _ P dX0_fadeStalls_32
  have hL1 : ∀ (n : Nat) (v3 : Int32) (h4 : Hp) (H : Heap) (locs : List Loc) (ls : Array Slot), Pic G B h4 s H locs → lv_has ls 2 [(0, .ref (B + a0)), (1, .int v3)] → loopF (fun x => F_X0_fadeStalls_L2 a0 x.1 x.2) n (v3, h4) = some r1 → W p l e (rmM 1 39 0 0) s m args below meth c H locs 0 0 Q (F0 m 2 ls []) := by
    intro n
    induction n with
    | zero => intro v3 h4 H locs ls P hl hq; cases hq
    | succ n ih =>
      intro v3 h4 H locs ls P hl hq
      obtain ⟨z1, hS1, hI1, hR1⟩ := loop_some hq
      have hF : F_X0_fadeStalls_L2 a0 v3 h4 = some z1 := hS1
      unfold F_X0_fadeStalls_L2 at hF
      refine lv_iload_n (pc := 2) hx hb dX0_fadeStalls_2 rfl (lv_at hl 1 rfl) ?_
      refine lv_bipush (pc := 3) (v := 16) hx hb dX0_fadeStalls_3 (by decide) ?_
      refine lv_icmp_ge (pc := 5) (tgt := 32) hx hb dX0_fadeStalls_5 (by decide) (fun hc => ?_) (fun hc => ?_)
      · rw [if_pos hc] at hF
        exact hX1 _ _ _ _ P (lv_sub hl [] rfl) (hR1 _ (Option.some.inj hF).symm)
      · rw [if_neg hc] at hF
        refine lv_aload_n (pc := 8) hx hb dX0_fadeStalls_8 rfl (lv_at hl 0 rfl) ?_
        refine r_gR (pc := 9) CX P hF fl_X0_26 dX0_fadeStalls_9 (fun a5 hF => ?_)
        refine lv_iload_n (pc := 12) hx hb dX0_fadeStalls_12 rfl (lv_at hl 1 rfl) ?_
        refine lv_iconst (pc := 13) (v := 0) hx hb dX0_fadeStalls_13 (by decide) ?_
        refine lv_aload_n (pc := 14) hx hb dX0_fadeStalls_14 rfl (lv_at hl 0 rfl) ?_
        refine r_gR (pc := 15) CX P hF fl_X0_26 dX0_fadeStalls_15 (fun a6 hF => ?_)
        refine lv_iload_n (pc := 18) hx hb dX0_fadeStalls_18 rfl (lv_at hl 1 rfl) ?_
        refine r_aI (pc := 19) CX P hF dX0_fadeStalls_19 (fun v7 hF => ?_)
        refine lv_iconst (pc := 20) (v := 1) hx hb dX0_fadeStalls_20 (by decide) ?_
        refine lv_isub (pc := 21) hx hb dX0_fadeStalls_21 ?_
        refine r_mx (pc := 22) CX hl.1 tw_760 tw_475 tw_14 tw_476 (Nat.le_of_ble_eq_true rfl) (Nat.le_of_ble_eq_true rfl) (Nat.le_of_ble_eq_true rfl) (Nat.le_of_ble_eq_true rfl) dX0_fadeStalls_22 ?_
        refine r_sI (pc := 25) CX P hF dX0_fadeStalls_25 (fun h8 H locs P hF => ?_)
        obtain ⟨v9, ev9, hF⟩ := bl_o hF
        refine lv_iinc (pc := 26) (k := 1) (v := v9) hx hb dX0_fadeStalls_26 hl rfl ev9 (by decide) rfl (fun ls hl => ?_)
        replace hl : lv_has ls 2 [(1, .int v9), (0, .ref (B + a0))] := hl
        refine lv_goto (pc := 29) (tgt := 2) hx hb dX0_fadeStalls_29 (by decide) ?_
        exact ih _ _ _ _ _ P (lv_sub hl [1, 0] rfl) (hI1 _ (Option.some.inj hF).symm)
  exact hL1 _ _ _ _ _ _ P (lv_sub hl [1, 0] rfl) hLp1
def F_X7_add (h : Hp) (a0 : Nat) (vp1 : Int32) (vp2 : Int32) (vp3 : Int32) : Option (Int32 × Hp) :=
(gI h a0 7 4).bind fun v1 =>
(gR h a0 7 0).bind fun a2 =>
(sI h a2 v1 vp1).bind fun h3 =>
(gR h3 a0 7 1).bind fun a4 =>
(sI h3 a4 v1 vp2).bind fun h5 =>
(gR h5 a0 7 2).bind fun a6 =>
(sI h5 a6 v1 vp3).bind fun h7 =>
(gR h7 a0 7 3).bind fun a8 =>
(sI h7 a8 v1 0).bind fun h9 =>
(gI h9 a0 7 4).bind fun v10 =>
(pI h9 a0 7 4 (v10 + 1)).bind fun h11 =>
some (v1, h11)
set_option maxRecDepth 100000 in
set_option maxHeartbeats 4000000 in
theorem c_X7_add (l : Launch) (G : GG) (B : Nat) (h : Hp) (a0 : Nat) (vp1 : Int32) (vp2 : Int32) (vp3 : Int32) (r0 : Int32) (hr : Hp) (hF : F_X7_add h a0 vp1 vp2 vp3 = some (r0, hr)) : CI l yX7_add cX7_add 5 .int 0 0 0 0 G B h [.ref (B + a0), .int vp1, .int vp2, .int vp3] r0 hr := by
  refine ent_i rfl (Nat.le_of_ble_eq_true rfl) ?_
  intro p e s m args below meth c ls Q CX hnm hret P hl
  have CX : Cxt p m c cX7_add 5 s args RX7 G B := CX
  obtain ⟨⟨hx, hb, hml, hown, hts⟩, -, -⟩ := id CX
  replace hl : lv_has ls 5 [(0, .ref (B + a0)), (1, .int vp1), (2, .int vp2), (3, .int vp3)] := hl
  generalize s.heap = H at P ⊢
  generalize ([] : List Loc) = locs at P ⊢
  unfold F_X7_add at hF
  refine lv_aload_n (pc := 0) hx hb dX7_add_0 rfl (lv_at hl 0 rfl) ?_
  refine r_gI (pc := 1) CX P hF fl_X7_30 dX7_add_1 (fun v1 hF => ?_)
  refine lv_istore (pc := 4) hx hb dX7_add_4 hl (by decide) rfl (fun ls hl => ?_)
  replace hl : lv_has ls 5 [(4, .int v1), (0, .ref (B + a0)), (1, .int vp1), (2, .int vp2), (3, .int vp3)] := hl
  refine lv_aload_n (pc := 6) hx hb dX7_add_6 rfl (lv_at hl 1 rfl) ?_
  refine r_gR (pc := 7) CX P hF fl_X7_9 dX7_add_7 (fun a2 hF => ?_)
  refine lv_iload (pc := 10) hx hb dX7_add_10 (lv_at hl 0 rfl) ?_
  refine lv_iload_n (pc := 12) hx hb dX7_add_12 rfl (lv_at hl 2 rfl) ?_
  refine r_sI (pc := 13) CX P hF dX7_add_13 (fun h3 H locs P hF => ?_)
  refine lv_aload_n (pc := 14) hx hb dX7_add_14 rfl (lv_at hl 1 rfl) ?_
  refine r_gR (pc := 15) CX P hF fl_X7_15 dX7_add_15 (fun a4 hF => ?_)
  refine lv_iload (pc := 18) hx hb dX7_add_18 (lv_at hl 0 rfl) ?_
  refine lv_iload_n (pc := 20) hx hb dX7_add_20 rfl (lv_at hl 3 rfl) ?_
  refine r_sI (pc := 21) CX P hF dX7_add_21 (fun h5 H locs P hF => ?_)
  refine lv_aload_n (pc := 22) hx hb dX7_add_22 rfl (lv_at hl 1 rfl) ?_
  refine r_gR (pc := 23) CX P hF fl_X7_18 dX7_add_23 (fun a6 hF => ?_)
  refine lv_iload (pc := 26) hx hb dX7_add_26 (lv_at hl 0 rfl) ?_
  refine lv_iload_n (pc := 28) hx hb dX7_add_28 rfl (lv_at hl 4 rfl) ?_
  refine r_sI (pc := 29) CX P hF dX7_add_29 (fun h7 H locs P hF => ?_)
  refine lv_aload_n (pc := 30) hx hb dX7_add_30 rfl (lv_at hl 1 rfl) ?_
  refine r_gR (pc := 31) CX P hF fl_X7_21 dX7_add_31 (fun a8 hF => ?_)
  refine lv_iload (pc := 34) hx hb dX7_add_34 (lv_at hl 0 rfl) ?_
  refine lv_iconst (pc := 36) (v := 0) hx hb dX7_add_36 (by decide) ?_
  refine r_sI (pc := 37) CX P hF dX7_add_37 (fun h9 H locs P hF => ?_)
  refine lv_aload_n (pc := 38) hx hb dX7_add_38 rfl (lv_at hl 1 rfl) ?_
  refine lv_dup (pc := 39) hx hb dX7_add_39 rfl ?_
  refine r_gI (pc := 40) CX P hF fl_X7_30 dX7_add_40 (fun v10 hF => ?_)
  refine lv_iconst (pc := 43) (v := 1) hx hb dX7_add_43 (by decide) ?_
  refine lv_iadd (pc := 44) hx hb dX7_add_44 ?_
  refine r_pI (pc := 45) CX P hF fl_X7_30 dX7_add_45 (fun h11 H locs P hF => ?_)
  refine lv_iload (pc := 48) hx hb dX7_add_48 (lv_at hl 0 rfl) ?_
  cases hF
  exact hret _ _ _ _ P rfl dX7_add_50
