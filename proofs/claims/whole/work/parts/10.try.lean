def F_X6_bitsBelow_L6 (h6 : Hp) (a3 : Nat) (v4 : Int32) (v5 : Int32) : Option ((Int32 × Int32) ⊕ (Int32)) :=
(gI h6 a3 6 2).bind fun v7 =>
if v7 ≤ v5 then (
some (.inr v4)) else (
(gR h6 a3 6 0).bind fun a8 =>
(gR h6 a3 6 1).bind fun a9 =>
(aI h6 a9 v5).bind fun v10 =>
(aI h6 a8 v10).bind fun v11 =>
if ((v4 >>> (v11 &&& 31)) &&& 1) = 1 then (
(gR h6 a3 6 1).bind fun a13 =>
(aI h6 a13 v5).bind fun v14 =>
bl (v4 ||| (1 <<< (v14 &&& 31))) fun v15 =>
bl (v5 + 1) fun v16 =>
some (.inl (v15, v16))) else (
bl (v5 + 1) fun v12 =>
some (.inl (v4, v12))))
def F_X6_bitsBelow (h : Hp) (a0 : Nat) (vp1 : Int32) : Option (Int32) :=
bl (1 <<< (vp1 &&& 31)) fun v1 =>
(loopF (fun x => F_X6_bitsBelow_L6 h a0 x.1 x.2) 6000 (v1, 1)).bind fun v17 =>
some v17
set_option maxRecDepth 100000 in
set_option maxHeartbeats 4000000 in
theorem c_X6_bitsBelow (l : Launch) (G : GG) (B : Nat) (h : Hp) (a0 : Nat) (vp1 : Int32) (r0 : Int32) (hF : F_X6_bitsBelow h a0 vp1 = some r0) : CI l yX6_bitsBelow cX6_bitsBelow 4 .int 0 0 0 0 G B h [.ref (B + a0), .int vp1] r0 h := by
  refine ent_i rfl (Nat.le_of_ble_eq_true rfl) ?_
  intro p e s m args below meth c ls Q CX hnm hret P hl
  have CX : Cxt p m c cX6_bitsBelow 4 s args RX6 G B := CX
  obtain ⟨⟨hx, hb, hml, hown, hts⟩, -, -⟩ := id CX
  replace hl : lv_has ls 4 [(0, .ref (B + a0)), (1, .int vp1)] := hl
  generalize s.heap = H at P ⊢
  generalize ([] : List Loc) = locs at P ⊢
  unfold F_X6_bitsBelow at hF
  refine lv_iconst (pc := 0) (v := 1) hx hb dX6_bitsBelow_0 (by decide) ?_
  refine lv_iload_n (pc := 1) hx hb dX6_bitsBelow_1 rfl (lv_at hl 1 rfl) ?_
  refine lv_ishl (pc := 2) hx hb dX6_bitsBelow_2 ?_
  refine lv_topi (fun v1 ev1 => ?_)
  replace hF := bl_e hF ev1
  refine lv_istore_n (pc := 3) hx hb dX6_bitsBelow_3 rfl hl (by decide) rfl (fun ls hl => ?_)
  replace hl : lv_has ls 4 [(2, .int v1), (0, .ref (B + a0)), (1, .int vp1)] := hl
  refine lv_iconst (pc := 4) (v := 1) hx hb dX6_bitsBelow_4 (by decide) ?_
  refine lv_istore_n (pc := 5) hx hb dX6_bitsBelow_5 rfl hl (by decide) rfl (fun ls hl => ?_)
  replace hl : lv_has ls 4 [(3, .int 1), (2, .int v1), (0, .ref (B + a0)), (1, .int vp1)] := hl
  obtain ⟨r2, hLp2, hK2⟩ := bd_some hF
  have hX2 : ∀ (v17 : Int32) (H : Heap) (locs : List Loc) (ls : Array Slot), Pic G B h s H locs → lv_has ls 4 [(2, .int v17)] → v17 = r2 → W p l e (rmM 0 0 0 0) s m args below meth c H locs 0 0 Q (F0 m 50 ls []) := by
    intro v17 H locs ls P hl er
    subst er
    have hF := hK2
    refine lv_iload_n (pc := 50) hx hb dX6_bitsBelow_50 rfl (lv_at hl 0 rfl) ?_
    cases hF
    exact hret _ _ _ _ P rfl dX6_bitsBelow_51
  have hL2 : ∀ (n : Nat) (v4 : Int32) (v5 : Int32) (H : Heap) (locs : List Loc) (ls : Array Slot), Pic G B h s H locs → lv_has ls 4 [(0, .ref (B + a0)), (2, .int v4), (3, .int v5)] → loopF (fun x => F_X6_bitsBelow_L6 h a0 x.1 x.2) n (v4, v5) = some r2 → W p l e (rmM 0 0 0 0) s m args below meth c H locs 0 0 Q (F0 m 6 ls []) := by
    intro n
    induction n with
    | zero => intro v4 v5 H locs ls P hl hq; cases hq
    | succ n ih =>
      intro v4 v5 H locs ls P hl hq
      obtain ⟨z2, hS2, hI2, hR2⟩ := loop_some hq
      have hF : F_X6_bitsBelow_L6 h a0 v4 v5 = some z2 := hS2
      unfold F_X6_bitsBelow_L6 at hF
      refine lv_iload_n (pc := 6) hx hb dX6_bitsBelow_6 rfl (lv_at hl 2 rfl) ?_
      refine lv_aload_n (pc := 7) hx hb dX6_bitsBelow_7 rfl (lv_at hl 0 rfl) ?_
      refine r_gI (pc := 8) CX P hF fl_X6_54 dX6_bitsBelow_8 (fun v7 hF => ?_)
      refine lv_icmp_ge (pc := 11) (tgt := 50) hx hb dX6_bitsBelow_11 (by decide) (fun hc => ?_) (fun hc => ?_)
      · rw [if_pos hc] at hF
        exact hX2 _ _ _ _ P (lv_sub hl [1] rfl) (hR2 _ (Option.some.inj hF).symm)
      · rw [if_neg hc] at hF
        refine lv_iload_n (pc := 14) hx hb dX6_bitsBelow_14 rfl (lv_at hl 1 rfl) ?_
        refine lv_aload_n (pc := 15) hx hb dX6_bitsBelow_15 rfl (lv_at hl 0 rfl) ?_
        refine r_gR (pc := 16) CX P hF fl_X6_9 dX6_bitsBelow_16 (fun a8 hF => ?_)
        refine lv_aload_n (pc := 19) hx hb dX6_bitsBelow_19 rfl (lv_at hl 0 rfl) ?_
        refine r_gR (pc := 20) CX P hF fl_X6_15 dX6_bitsBelow_20 (fun a9 hF => ?_)
        refine lv_iload_n (pc := 23) hx hb dX6_bitsBelow_23 rfl (lv_at hl 2 rfl) ?_
        refine r_aI (pc := 24) CX P hF dX6_bitsBelow_24 (fun v10 hF => ?_)
        refine r_aI (pc := 25) CX P hF dX6_bitsBelow_25 (fun v11 hF => ?_)
        refine lv_ishr (pc := 26) hx hb dX6_bitsBelow_26 ?_
        refine lv_iconst (pc := 27) (v := 1) hx hb dX6_bitsBelow_27 (by decide) ?_
        refine lv_iand (pc := 28) hx hb dX6_bitsBelow_28 ?_
        refine lv_iconst (pc := 29) (v := 1) hx hb dX6_bitsBelow_29 (by decide) ?_
        refine lv_icmp_ne (pc := 30) (tgt := 44) hx hb dX6_bitsBelow_30 (by decide) (fun hc => ?_) (fun hc => ?_)
        · rw [if_neg hc] at hF
          obtain ⟨v12, ev12, hF⟩ := bl_o hF
          refine lv_iinc (pc := 44) (k := 2) (v := v12) hx hb dX6_bitsBelow_44 hl rfl ev12 (by decide) rfl (fun ls hl => ?_)
          replace hl : lv_has ls 4 [(3, .int v12), (0, .ref (B + a0)), (2, .int v4)] := hl
          refine lv_goto (pc := 47) (tgt := 6) hx hb dX6_bitsBelow_47 (by decide) ?_
          exact ih _ _ _ _ _ P (lv_sub hl [1, 2, 0] rfl) (hI2 _ (Option.some.inj hF).symm)
        · rw [if_pos hc] at hF
          refine lv_iload_n (pc := 33) hx hb dX6_bitsBelow_33 rfl (lv_at hl 1 rfl) ?_
          refine lv_iconst (pc := 34) (v := 1) hx hb dX6_bitsBelow_34 (by decide) ?_
          refine lv_aload_n (pc := 35) hx hb dX6_bitsBelow_35 rfl (lv_at hl 0 rfl) ?_
          refine r_gR (pc := 36) CX P hF fl_X6_15 dX6_bitsBelow_36 (fun a13 hF => ?_)
          refine lv_iload_n (pc := 39) hx hb dX6_bitsBelow_39 rfl (lv_at hl 2 rfl) ?_
          refine r_aI (pc := 40) CX P hF dX6_bitsBelow_40 (fun v14 hF => ?_)
          refine lv_ishl (pc := 41) hx hb dX6_bitsBelow_41 ?_
          refine lv_ior (pc := 42) hx hb dX6_bitsBelow_42 ?_
          refine lv_topi (fun v15 ev15 => ?_)
          replace hF := bl_e hF ev15
          refine lv_istore_n (pc := 43) hx hb dX6_bitsBelow_43 rfl hl (by decide) rfl (fun ls hl => ?_)
          replace hl : lv_has ls 4 [(2, .int v15), (0, .ref (B + a0)), (3, .int v5)] := hl
          obtain ⟨v16, ev16, hF⟩ := bl_o hF
          refine lv_iinc (pc := 44) (k := 2) (v := v16) hx hb dX6_bitsBelow_44 hl rfl ev16 (by decide) rfl (fun ls hl => ?_)
          replace hl : lv_has ls 4 [(3, .int v16), (2, .int v15), (0, .ref (B + a0))] := hl
          refine lv_goto (pc := 47) (tgt := 6) hx hb dX6_bitsBelow_47 (by decide) ?_
          exact ih _ _ _ _ _ P (lv_sub hl [2, 1, 0] rfl) (hI2 _ (Option.some.inj hF).symm)
  exact hL2 _ _ _ _ _ _ P (lv_sub hl [2, 1, 0] rfl) hLp2
def F_X6_has (h : Hp) (a0 : Nat) (vp1 : Int32) : Option (Int32) :=
if vp1 < 0 then (
some 0) else (
if 12 ≤ vp1 then (
some 0) else (
(gR h a0 6 0).bind fun a1 =>
(aI h a1 vp1).bind fun v2 =>
if v2 = (-2) then (
some 0) else (
some 1)))
set_option maxRecDepth 100000 in
set_option maxHeartbeats 4000000 in
theorem c_X6_has (l : Launch) (G : GG) (B : Nat) (h : Hp) (a0 : Nat) (vp1 : Int32) (r0 : Int32) (hF : F_X6_has h a0 vp1 = some r0) : CI l yX6_has cX6_has 2 .boolean 0 0 0 0 G B h [.ref (B + a0), .int vp1] r0 h := by
  refine ent_i rfl (Nat.le_of_ble_eq_true rfl) ?_
  intro p e s m args below meth c ls Q CX hnm hret P hl
  have CX : Cxt p m c cX6_has 2 s args RX6 G B := CX
  obtain ⟨⟨hx, hb, hml, hown, hts⟩, -, -⟩ := id CX
  replace hl : lv_has ls 2 [(0, .ref (B + a0)), (1, .int vp1)] := hl
  generalize s.heap = H at P ⊢
  generalize ([] : List Loc) = locs at P ⊢
  unfold F_X6_has at hF
  refine lv_iload_n (pc := 0) hx hb dX6_has_0 rfl (lv_at hl 1 rfl) ?_
  refine lv_if_lt (pc := 1) (tgt := 25) hx hb dX6_has_1 (by decide) (fun hc => ?_) (fun hc => ?_)
  · rw [if_pos hc] at hF
    refine lv_iconst (pc := 25) (v := 0) hx hb dX6_has_25 (by decide) ?_
    cases hF
    exact hret _ _ _ _ P rfl dX6_has_26
  · rw [if_neg hc] at hF
    refine lv_iload_n (pc := 4) hx hb dX6_has_4 rfl (lv_at hl 1 rfl) ?_
    refine lv_bipush (pc := 5) (v := 12) hx hb dX6_has_5 (by decide) ?_
    refine lv_icmp_ge (pc := 7) (tgt := 25) hx hb dX6_has_7 (by decide) (fun hc => ?_) (fun hc => ?_)
    · rw [if_pos hc] at hF
      refine lv_iconst (pc := 25) (v := 0) hx hb dX6_has_25 (by decide) ?_
      cases hF
      exact hret _ _ _ _ P rfl dX6_has_26
    · rw [if_neg hc] at hF
      refine lv_aload_n (pc := 10) hx hb dX6_has_10 rfl (lv_at hl 0 rfl) ?_
      refine r_gR (pc := 11) CX P hF fl_X6_9 dX6_has_11 (fun a1 hF => ?_)
      refine lv_iload_n (pc := 14) hx hb dX6_has_14 rfl (lv_at hl 1 rfl) ?_
      refine r_aI (pc := 15) CX P hF dX6_has_15 (fun v2 hF => ?_)
      refine lv_bipush (pc := 16) (v := (-2)) hx hb dX6_has_16 (by decide) ?_
      refine lv_icmp_eq (pc := 18) (tgt := 25) hx hb dX6_has_18 (by decide) (fun hc => ?_) (fun hc => ?_)
      · rw [if_pos hc] at hF
        refine lv_iconst (pc := 25) (v := 0) hx hb dX6_has_25 (by decide) ?_
        cases hF
        exact hret _ _ _ _ P rfl dX6_has_26
      · rw [if_neg hc] at hF
        refine lv_iconst (pc := 21) (v := 1) hx hb dX6_has_21 (by decide) ?_
        refine lv_goto (pc := 22) (tgt := 26) hx hb dX6_has_22 (by decide) ?_
        cases hF
        exact hret _ _ _ _ P rfl dX6_has_26
def F_X6_addTotal_L5 (a2 : Nat) (v3 : Int32) (v4 : Int32) (v5 : Int32) (h6 : Hp) : Option ((Int32 × Int32 × Hp) ⊕ (Hp)) :=
if v4 = (-1) then (
some (.inr h6)) else (
if 12 ≤ v5 then (
some (.inr h6)) else (
(gR h6 a2 6 5).bind fun a7 =>
(aI h6 a7 v4).bind fun v8 =>
(sI h6 a7 v4 (v8 + v3)).bind fun h9 =>
(gR h9 a2 6 0).bind fun a10 =>
(aI h9 a10 v4).bind fun v11 =>
bl (v5 + 1) fun v12 =>
some (.inl (v11, v12, h9))))
def F_X6_addTotal (h : Hp) (a0 : Nat) (vp1 : Int32) (vp2 : Int32) : Option (Hp) :=
(loopF (fun x => F_X6_addTotal_L5 a0 vp2 x.1 x.2.1 x.2.2) 6000 (vp1, 0, h)).bind fun h13 =>
some h13
set_option maxRecDepth 100000 in
set_option maxHeartbeats 4000000 in
theorem c_X6_addTotal (l : Launch) (G : GG) (B : Nat) (h : Hp) (a0 : Nat) (vp1 : Int32) (vp2 : Int32) (hr : Hp) (hF : F_X6_addTotal h a0 vp1 vp2 = some hr) : CV l yX6_addTotal cX6_addTotal 5 0 0 0 0 G B h [.ref (B + a0), .int vp1, .int vp2] hr := by
  refine ent_v rfl (Nat.le_of_ble_eq_true rfl) ?_
  intro p e s m args below meth c ls Q CX hnm hret P hl
  have CX : Cxt p m c cX6_addTotal 5 s args RX6 G B := CX
  obtain ⟨⟨hx, hb, hml, hown, hts⟩, -, -⟩ := id CX
  replace hl : lv_has ls 5 [(0, .ref (B + a0)), (1, .int vp1), (2, .int vp2)] := hl
  generalize s.heap = H at P ⊢
  generalize ([] : List Loc) = locs at P ⊢
  unfold F_X6_addTotal at hF
  refine lv_iload_n (pc := 0) hx hb dX6_addTotal_0 rfl (lv_at hl 1 rfl) ?_
  refine lv_istore_n (pc := 1) hx hb dX6_addTotal_1 rfl hl (by decide) rfl (fun ls hl => ?_)
  replace hl : lv_has ls 5 [(3, .int vp1), (0, .ref (B + a0)), (1, .int vp1), (2, .int vp2)] := hl
  refine lv_iconst (pc := 2) (v := 0) hx hb dX6_addTotal_2 (by decide) ?_
  refine lv_istore (pc := 3) hx hb dX6_addTotal_3 hl (by decide) rfl (fun ls hl => ?_)
  replace hl : lv_has ls 5 [(4, .int 0), (3, .int vp1), (0, .ref (B + a0)), (1, .int vp1), (2, .int vp2)] := hl
  obtain ⟨r1, hLp1, hK1⟩ := bd_some hF
  have hX1 : ∀ (h13 : Hp) (H : Heap) (locs : List Loc) (ls : Array Slot), Pic G B h13 s H locs → lv_has ls 5 [] → h13 = r1 → W p l e (rmM 0 0 0 0) s m args below meth c H locs 0 0 Q (F0 m 40 ls []) := by
    intro h13 H locs ls P hl er
    subst er
    have hF := hK1
    cases hF
    exact hret _ _ _ _ P dX6_addTotal_40
  have hL1 : ∀ (n : Nat) (v4 : Int32) (v5 : Int32) (h6 : Hp) (H : Heap) (locs : List Loc) (ls : Array Slot), Pic G B h6 s H locs → lv_has ls 5 [(0, .ref (B + a0)), (2, .int vp2), (3, .int v4), (4, .int v5)] → loopF (fun x => F_X6_addTotal_L5 a0 vp2 x.1 x.2.1 x.2.2) n (v4, v5, h6) = some r1 → W p l e (rmM 0 0 0 0) s m args below meth c H locs 0 0 Q (F0 m 5 ls []) := by
    intro n
    induction n with
    | zero => intro v4 v5 h6 H locs ls P hl hq; cases hq
    | succ n ih =>
      intro v4 v5 h6 H locs ls P hl hq
      obtain ⟨z1, hS1, hI1, hR1⟩ := loop_some hq
      have hF : F_X6_addTotal_L5 a0 vp2 v4 v5 h6 = some z1 := hS1
      unfold F_X6_addTotal_L5 at hF
      refine lv_iload_n (pc := 5) hx hb dX6_addTotal_5 rfl (lv_at hl 2 rfl) ?_
      refine lv_iconst (pc := 6) (v := (-1)) hx hb dX6_addTotal_6 (by decide) ?_
      refine lv_icmp_eq (pc := 7) (tgt := 40) hx hb dX6_addTotal_7 (by decide) (fun hc => ?_) (fun hc => ?_)
      · rw [if_pos hc] at hF
        exact hX1 _ _ _ _ P (lv_sub hl [] rfl) (hR1 _ (Option.some.inj hF).symm)
      · rw [if_neg hc] at hF
        refine lv_iload (pc := 10) hx hb dX6_addTotal_10 (lv_at hl 3 rfl) ?_
        refine lv_bipush (pc := 12) (v := 12) hx hb dX6_addTotal_12 (by decide) ?_
        refine lv_icmp_ge (pc := 14) (tgt := 40) hx hb dX6_addTotal_14 (by decide) (fun hc => ?_) (fun hc => ?_)
        · rw [if_pos hc] at hF
          exact hX1 _ _ _ _ P (lv_sub hl [] rfl) (hR1 _ (Option.some.inj hF).symm)
        · rw [if_neg hc] at hF
          refine lv_aload_n (pc := 17) hx hb dX6_addTotal_17 rfl (lv_at hl 0 rfl) ?_
          refine r_gR (pc := 18) CX P hF fl_X6_26 dX6_addTotal_18 (fun a7 hF => ?_)
          refine lv_iload_n (pc := 21) hx hb dX6_addTotal_21 rfl (lv_at hl 2 rfl) ?_
          refine lv_dup2_11 (pc := 22) hx hb dX6_addTotal_22 rfl rfl ?_
          refine r_aI (pc := 23) CX P hF dX6_addTotal_23 (fun v8 hF => ?_)
          refine lv_iload_n (pc := 24) hx hb dX6_addTotal_24 rfl (lv_at hl 1 rfl) ?_
          refine lv_iadd (pc := 25) hx hb dX6_addTotal_25 ?_
          refine r_sI (pc := 26) CX P hF dX6_addTotal_26 (fun h9 H locs P hF => ?_)
          refine lv_aload_n (pc := 27) hx hb dX6_addTotal_27 rfl (lv_at hl 0 rfl) ?_
          refine r_gR (pc := 28) CX P hF fl_X6_9 dX6_addTotal_28 (fun a10 hF => ?_)
          refine lv_iload_n (pc := 31) hx hb dX6_addTotal_31 rfl (lv_at hl 2 rfl) ?_
          refine r_aI (pc := 32) CX P hF dX6_addTotal_32 (fun v11 hF => ?_)
          refine lv_istore_n (pc := 33) hx hb dX6_addTotal_33 rfl hl (by decide) rfl (fun ls hl => ?_)
          replace hl : lv_has ls 5 [(3, .int v11), (0, .ref (B + a0)), (2, .int vp2), (4, .int v5)] := hl
          obtain ⟨v12, ev12, hF⟩ := bl_o hF
          refine lv_iinc (pc := 34) (k := 3) (v := v12) hx hb dX6_addTotal_34 hl rfl ev12 (by decide) rfl (fun ls hl => ?_)
          replace hl : lv_has ls 5 [(4, .int v12), (3, .int v11), (0, .ref (B + a0)), (2, .int vp2)] := hl
          refine lv_goto (pc := 37) (tgt := 5) hx hb dX6_addTotal_37 (by decide) ?_
          exact ih _ _ _ _ _ _ P (lv_sub hl [2, 3, 1, 0] rfl) (hI1 _ (Option.some.inj hF).symm)
  exact hL1 _ _ _ _ _ _ _ P (lv_sub hl [2, 4, 1, 0] rfl) hLp1
def F_X6_addStock (h : Hp) (a0 : Nat) (vp1 : Int32) (vp2 : Int32) : Option (Hp) :=
(gR h a0 6 4).bind fun a1 =>
(aI h a1 vp1).bind fun v2 =>
(sI h a1 vp1 (v2 + vp2)).bind fun h3 =>
(cO h3 a0 6 (F_X6_addTotal h3 a0 vp1 vp2)).bind fun h4 =>
some h4
set_option maxRecDepth 100000 in
set_option maxHeartbeats 4000000 in
theorem c_X6_addStock (l : Launch) (G : GG) (B : Nat) (h : Hp) (a0 : Nat) (vp1 : Int32) (vp2 : Int32) (hr : Hp) (hF : F_X6_addStock h a0 vp1 vp2 = some hr) : CV l yX6_addStock cX6_addStock 3 1 24 0 0 G B h [.ref (B + a0), .int vp1, .int vp2] hr := by
  refine ent_v rfl (Nat.le_of_ble_eq_true rfl) ?_
  intro p e s m args below meth c ls Q CX hnm hret P hl
  have CX : Cxt p m c cX6_addStock 3 s args RX6 G B := CX
  obtain ⟨⟨hx, hb, hml, hown, hts⟩, -, -⟩ := id CX
  replace hl : lv_has ls 3 [(0, .ref (B + a0)), (1, .int vp1), (2, .int vp2)] := hl
  generalize s.heap = H at P ⊢
  generalize ([] : List Loc) = locs at P ⊢
  unfold F_X6_addStock at hF
  refine lv_aload_n (pc := 0) hx hb dX6_addStock_0 rfl (lv_at hl 0 rfl) ?_
  refine r_gR (pc := 1) CX P hF fl_X6_23 dX6_addStock_1 (fun a1 hF => ?_)
  refine lv_iload_n (pc := 4) hx hb dX6_addStock_4 rfl (lv_at hl 1 rfl) ?_
  refine lv_dup2_11 (pc := 5) hx hb dX6_addStock_5 rfl rfl ?_
  refine r_aI (pc := 6) CX P hF dX6_addStock_6 (fun v2 hF => ?_)
  refine lv_iload_n (pc := 7) hx hb dX6_addStock_7 rfl (lv_at hl 2 rfl) ?_
  refine lv_iadd (pc := 8) hx hb dX6_addStock_8 ?_
  refine r_sI (pc := 9) CX P hF dX6_addStock_9 (fun h3 H locs P hF => ?_)
  refine lv_aload_n (pc := 10) hx hb dX6_addStock_10 rfl (lv_at hl 0 rfl) ?_
  refine lv_iload_n (pc := 11) hx hb dX6_addStock_11 rfl (lv_at hl 1 rfl) ?_
  refine lv_iload_n (pc := 12) hx hb dX6_addStock_12 rfl (lv_at hl 2 rfl) ?_
  refine r_cVv (pc := 13) (As := [.int vp1, .int vp2]) (rest := []) CX P hl.1 hF kv_X6_74 (fun h1 q => c_X6_addTotal l G B _ _ _ _ _ q) rfl rfl ⟨Nat.le_of_ble_eq_true rfl, Nat.le_of_ble_eq_true rfl⟩ (Nat.le_of_ble_eq_true rfl) ⟨Nat.le_of_ble_eq_true rfl, Nat.le_of_ble_eq_true rfl⟩ dX6_addStock_13 (fun h4 H locs P hF => ?_)
  cases hF
  exact hret _ _ _ _ P dX6_addStock_16
def F_X6_emptyStocks_L11 (a3 : Nat) (v4 : Int32) (v5 : Int32) (v6 : Int32) (h7 : Hp) : Option ((Int32 × Int32 × Hp) ⊕ (Int32 × Hp)) :=
if 12 ≤ v6 then (
some (.inr (v5, h7))) else (
if ((v4 >>> (v6 &&& 31)) &&& 1) = 1 then (
(gR h7 a3 6 4).bind fun a9 =>
(aI h7 a9 v6).bind fun v10 =>
if v10 ≤ 0 then (
bl (v6 + 1) fun v11 =>
some (.inl (v5, v11, h7))) else (
(gR h7 a3 6 4).bind fun a12 =>
(aI h7 a12 v6).bind fun v13 =>
bl (v5 + v13) fun v14 =>
(gR h7 a3 6 4).bind fun a15 =>
(aI h7 a15 v6).bind fun v16 =>
(cO h7 a3 6 (F_X6_addStock h7 a3 v6 (-v16))).bind fun h17 =>
bl (v6 + 1) fun v18 =>
some (.inl (v14, v18, h17)))) else (
bl (v6 + 1) fun v8 =>
some (.inl (v5, v8, h7))))
def F_X6_emptyStocks (h : Hp) (a0 : Nat) (vp1 : Int32) : Option (Int32 × Hp) :=
(cO h a0 6 (F_X6_bitsBelow h a0 vp1)).bind fun v1 =>
(loopF (fun x => F_X6_emptyStocks_L11 a0 v1 x.1 x.2.1 x.2.2) 6000 (0, 0, h)).bind fun q2 =>
bl q2.1 fun v19 =>
bl q2.2 fun h20 =>
some (v19, h20)
set_option maxRecDepth 100000 in
set_option maxHeartbeats 4000000 in
theorem c_X6_emptyStocks (l : Launch) (G : GG) (B : Nat) (h : Hp) (a0 : Nat) (vp1 : Int32) (r0 : Int32) (hr : Hp) (hF : F_X6_emptyStocks h a0 vp1 = some (r0, hr)) : CI l yX6_emptyStocks cX6_emptyStocks 5 .int 2 46 0 0 G B h [.ref (B + a0), .int vp1] r0 hr := by
  refine ent_i rfl (Nat.le_of_ble_eq_true rfl) ?_
  intro p e s m args below meth c ls Q CX hnm hret P hl
  have CX : Cxt p m c cX6_emptyStocks 5 s args RX6 G B := CX
  obtain ⟨⟨hx, hb, hml, hown, hts⟩, -, -⟩ := id CX
  replace hl : lv_has ls 5 [(0, .ref (B + a0)), (1, .int vp1)] := hl
  generalize s.heap = H at P ⊢
  generalize ([] : List Loc) = locs at P ⊢
  unfold F_X6_emptyStocks at hF
  refine lv_aload_n (pc := 0) hx hb dX6_emptyStocks_0 rfl (lv_at hl 0 rfl) ?_
  refine lv_iload_n (pc := 1) hx hb dX6_emptyStocks_1 rfl (lv_at hl 1 rfl) ?_
  refine r_cVp (pc := 2) (As := [.int vp1]) (rest := []) CX P hl.1 hF kv_X6_77 (fun r q => c_X6_bitsBelow l G B _ _ _ _ q) rfl rfl ⟨Nat.le_of_ble_eq_true rfl, Nat.le_of_ble_eq_true rfl⟩ (Nat.le_of_ble_eq_true rfl) ⟨Nat.le_of_ble_eq_true rfl, Nat.le_of_ble_eq_true rfl⟩ dX6_emptyStocks_2 (fun v1 H locs P hF => ?_)
  refine lv_istore_n (pc := 5) hx hb dX6_emptyStocks_5 rfl hl (by decide) rfl (fun ls hl => ?_)
  replace hl : lv_has ls 5 [(2, .int v1), (0, .ref (B + a0)), (1, .int vp1)] := hl
  refine lv_iconst (pc := 6) (v := 0) hx hb dX6_emptyStocks_6 (by decide) ?_
  refine lv_istore_n (pc := 7) hx hb dX6_emptyStocks_7 rfl hl (by decide) rfl (fun ls hl => ?_)
  replace hl : lv_has ls 5 [(3, .int 0), (2, .int v1), (0, .ref (B + a0)), (1, .int vp1)] := hl
  refine lv_iconst (pc := 8) (v := 0) hx hb dX6_emptyStocks_8 (by decide) ?_
  refine lv_istore (pc := 9) hx hb dX6_emptyStocks_9 hl (by decide) rfl (fun ls hl => ?_)
  replace hl : lv_has ls 5 [(4, .int 0), (3, .int 0), (2, .int v1), (0, .ref (B + a0)), (1, .int vp1)] := hl
  obtain ⟨r2, hLp2, hK2⟩ := bd_some hF
  have hX2 : ∀ (v19 : Int32) (h20 : Hp) (H : Heap) (locs : List Loc) (ls : Array Slot), Pic G B h20 s H locs → lv_has ls 5 [(3, .int v19)] → (v19, h20) = r2 → W p l e (rmM 2 46 0 0) s m args below meth c H locs 0 0 Q (F0 m 68 ls []) := by
    intro v19 h20 H locs ls P hl er
    subst er
    have hF := hK2
    replace hF := bl_i hF
    replace hF := bl_i hF
    dsimp only at hF
    refine lv_iload_n (pc := 68) hx hb dX6_emptyStocks_68 rfl (lv_at hl 0 rfl) ?_
    cases hF
    exact hret _ _ _ _ P rfl dX6_emptyStocks_69
  have hL2 : ∀ (n : Nat) (v5 : Int32) (v6 : Int32) (h7 : Hp) (H : Heap) (locs : List Loc) (ls : Array Slot), Pic G B h7 s H locs → lv_has ls 5 [(0, .ref (B + a0)), (2, .int v1), (3, .int v5), (4, .int v6)] → loopF (fun x => F_X6_emptyStocks_L11 a0 v1 x.1 x.2.1 x.2.2) n (v5, v6, h7) = some r2 → W p l e (rmM 2 46 0 0) s m args below meth c H locs 0 0 Q (F0 m 11 ls []) := by
    intro n
    induction n with
    | zero => intro v5 v6 h7 H locs ls P hl hq; cases hq
    | succ n ih =>
      intro v5 v6 h7 H locs ls P hl hq
      obtain ⟨z2, hS2, hI2, hR2⟩ := loop_some hq
      have hF : F_X6_emptyStocks_L11 a0 v1 v5 v6 h7 = some z2 := hS2
      unfold F_X6_emptyStocks_L11 at hF
      refine lv_iload (pc := 11) hx hb dX6_emptyStocks_11 (lv_at hl 3 rfl) ?_
      refine lv_bipush (pc := 13) (v := 12) hx hb dX6_emptyStocks_13 (by decide) ?_
      refine lv_icmp_ge (pc := 15) (tgt := 68) hx hb dX6_emptyStocks_15 (by decide) (fun hc => ?_) (fun hc => ?_)
      · rw [if_pos hc] at hF
        exact hX2 _ _ _ _ _ P (lv_sub hl [2] rfl) (hR2 _ (Option.some.inj hF).symm)
      · rw [if_neg hc] at hF
        refine lv_iload_n (pc := 18) hx hb dX6_emptyStocks_18 rfl (lv_at hl 1 rfl) ?_
        refine lv_iload (pc := 19) hx hb dX6_emptyStocks_19 (lv_at hl 3 rfl) ?_
        refine lv_ishr (pc := 21) hx hb dX6_emptyStocks_21 ?_
        refine lv_iconst (pc := 22) (v := 1) hx hb dX6_emptyStocks_22 (by decide) ?_
        refine lv_iand (pc := 23) hx hb dX6_emptyStocks_23 ?_
        refine lv_iconst (pc := 24) (v := 1) hx hb dX6_emptyStocks_24 (by decide) ?_
        refine lv_icmp_ne (pc := 25) (tgt := 62) hx hb dX6_emptyStocks_25 (by decide) (fun hc => ?_) (fun hc => ?_)
        · rw [if_neg hc] at hF
          obtain ⟨v8, ev8, hF⟩ := bl_o hF
          refine lv_iinc (pc := 62) (k := 3) (v := v8) hx hb dX6_emptyStocks_62 hl rfl ev8 (by decide) rfl (fun ls hl => ?_)
          replace hl : lv_has ls 5 [(4, .int v8), (0, .ref (B + a0)), (2, .int v1), (3, .int v5)] := hl
          refine lv_goto (pc := 65) (tgt := 11) hx hb dX6_emptyStocks_65 (by decide) ?_
          exact ih _ _ _ _ _ _ P (lv_sub hl [1, 2, 3, 0] rfl) (hI2 _ (Option.some.inj hF).symm)
        · rw [if_pos hc] at hF
          refine lv_aload_n (pc := 28) hx hb dX6_emptyStocks_28 rfl (lv_at hl 0 rfl) ?_
          refine r_gR (pc := 29) CX P hF fl_X6_23 dX6_emptyStocks_29 (fun a9 hF => ?_)
          refine lv_iload (pc := 32) hx hb dX6_emptyStocks_32 (lv_at hl 3 rfl) ?_
          refine r_aI (pc := 34) CX P hF dX6_emptyStocks_34 (fun v10 hF => ?_)
          refine lv_if_le (pc := 35) (tgt := 62) hx hb dX6_emptyStocks_35 (by decide) (fun hc => ?_) (fun hc => ?_)
          · rw [if_pos hc] at hF
            obtain ⟨v11, ev11, hF⟩ := bl_o hF
            refine lv_iinc (pc := 62) (k := 3) (v := v11) hx hb dX6_emptyStocks_62 hl rfl ev11 (by decide) rfl (fun ls hl => ?_)
            replace hl : lv_has ls 5 [(4, .int v11), (0, .ref (B + a0)), (2, .int v1), (3, .int v5)] := hl
            refine lv_goto (pc := 65) (tgt := 11) hx hb dX6_emptyStocks_65 (by decide) ?_
            exact ih _ _ _ _ _ _ P (lv_sub hl [1, 2, 3, 0] rfl) (hI2 _ (Option.some.inj hF).symm)
          · rw [if_neg hc] at hF
            refine lv_iload_n (pc := 38) hx hb dX6_emptyStocks_38 rfl (lv_at hl 2 rfl) ?_
            refine lv_aload_n (pc := 39) hx hb dX6_emptyStocks_39 rfl (lv_at hl 0 rfl) ?_
            refine r_gR (pc := 40) CX P hF fl_X6_23 dX6_emptyStocks_40 (fun a12 hF => ?_)
            refine lv_iload (pc := 43) hx hb dX6_emptyStocks_43 (lv_at hl 3 rfl) ?_
            refine r_aI (pc := 45) CX P hF dX6_emptyStocks_45 (fun v13 hF => ?_)
            refine lv_iadd (pc := 46) hx hb dX6_emptyStocks_46 ?_
            refine lv_topi (fun v14 ev14 => ?_)
            replace hF := bl_e hF ev14
            refine lv_istore_n (pc := 47) hx hb dX6_emptyStocks_47 rfl hl (by decide) rfl (fun ls hl => ?_)
            replace hl : lv_has ls 5 [(3, .int v14), (0, .ref (B + a0)), (2, .int v1), (4, .int v6)] := hl
            refine lv_aload_n (pc := 48) hx hb dX6_emptyStocks_48 rfl (lv_at hl 1 rfl) ?_
            refine lv_iload (pc := 49) hx hb dX6_emptyStocks_49 (lv_at hl 3 rfl) ?_
            refine lv_aload_n (pc := 51) hx hb dX6_emptyStocks_51 rfl (lv_at hl 1 rfl) ?_
            refine r_gR (pc := 52) CX P hF fl_X6_23 dX6_emptyStocks_52 (fun a15 hF => ?_)
            refine lv_iload (pc := 55) hx hb dX6_emptyStocks_55 (lv_at hl 3 rfl) ?_
            refine r_aI (pc := 57) CX P hF dX6_emptyStocks_57 (fun v16 hF => ?_)
            refine lv_ineg (pc := 58) hx hb dX6_emptyStocks_58 ?_
            refine r_cVv (pc := 59) (As := [.int v6, .int (-v16)]) (rest := []) CX P hl.1 hF kv_X6_61 (fun h1 q => c_X6_addStock l G B _ _ _ _ _ q) rfl rfl ⟨Nat.le_of_ble_eq_true rfl, Nat.le_of_ble_eq_true rfl⟩ (Nat.le_of_ble_eq_true rfl) ⟨Nat.le_of_ble_eq_true rfl, Nat.le_of_ble_eq_true rfl⟩ dX6_emptyStocks_59 (fun h17 H locs P hF => ?_)
            obtain ⟨v18, ev18, hF⟩ := bl_o hF
            refine lv_iinc (pc := 62) (k := 3) (v := v18) hx hb dX6_emptyStocks_62 hl rfl ev18 (by decide) rfl (fun ls hl => ?_)
            replace hl : lv_has ls 5 [(4, .int v18), (3, .int v14), (0, .ref (B + a0)), (2, .int v1)] := hl
            refine lv_goto (pc := 65) (tgt := 11) hx hb dX6_emptyStocks_65 (by decide) ?_
            exact ih _ _ _ _ _ _ P (lv_sub hl [2, 3, 1, 0] rfl) (hI2 _ (Option.some.inj hF).symm)
  exact hL2 _ _ _ _ _ _ _ P (lv_sub hl [3, 2, 1, 0] rfl) hLp2
def F_X6_putGroup_L29 (a9 : Nat) (v10 : Int32) (v11 : Int32) (h12 : Hp) : Option ((Int32 × Hp) ⊕ (Hp)) :=
if 9 ≤ v11 then (
some (.inr h12)) else (
(gR h12 a9 6 3).bind fun a13 =>
(aR h12 a13 15 v11).bind fun a14 =>
(sX 0 v11).bind fun v15 =>
(sI h12 a14 v10 v15).bind fun h16 =>
bl (v11 + 1) fun v17 =>
some (.inl (v17, h16)))
def F_X6_putGroup_L84 (a28 : Nat) (v29 : Int32) (v30 : Int32) (h31 : Hp) : Option ((Int32 × Hp) ⊕ (Hp)) :=
if 4 ≤ v30 then (
some (.inr h31)) else (
(gR h31 a28 6 8).bind fun a32 =>
(aR h31 a32 15 v30).bind fun a33 =>
(sI h31 a33 v29 0).bind fun h34 =>
bl (v30 + 1) fun v35 =>
some (.inl (v35, h34)))
def F_X6_putGroup (h : Hp) (a0 : Nat) (vp1 : Int32) (vp2 : Int32) : Option (Hp) :=
(gR h a0 6 0).bind fun a1 =>
(sI h a1 vp1 vp2).bind fun h2 =>
(gR h2 a0 6 1).bind fun a3 =>
(gI h2 a0 6 2).bind fun v4 =>
(sI h2 a3 v4 vp1).bind fun h5 =>
(gI h5 a0 6 2).bind fun v6 =>
(pI h5 a0 6 2 (v6 + 1)).bind fun h7 =>
(loopF (fun x => F_X6_putGroup_L29 a0 vp1 x.1 x.2) 6000 (0, h7)).bind fun h18 =>
(gR h18 a0 6 4).bind fun a19 =>
(sI h18 a19 vp1 0).bind fun h20 =>
(gR h20 a0 6 5).bind fun a21 =>
(sI h20 a21 vp1 0).bind fun h22 =>
(gR h22 a0 6 6).bind fun a23 =>
(sI h22 a23 vp1 0).bind fun h24 =>
(gR h24 a0 6 7).bind fun a25 =>
(sI h24 a25 vp1 0).bind fun h26 =>
(loopF (fun x => F_X6_putGroup_L84 a0 vp1 x.1 x.2) 6000 (0, h26)).bind fun h36 =>
some h36
set_option maxRecDepth 100000 in
set_option maxHeartbeats 4000000 in
theorem c_X6_putGroup (l : Launch) (G : GG) (B : Nat) (h : Hp) (a0 : Nat) (vp1 : Int32) (vp2 : Int32) (hr : Hp) (hF : F_X6_putGroup h a0 vp1 vp2 = some hr) : CV l yX6_putGroup cX6_putGroup 4 0 0 0 0 G B h [.ref (B + a0), .int vp1, .int vp2] hr := by
  refine ent_v rfl (Nat.le_of_ble_eq_true rfl) ?_
  intro p e s m args below meth c ls Q CX hnm hret P hl
  have CX : Cxt p m c cX6_putGroup 4 s args RX6 G B := CX
  obtain ⟨⟨hx, hb, hml, hown, hts⟩, -, -⟩ := id CX
  replace hl : lv_has ls 4 [(0, .ref (B + a0)), (1, .int vp1), (2, .int vp2)] := hl
  generalize s.heap = H at P ⊢
  generalize ([] : List Loc) = locs at P ⊢
  unfold F_X6_putGroup at hF
  refine lv_aload_n (pc := 0) hx hb dX6_putGroup_0 rfl (lv_at hl 0 rfl) ?_
  refine r_gR (pc := 1) CX P hF fl_X6_9 dX6_putGroup_1 (fun a1 hF => ?_)
  refine lv_iload_n (pc := 4) hx hb dX6_putGroup_4 rfl (lv_at hl 1 rfl) ?_
  refine lv_iload_n (pc := 5) hx hb dX6_putGroup_5 rfl (lv_at hl 2 rfl) ?_
  refine r_sI (pc := 6) CX P hF dX6_putGroup_6 (fun h2 H locs P hF => ?_)
  refine lv_aload_n (pc := 7) hx hb dX6_putGroup_7 rfl (lv_at hl 0 rfl) ?_
  refine r_gR (pc := 8) CX P hF fl_X6_15 dX6_putGroup_8 (fun a3 hF => ?_)
  refine lv_aload_n (pc := 11) hx hb dX6_putGroup_11 rfl (lv_at hl 0 rfl) ?_
  refine r_gI (pc := 12) CX P hF fl_X6_54 dX6_putGroup_12 (fun v4 hF => ?_)
  refine lv_iload_n (pc := 15) hx hb dX6_putGroup_15 rfl (lv_at hl 1 rfl) ?_
  refine r_sI (pc := 16) CX P hF dX6_putGroup_16 (fun h5 H locs P hF => ?_)
  refine lv_aload_n (pc := 17) hx hb dX6_putGroup_17 rfl (lv_at hl 0 rfl) ?_
  refine lv_dup (pc := 18) hx hb dX6_putGroup_18 rfl ?_
  refine r_gI (pc := 19) CX P hF fl_X6_54 dX6_putGroup_19 (fun v6 hF => ?_)
  refine lv_iconst (pc := 22) (v := 1) hx hb dX6_putGroup_22 (by decide) ?_
  refine lv_iadd (pc := 23) hx hb dX6_putGroup_23 ?_
  refine r_pI (pc := 24) CX P hF fl_X6_54 dX6_putGroup_24 (fun h7 H locs P hF => ?_)
  refine lv_iconst (pc := 27) (v := 0) hx hb dX6_putGroup_27 (by decide) ?_
  refine lv_istore_n (pc := 28) hx hb dX6_putGroup_28 rfl hl (by decide) rfl (fun ls hl => ?_)
  replace hl : lv_has ls 4 [(3, .int 0), (0, .ref (B + a0)), (1, .int vp1), (2, .int vp2)] := hl
  obtain ⟨r8, hLp8, hK8⟩ := bd_some hF
  have hX8 : ∀ (h18 : Hp) (H : Heap) (locs : List Loc) (ls : Array Slot), Pic G B h18 s H locs → lv_has ls 4 [(0, .ref (B + a0)), (1, .int vp1)] → h18 = r8 → W p l e (rmM 0 0 0 0) s m args below meth c H locs 0 0 Q (F0 m 54 ls []) := by
    intro h18 H locs ls P hl er
    subst er
    have hF := hK8
    refine lv_aload_n (pc := 54) hx hb dX6_putGroup_54 rfl (lv_at hl 0 rfl) ?_
    refine r_gR (pc := 55) CX P hF fl_X6_23 dX6_putGroup_55 (fun a19 hF => ?_)
    refine lv_iload_n (pc := 58) hx hb dX6_putGroup_58 rfl (lv_at hl 1 rfl) ?_
    refine lv_iconst (pc := 59) (v := 0) hx hb dX6_putGroup_59 (by decide) ?_
    refine r_sI (pc := 60) CX P hF dX6_putGroup_60 (fun h20 H locs P hF => ?_)
    refine lv_aload_n (pc := 61) hx hb dX6_putGroup_61 rfl (lv_at hl 0 rfl) ?_
    refine r_gR (pc := 62) CX P hF fl_X6_26 dX6_putGroup_62 (fun a21 hF => ?_)
    refine lv_iload_n (pc := 65) hx hb dX6_putGroup_65 rfl (lv_at hl 1 rfl) ?_
    refine lv_iconst (pc := 66) (v := 0) hx hb dX6_putGroup_66 (by decide) ?_
    refine r_sI (pc := 67) CX P hF dX6_putGroup_67 (fun h22 H locs P hF => ?_)
    refine lv_aload_n (pc := 68) hx hb dX6_putGroup_68 rfl (lv_at hl 0 rfl) ?_
    refine r_gR (pc := 69) CX P hF fl_X6_29 dX6_putGroup_69 (fun a23 hF => ?_)
    refine lv_iload_n (pc := 72) hx hb dX6_putGroup_72 rfl (lv_at hl 1 rfl) ?_
    refine lv_iconst (pc := 73) (v := 0) hx hb dX6_putGroup_73 (by decide) ?_
    refine r_sI (pc := 74) CX P hF dX6_putGroup_74 (fun h24 H locs P hF => ?_)
    refine lv_aload_n (pc := 75) hx hb dX6_putGroup_75 rfl (lv_at hl 0 rfl) ?_
    refine r_gR (pc := 76) CX P hF fl_X6_32 dX6_putGroup_76 (fun a25 hF => ?_)
    refine lv_iload_n (pc := 79) hx hb dX6_putGroup_79 rfl (lv_at hl 1 rfl) ?_
    refine lv_iconst (pc := 80) (v := 0) hx hb dX6_putGroup_80 (by decide) ?_
    refine r_sI (pc := 81) CX P hF dX6_putGroup_81 (fun h26 H locs P hF => ?_)
    refine lv_iconst (pc := 82) (v := 0) hx hb dX6_putGroup_82 (by decide) ?_
    refine lv_istore_n (pc := 83) hx hb dX6_putGroup_83 rfl hl (by decide) rfl (fun ls hl => ?_)
    replace hl : lv_has ls 4 [(3, .int 0), (0, .ref (B + a0)), (1, .int vp1)] := hl
    obtain ⟨r27, hLp27, hK27⟩ := bd_some hF
    have hX27 : ∀ (h36 : Hp) (H : Heap) (locs : List Loc) (ls : Array Slot), Pic G B h36 s H locs → lv_has ls 4 [] → h36 = r27 → W p l e (rmM 0 0 0 0) s m args below meth c H locs 0 0 Q (F0 m 104 ls []) := by
      intro h36 H locs ls P hl er
      subst er
      have hF := hK27
      cases hF
      exact hret _ _ _ _ P dX6_putGroup_104
    have hL27 : ∀ (n : Nat) (v30 : Int32) (h31 : Hp) (H : Heap) (locs : List Loc) (ls : Array Slot), Pic G B h31 s H locs → lv_has ls 4 [(0, .ref (B + a0)), (1, .int vp1), (3, .int v30)] → loopF (fun x => F_X6_putGroup_L84 a0 vp1 x.1 x.2) n (v30, h31) = some r27 → W p l e (rmM 0 0 0 0) s m args below meth c H locs 0 0 Q (F0 m 84 ls []) := by
      intro n
      induction n with
      | zero => intro v30 h31 H locs ls P hl hq; cases hq
      | succ n ih =>
        intro v30 h31 H locs ls P hl hq
        obtain ⟨z27, hS27, hI27, hR27⟩ := loop_some hq
        have hF : F_X6_putGroup_L84 a0 vp1 v30 h31 = some z27 := hS27
        unfold F_X6_putGroup_L84 at hF
        refine lv_iload_n (pc := 84) hx hb dX6_putGroup_84 rfl (lv_at hl 2 rfl) ?_
        refine lv_iconst (pc := 85) (v := 4) hx hb dX6_putGroup_85 (by decide) ?_
        refine lv_icmp_ge (pc := 86) (tgt := 104) hx hb dX6_putGroup_86 (by decide) (fun hc => ?_) (fun hc => ?_)
        · rw [if_pos hc] at hF
          exact hX27 _ _ _ _ P (lv_sub hl [] rfl) (hR27 _ (Option.some.inj hF).symm)
        · rw [if_neg hc] at hF
          refine lv_aload_n (pc := 89) hx hb dX6_putGroup_89 rfl (lv_at hl 0 rfl) ?_
          refine r_gR (pc := 90) CX P hF fl_X6_35 dX6_putGroup_90 (fun a32 hF => ?_)
          refine lv_iload_n (pc := 93) hx hb dX6_putGroup_93 rfl (lv_at hl 2 rfl) ?_
          refine r_aR (pc := 94) CX P hF (Or.inr (Or.inl rfl)) dX6_putGroup_94 (fun a33 hF => ?_)
          refine lv_iload_n (pc := 95) hx hb dX6_putGroup_95 rfl (lv_at hl 1 rfl) ?_
          refine lv_iconst (pc := 96) (v := 0) hx hb dX6_putGroup_96 (by decide) ?_
          refine r_sI (pc := 97) CX P hF dX6_putGroup_97 (fun h34 H locs P hF => ?_)
          obtain ⟨v35, ev35, hF⟩ := bl_o hF
          refine lv_iinc (pc := 98) (k := 2) (v := v35) hx hb dX6_putGroup_98 hl rfl ev35 (by decide) rfl (fun ls hl => ?_)
          replace hl : lv_has ls 4 [(3, .int v35), (0, .ref (B + a0)), (1, .int vp1)] := hl
          refine lv_goto (pc := 101) (tgt := 84) hx hb dX6_putGroup_101 (by decide) ?_
          exact ih _ _ _ _ _ P (lv_sub hl [1, 2, 0] rfl) (hI27 _ (Option.some.inj hF).symm)
    exact hL27 _ _ _ _ _ _ P (lv_sub hl [1, 2, 0] rfl) hLp27
  have hL8 : ∀ (n : Nat) (v11 : Int32) (h12 : Hp) (H : Heap) (locs : List Loc) (ls : Array Slot), Pic G B h12 s H locs → lv_has ls 4 [(0, .ref (B + a0)), (1, .int vp1), (3, .int v11)] → loopF (fun x => F_X6_putGroup_L29 a0 vp1 x.1 x.2) n (v11, h12) = some r8 → W p l e (rmM 0 0 0 0) s m args below meth c H locs 0 0 Q (F0 m 29 ls []) := by
    intro n
    induction n with
    | zero => intro v11 h12 H locs ls P hl hq; cases hq
    | succ n ih =>
      intro v11 h12 H locs ls P hl hq
      obtain ⟨z8, hS8, hI8, hR8⟩ := loop_some hq
      have hF : F_X6_putGroup_L29 a0 vp1 v11 h12 = some z8 := hS8
      unfold F_X6_putGroup_L29 at hF
      refine lv_iload_n (pc := 29) hx hb dX6_putGroup_29 rfl (lv_at hl 2 rfl) ?_
      refine lv_bipush (pc := 30) (v := 9) hx hb dX6_putGroup_30 (by decide) ?_
      refine lv_icmp_ge (pc := 32) (tgt := 54) hx hb dX6_putGroup_32 (by decide) (fun hc => ?_) (fun hc => ?_)
      · rw [if_pos hc] at hF
        exact hX8 _ _ _ _ P (lv_sub hl [0, 1] rfl) (hR8 _ (Option.some.inj hF).symm)
      · rw [if_neg hc] at hF
        refine lv_aload_n (pc := 35) hx hb dX6_putGroup_35 rfl (lv_at hl 0 rfl) ?_
        refine r_gR (pc := 36) CX P hF fl_X6_20 dX6_putGroup_36 (fun a13 hF => ?_)
        refine lv_iload_n (pc := 39) hx hb dX6_putGroup_39 rfl (lv_at hl 2 rfl) ?_
        refine r_aR (pc := 40) CX P hF (Or.inr (Or.inl rfl)) dX6_putGroup_40 (fun a14 hF => ?_)
        refine lv_iload_n (pc := 41) hx hb dX6_putGroup_41 rfl (lv_at hl 1 rfl) ?_
        refine r_gs (pc := 42) CX P (k := 0) (by decide) (Or.inr (by decide)) dX6_putGroup_42 ?_
        refine lv_iload_n (pc := 45) hx hb dX6_putGroup_45 rfl (lv_at hl 2 rfl) ?_
        refine r_sX (pc := 46) CX P (by decide) hF dX6_putGroup_46 (fun v15 hF => ?_)
        refine r_sI (pc := 47) CX P hF dX6_putGroup_47 (fun h16 H locs P hF => ?_)
        obtain ⟨v17, ev17, hF⟩ := bl_o hF
        refine lv_iinc (pc := 48) (k := 2) (v := v17) hx hb dX6_putGroup_48 hl rfl ev17 (by decide) rfl (fun ls hl => ?_)
        replace hl : lv_has ls 4 [(3, .int v17), (0, .ref (B + a0)), (1, .int vp1)] := hl
        refine lv_goto (pc := 51) (tgt := 29) hx hb dX6_putGroup_51 (by decide) ?_
        exact ih _ _ _ _ _ P (lv_sub hl [1, 2, 0] rfl) (hI8 _ (Option.some.inj hF).symm)
  exact hL8 _ _ _ _ _ _ P (lv_sub hl [1, 2, 0] rfl) hLp8
def F_J7_fill_53178_L5 (a3 : Nat) (v4 : Int32) (v5 : Int32) (v6 : Int32) (h7 : Hp) : Option ((Int32 × Hp) ⊕ (Hp)) :=
if v5 ≤ v6 then (
some (.inr h7)) else (
(sI h7 a3 v6 v4).bind fun h8 =>
bl (v6 + 1) fun v9 =>
some (.inl (v9, h8)))
def F_J7_fill_53178 (h : Hp) (ap0 : Nat) (vp1 : Int32) : Option (Hp) :=
(aL h ap0).bind fun v1 =>
(loopF (fun x => F_J7_fill_53178_L5 ap0 vp1 v1 x.1 x.2) 6000 (0, h)).bind fun h10 =>
some h10
set_option maxRecDepth 100000 in
set_option maxHeartbeats 4000000 in
theorem c_J7_fill_53178 (l : Launch) (G : GG) (B : Nat) (h : Hp) (ap0 : Nat) (vp1 : Int32) (hr : Hp) (hF : F_J7_fill_53178 h ap0 vp1 = some hr) : CV l yJ7_fill_53178 cJ7_fill_53178 4 0 0 0 0 G B h [.ref (B + ap0), .int vp1] hr := by
  refine ent_v rfl (Nat.le_of_ble_eq_true rfl) ?_
  intro p e s m args below meth c ls Q CX hnm hret P hl
  have CX : Cxt p m c cJ7_fill_53178 4 s args RJ7 G B := CX
  obtain ⟨⟨hx, hb, hml, hown, hts⟩, -, -⟩ := id CX
  replace hl : lv_has ls 4 [(0, .ref (B + ap0)), (1, .int vp1)] := hl
  generalize s.heap = H at P ⊢
  generalize ([] : List Loc) = locs at P ⊢
  unfold F_J7_fill_53178 at hF
  refine lv_iconst (pc := 0) (v := 0) hx hb dJ7_fill_53178_0 (by decide) ?_
  refine lv_istore_n (pc := 1) hx hb dJ7_fill_53178_1 rfl hl (by decide) rfl (fun ls hl => ?_)
  replace hl : lv_has ls 4 [(2, .int 0), (0, .ref (B + ap0)), (1, .int vp1)] := hl
  refine lv_aload_n (pc := 2) hx hb dJ7_fill_53178_2 rfl (lv_at hl 1 rfl) ?_
  refine r_aL (pc := 3) CX P hF dJ7_fill_53178_3 (fun v1 hF => ?_)
  refine lv_istore_n (pc := 4) hx hb dJ7_fill_53178_4 rfl hl (by decide) rfl (fun ls hl => ?_)
  replace hl : lv_has ls 4 [(3, .int v1), (2, .int 0), (0, .ref (B + ap0)), (1, .int vp1)] := hl
  obtain ⟨r2, hLp2, hK2⟩ := bd_some hF
  have hX2 : ∀ (h10 : Hp) (H : Heap) (locs : List Loc) (ls : Array Slot), Pic G B h10 s H locs → lv_has ls 4 [] → h10 = r2 → W p l e (rmM 0 0 0 0) s m args below meth c H locs 0 0 Q (F0 m 20 ls []) := by
    intro h10 H locs ls P hl er
    subst er
    have hF := hK2
    cases hF
    exact hret _ _ _ _ P dJ7_fill_53178_20
  have hL2 : ∀ (n : Nat) (v6 : Int32) (h7 : Hp) (H : Heap) (locs : List Loc) (ls : Array Slot), Pic G B h7 s H locs → lv_has ls 4 [(0, .ref (B + ap0)), (1, .int vp1), (2, .int v6), (3, .int v1)] → loopF (fun x => F_J7_fill_53178_L5 ap0 vp1 v1 x.1 x.2) n (v6, h7) = some r2 → W p l e (rmM 0 0 0 0) s m args below meth c H locs 0 0 Q (F0 m 5 ls []) := by
    intro n
    induction n with
    | zero => intro v6 h7 H locs ls P hl hq; cases hq
    | succ n ih =>
      intro v6 h7 H locs ls P hl hq
      obtain ⟨z2, hS2, hI2, hR2⟩ := loop_some hq
      have hF : F_J7_fill_53178_L5 ap0 vp1 v1 v6 h7 = some z2 := hS2
      unfold F_J7_fill_53178_L5 at hF
      refine lv_iload_n (pc := 5) hx hb dJ7_fill_53178_5 rfl (lv_at hl 2 rfl) ?_
      refine lv_iload_n (pc := 6) hx hb dJ7_fill_53178_6 rfl (lv_at hl 3 rfl) ?_
      refine lv_icmp_ge (pc := 7) (tgt := 20) hx hb dJ7_fill_53178_7 (by decide) (fun hc => ?_) (fun hc => ?_)
      · rw [if_pos hc] at hF
        exact hX2 _ _ _ _ P (lv_sub hl [] rfl) (hR2 _ (Option.some.inj hF).symm)
      · rw [if_neg hc] at hF
        refine lv_aload_n (pc := 10) hx hb dJ7_fill_53178_10 rfl (lv_at hl 0 rfl) ?_
        refine lv_iload_n (pc := 11) hx hb dJ7_fill_53178_11 rfl (lv_at hl 2 rfl) ?_
        refine lv_iload_n (pc := 12) hx hb dJ7_fill_53178_12 rfl (lv_at hl 1 rfl) ?_
        refine r_sI (pc := 13) CX P hF dJ7_fill_53178_13 (fun h8 H locs P hF => ?_)
        obtain ⟨v9, ev9, hF⟩ := bl_o hF
        refine lv_iinc (pc := 14) (k := 2) (v := v9) hx hb dJ7_fill_53178_14 hl rfl ev9 (by decide) rfl (fun ls hl => ?_)
        replace hl : lv_has ls 4 [(2, .int v9), (0, .ref (B + ap0)), (1, .int vp1), (3, .int v1)] := hl
        refine lv_goto (pc := 17) (tgt := 5) hx hb dJ7_fill_53178_17 (by decide) ?_
        exact ih _ _ _ _ _ P (lv_sub hl [1, 2, 0, 3] rfl) (hI2 _ (Option.some.inj hF).symm)
  exact hL2 _ _ _ _ _ _ P (lv_sub hl [2, 3, 1, 0] rfl) hLp2
def F_X6_init (h : Hp) (a0 : Nat) : Option (Hp) :=
(nwA h 11 12).bind fun h1 =>
(pR h1 a0 6 0 (mN h)).bind fun h2 =>
(nwA h2 11 12).bind fun h3 =>
(pR h3 a0 6 1 (mN h2)).bind fun h4 =>
bl (nwM h4 15 11 9 12) fun h5 =>
(pR h5 a0 6 3 (mN h4)).bind fun h6 =>
(nwA h6 11 12).bind fun h7 =>
(pR h7 a0 6 4 (mN h6)).bind fun h8 =>
(nwA h8 11 12).bind fun h9 =>
(pR h9 a0 6 5 (mN h8)).bind fun h10 =>
(nwA h10 11 12).bind fun h11 =>
(pR h11 a0 6 6 (mN h10)).bind fun h12 =>
(nwA h12 11 12).bind fun h13 =>
(pR h13 a0 6 7 (mN h12)).bind fun h14 =>
bl (nwM h14 15 11 4 12) fun h15 =>
(pR h15 a0 6 8 (mN h14)).bind fun h16 =>
(gR h16 a0 6 0).bind fun a17 =>
(F_J7_fill_53178 h16 a17 (-2)).bind fun h18 =>
(cO h18 a0 6 (F_X6_putGroup h18 a0 0 (-1))).bind fun h19 =>
some h19
set_option maxRecDepth 100000 in
set_option maxHeartbeats 4000000 in
theorem c_X6_init (l : Launch) (G : GG) (B : Nat) (h : Hp) (a0 : Nat) (hr : Hp) (hF : F_X6_init h a0 = some hr) : CV l yX6_init cX6_init 1 1 39 21 241 G B h [.ref (B + a0)] hr := by
  refine ent_v rfl (Nat.le_of_ble_eq_true rfl) ?_
  intro p e s m args below meth c ls Q CX hnm hret P hl
  have CX : Cxt p m c cX6_init 1 s args RX6 G B := CX
  obtain ⟨⟨hx, hb, hml, hown, hts⟩, -, -⟩ := id CX
  replace hl : lv_has ls 1 [(0, .ref (B + a0))] := hl
  generalize s.heap = H at P ⊢
  generalize ([] : List Loc) = locs at P ⊢
  unfold F_X6_init at hF
  refine lv_aload_n (pc := 0) hx hb dX6_init_0 rfl (lv_at hl 0 rfl) ?_
  refine r_obj (pc := 1) CX hl.1 tw_36 tw_23 tw_24 (Nat.le_of_ble_eq_true rfl) (Nat.le_of_ble_eq_true rfl) dX6_init_1 ?_
  refine lv_aload_n (pc := 4) hx hb dX6_init_4 rfl (lv_at hl 0 rfl) ?_
  refine lv_bipush (pc := 5) (v := 12) hx hb dX6_init_5 (by decide) ?_
  refine r_nwA (pc := 7) (atype := .int) (N' := 12) CX P hF (Or.inl ⟨rfl, rfl⟩) tw_107 (by decide) (Nat.le_of_ble_eq_true rfl) (Nat.le_of_ble_eq_true rfl) dX6_init_7 (fun h1 H eN P hF => ?_)
  refine r_pR (pc := 9) CX P hnm hF fl_X6_9 (fun q hq => by cases hq; rfl) dX6_init_9 (fun h2 H locs P hF => ?_)
  refine lv_aload_n (pc := 12) hx hb dX6_init_12 rfl (lv_at hl 0 rfl) ?_
  refine lv_bipush (pc := 13) (v := 12) hx hb dX6_init_13 (by decide) ?_
  refine r_nwA (pc := 15) (atype := .int) (N' := 12) CX P hF (Or.inl ⟨rfl, rfl⟩) tw_107 (by decide) (Nat.le_of_ble_eq_true rfl) (Nat.le_of_ble_eq_true rfl) dX6_init_15 (fun h3 H eN P hF => ?_)
  refine r_pR (pc := 17) CX P hnm hF fl_X6_15 (fun q hq => by cases hq; rfl) dX6_init_17 (fun h4 H locs P hF => ?_)
  refine lv_aload_n (pc := 20) hx hb dX6_init_20 rfl (lv_at hl 0 rfl) ?_
  refine lv_bipush (pc := 21) (v := 9) hx hb dX6_init_21 (by decide) ?_
  refine lv_bipush (pc := 23) (v := 12) hx hb dX6_init_23 (by decide) ?_
  refine r_nwM (pc := 25) (N' := 9) (K' := 12) (ty := .int) CX P hF (by decide) (by decide) (by decide) (by decide) (by decide) (by decide) (Or.inl ⟨rfl, rfl, rfl⟩) tw_37 tw_107 (Nat.le_of_ble_eq_true rfl) (Nat.le_of_ble_eq_true rfl) dX6_init_25 (fun h5 H eN P hF => ?_)
  refine r_pR (pc := 29) CX P hnm hF fl_X6_20 (fun q hq => by cases hq; rfl) dX6_init_29 (fun h6 H locs P hF => ?_)
  refine lv_aload_n (pc := 32) hx hb dX6_init_32 rfl (lv_at hl 0 rfl) ?_
  refine lv_bipush (pc := 33) (v := 12) hx hb dX6_init_33 (by decide) ?_
  refine r_nwA (pc := 35) (atype := .int) (N' := 12) CX P hF (Or.inl ⟨rfl, rfl⟩) tw_107 (by decide) (Nat.le_of_ble_eq_true rfl) (Nat.le_of_ble_eq_true rfl) dX6_init_35 (fun h7 H eN P hF => ?_)
  refine r_pR (pc := 37) CX P hnm hF fl_X6_23 (fun q hq => by cases hq; rfl) dX6_init_37 (fun h8 H locs P hF => ?_)
  refine lv_aload_n (pc := 40) hx hb dX6_init_40 rfl (lv_at hl 0 rfl) ?_
  refine lv_bipush (pc := 41) (v := 12) hx hb dX6_init_41 (by decide) ?_
  refine r_nwA (pc := 43) (atype := .int) (N' := 12) CX P hF (Or.inl ⟨rfl, rfl⟩) tw_107 (by decide) (Nat.le_of_ble_eq_true rfl) (Nat.le_of_ble_eq_true rfl) dX6_init_43 (fun h9 H eN P hF => ?_)
  refine r_pR (pc := 45) CX P hnm hF fl_X6_26 (fun q hq => by cases hq; rfl) dX6_init_45 (fun h10 H locs P hF => ?_)
  refine lv_aload_n (pc := 48) hx hb dX6_init_48 rfl (lv_at hl 0 rfl) ?_
  refine lv_bipush (pc := 49) (v := 12) hx hb dX6_init_49 (by decide) ?_
  refine r_nwA (pc := 51) (atype := .int) (N' := 12) CX P hF (Or.inl ⟨rfl, rfl⟩) tw_107 (by decide) (Nat.le_of_ble_eq_true rfl) (Nat.le_of_ble_eq_true rfl) dX6_init_51 (fun h11 H eN P hF => ?_)
  refine r_pR (pc := 53) CX P hnm hF fl_X6_29 (fun q hq => by cases hq; rfl) dX6_init_53 (fun h12 H locs P hF => ?_)
  refine lv_aload_n (pc := 56) hx hb dX6_init_56 rfl (lv_at hl 0 rfl) ?_
  refine lv_bipush (pc := 57) (v := 12) hx hb dX6_init_57 (by decide) ?_
  refine r_nwA (pc := 59) (atype := .int) (N' := 12) CX P hF (Or.inl ⟨rfl, rfl⟩) tw_107 (by decide) (Nat.le_of_ble_eq_true rfl) (Nat.le_of_ble_eq_true rfl) dX6_init_59 (fun h13 H eN P hF => ?_)
  refine r_pR (pc := 61) CX P hnm hF fl_X6_32 (fun q hq => by cases hq; rfl) dX6_init_61 (fun h14 H locs P hF => ?_)
  refine lv_aload_n (pc := 64) hx hb dX6_init_64 rfl (lv_at hl 0 rfl) ?_
  refine lv_iconst (pc := 65) (v := 4) hx hb dX6_init_65 (by decide) ?_
  refine lv_bipush (pc := 66) (v := 12) hx hb dX6_init_66 (by decide) ?_
  refine r_nwM (pc := 68) (N' := 4) (K' := 12) (ty := .int) CX P hF (by decide) (by decide) (by decide) (by decide) (by decide) (by decide) (Or.inl ⟨rfl, rfl, rfl⟩) tw_37 tw_107 (Nat.le_of_ble_eq_true rfl) (Nat.le_of_ble_eq_true rfl) dX6_init_68 (fun h15 H eN P hF => ?_)
  refine r_pR (pc := 72) CX P hnm hF fl_X6_35 (fun q hq => by cases hq; rfl) dX6_init_72 (fun h16 H locs P hF => ?_)
  refine lv_aload_n (pc := 75) hx hb dX6_init_75 rfl (lv_at hl 0 rfl) ?_
  refine r_gR (pc := 76) CX P hF fl_X6_9 dX6_init_76 (fun a17 hF => ?_)
  refine lv_bipush (pc := 79) (v := (-2)) hx hb dX6_init_79 (by decide) ?_
  refine r_cSv (pc := 81) (As := [.ref (B + a17), .int (-2)]) (rest := []) CX P hl.1 hF ks_X6_38 (fun h1 q => c_J7_fill_53178 l G B _ _ _ _ q) rfl rfl ⟨Nat.le_of_ble_eq_true rfl, Nat.le_of_ble_eq_true rfl⟩ (Nat.le_of_ble_eq_true rfl) ⟨Nat.le_of_ble_eq_true rfl, Nat.le_of_ble_eq_true rfl⟩ dX6_init_81 (fun h18 H locs P hF => ?_)
  refine lv_aload_n (pc := 84) hx hb dX6_init_84 rfl (lv_at hl 0 rfl) ?_
  refine lv_iconst (pc := 85) (v := 0) hx hb dX6_init_85 (by decide) ?_
  refine lv_iconst (pc := 86) (v := (-1)) hx hb dX6_init_86 (by decide) ?_
  refine r_cVv (pc := 87) (As := [.int 0, .int (-1)]) (rest := []) CX P hl.1 hF kv_X6_44 (fun h1 q => c_X6_putGroup l G B _ _ _ _ _ q) rfl rfl ⟨Nat.le_of_ble_eq_true rfl, Nat.le_of_ble_eq_true rfl⟩ (Nat.le_of_ble_eq_true rfl) ⟨Nat.le_of_ble_eq_true rfl, Nat.le_of_ble_eq_true rfl⟩ dX6_init_87 (fun h19 H locs P hF => ?_)
  cases hF
  exact hret _ _ _ _ P dX6_init_90
