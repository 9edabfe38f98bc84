def F_X8_strike_L8 (a3 : Nat) (v4 : Int32) (v5 : Int32) (v6 : Int32) (h7 : Hp) : Option ((Int32 × Hp) ⊕ (Hp)) :=
if 16 ≤ v6 then (
some (.inr h7)) else (
if ((v5 >>> (v6 &&& 31)) &&& 1) = 1 then (
(cO h7 a3 8 (F_X8_bury h7 a3 v6)).bind fun h9 =>
bl (v6 + 1) fun v10 =>
some (.inl (v10, h9))) else (
bl (v6 + 1) fun v8 =>
some (.inl (v8, h7))))
def F_X8_strike (h : Hp) (a0 : Nat) (vp1 : Int32) : Option (Int32 × Hp) :=
(cO h a0 8 (F_X8_dyingBelow h a0 vp1)).bind fun v1 =>
(loopF (fun x => F_X8_strike_L8 a0 vp1 v1 x.1 x.2) 6000 (0, h)).bind fun h11 =>
(gR h11 a0 8 0).bind fun a12 =>
(gR h11 a12 6 8).bind fun a13 =>
(aR h11 a13 15 3).bind fun a14 =>
(aI h11 a14 vp1).bind fun v15 =>
(F_J6_bitCount_0f7a4 h11 v1).bind fun v16 =>
(sI h11 a14 vp1 (v15 + v16)).bind fun h17 =>
some (v1, h17)
set_option maxRecDepth 100000 in
set_option maxHeartbeats 4000000 in
theorem c_X8_strike (l : Launch) (G : GG) (B : Nat) (h : Hp) (a0 : Nat) (vp1 : Int32) (r0 : Int32) (hr : Hp) (hF : F_X8_strike h a0 vp1 = some (r0, hr)) : CI l yX8_strike cX8_strike 4 .int 4 97 0 0 G B h [.ref (B + a0), .int vp1] r0 hr := by
  refine ent_i rfl (Nat.le_of_ble_eq_true rfl) ?_
  intro p e s m args below meth c ls Q CX hnm hret P hl
  have CX : Cxt p m c cX8_strike 4 s args RX8 G B := CX
  obtain ⟨⟨hx, hb, hml, hown, hts⟩, -, -⟩ := id CX
  replace hl : lv_has ls 4 [(0, .ref (B + a0)), (1, .int vp1)] := hl
  generalize s.heap = H at P ⊢
  generalize ([] : List Loc) = locs at P ⊢
  unfold F_X8_strike at hF
  refine lv_aload_n (pc := 0) hx hb dX8_strike_0 rfl (lv_at hl 0 rfl) ?_
  refine lv_iload_n (pc := 1) hx hb dX8_strike_1 rfl (lv_at hl 1 rfl) ?_
  refine r_cVp (pc := 2) (As := [.int vp1]) (rest := []) CX P hl.1 hF kv_X8_129 (fun r q => c_X8_dyingBelow l G B _ _ _ _ q) rfl rfl ⟨Nat.le_of_ble_eq_true rfl, Nat.le_of_ble_eq_true rfl⟩ (Nat.le_of_ble_eq_true rfl) ⟨Nat.le_of_ble_eq_true rfl, Nat.le_of_ble_eq_true rfl⟩ dX8_strike_2 (fun v1 H locs P hF => ?_)
  refine lv_istore_n (pc := 5) hx hb dX8_strike_5 rfl hl (by decide) rfl (fun ls hl => ?_)
  replace hl : lv_has ls 4 [(2, .int v1), (0, .ref (B + a0)), (1, .int vp1)] := hl
  refine lv_iconst (pc := 6) (v := 0) hx hb dX8_strike_6 (by decide) ?_
  refine lv_istore_n (pc := 7) hx hb dX8_strike_7 rfl hl (by decide) rfl (fun ls hl => ?_)
  replace hl : lv_has ls 4 [(3, .int 0), (2, .int v1), (0, .ref (B + a0)), (1, .int vp1)] := hl
  obtain ⟨r2, hLp2, hK2⟩ := bd_some hF
  have hX2 : ∀ (h11 : Hp) (H : Heap) (locs : List Loc) (ls : Array Slot), Pic G B h11 s H locs → lv_has ls 4 [(0, .ref (B + a0)), (1, .int vp1), (2, .int v1)] → h11 = r2 → W p l e (rmM 4 97 0 0) s m args below meth c H locs 0 0 Q (F0 m 34 ls []) := by
    intro h11 H locs ls P hl er
    subst er
    have hF := hK2
    refine lv_aload_n (pc := 34) hx hb dX8_strike_34 rfl (lv_at hl 0 rfl) ?_
    refine r_gR (pc := 35) CX P hF fl_X8_12 dX8_strike_35 (fun a12 hF => ?_)
    refine r_gR (pc := 38) CX P hF fl_X8_136 dX8_strike_38 (fun a13 hF => ?_)
    refine lv_iconst (pc := 41) (v := 3) hx hb dX8_strike_41 (by decide) ?_
    refine r_aR (pc := 42) CX P hF (Or.inr (Or.inl rfl)) dX8_strike_42 (fun a14 hF => ?_)
    refine lv_iload_n (pc := 43) hx hb dX8_strike_43 rfl (lv_at hl 1 rfl) ?_
    refine lv_dup2_11 (pc := 44) hx hb dX8_strike_44 rfl rfl ?_
    refine r_aI (pc := 45) CX P hF dX8_strike_45 (fun v15 hF => ?_)
    refine lv_iload_n (pc := 46) hx hb dX8_strike_46 rfl (lv_at hl 2 rfl) ?_
    refine r_cSp (pc := 47) (As := [.int v1]) (rest := [.int v15, .int vp1, .ref (B + a14)]) CX P hl.1 hF ks_X8_76 (fun r q => c_J6_bitCount_0f7a4 l G B _ _ _ q) rfl rfl ⟨Nat.le_of_ble_eq_true rfl, Nat.le_of_ble_eq_true rfl⟩ (Nat.le_of_ble_eq_true rfl) ⟨Nat.le_of_ble_eq_true rfl, Nat.le_of_ble_eq_true rfl⟩ dX8_strike_47 (fun v16 H locs P hF => ?_)
    refine lv_iadd (pc := 50) hx hb dX8_strike_50 ?_
    refine r_sI (pc := 51) CX P hF dX8_strike_51 (fun h17 H locs P hF => ?_)
    refine lv_iload_n (pc := 52) hx hb dX8_strike_52 rfl (lv_at hl 2 rfl) ?_
    cases hF
    exact hret _ _ _ _ P rfl dX8_strike_53
  have hL2 : ∀ (n : Nat) (v6 : Int32) (h7 : Hp) (H : Heap) (locs : List Loc) (ls : Array Slot), Pic G B h7 s H locs → lv_has ls 4 [(0, .ref (B + a0)), (1, .int vp1), (2, .int v1), (3, .int v6)] → loopF (fun x => F_X8_strike_L8 a0 vp1 v1 x.1 x.2) n (v6, h7) = some r2 → W p l e (rmM 4 97 0 0) s m args below meth c H locs 0 0 Q (F0 m 8 ls []) := by
    intro n
    induction n with
    | zero => intro v6 h7 H locs ls P hl hq; cases hq
    | succ n ih =>
      intro v6 h7 H locs ls P hl hq
      obtain ⟨z2, hS2, hI2, hR2⟩ := loop_some hq
      have hF : F_X8_strike_L8 a0 vp1 v1 v6 h7 = some z2 := hS2
      unfold F_X8_strike_L8 at hF
      refine lv_iload_n (pc := 8) hx hb dX8_strike_8 rfl (lv_at hl 3 rfl) ?_
      refine lv_bipush (pc := 9) (v := 16) hx hb dX8_strike_9 (by decide) ?_
      refine lv_icmp_ge (pc := 11) (tgt := 34) hx hb dX8_strike_11 (by decide) (fun hc => ?_) (fun hc => ?_)
      · rw [if_pos hc] at hF
        exact hX2 _ _ _ _ P (lv_sub hl [0, 1, 2] rfl) (hR2 _ (Option.some.inj hF).symm)
      · rw [if_neg hc] at hF
        refine lv_iload_n (pc := 14) hx hb dX8_strike_14 rfl (lv_at hl 2 rfl) ?_
        refine lv_iload_n (pc := 15) hx hb dX8_strike_15 rfl (lv_at hl 3 rfl) ?_
        refine lv_ishr (pc := 16) hx hb dX8_strike_16 ?_
        refine lv_iconst (pc := 17) (v := 1) hx hb dX8_strike_17 (by decide) ?_
        refine lv_iand (pc := 18) hx hb dX8_strike_18 ?_
        refine lv_iconst (pc := 19) (v := 1) hx hb dX8_strike_19 (by decide) ?_
        refine lv_icmp_ne (pc := 20) (tgt := 28) hx hb dX8_strike_20 (by decide) (fun hc => ?_) (fun hc => ?_)
        · rw [if_neg hc] at hF
          obtain ⟨v8, ev8, hF⟩ := bl_o hF
          refine lv_iinc (pc := 28) (k := 3) (v := v8) hx hb dX8_strike_28 hl rfl ev8 (by decide) rfl (fun ls hl => ?_)
          replace hl : lv_has ls 4 [(3, .int v8), (0, .ref (B + a0)), (1, .int vp1), (2, .int v1)] := hl
          refine lv_goto (pc := 31) (tgt := 8) hx hb dX8_strike_31 (by decide) ?_
          exact ih _ _ _ _ _ P (lv_sub hl [1, 2, 3, 0] rfl) (hI2 _ (Option.some.inj hF).symm)
        · rw [if_pos hc] at hF
          refine lv_aload_n (pc := 23) hx hb dX8_strike_23 rfl (lv_at hl 0 rfl) ?_
          refine lv_iload_n (pc := 24) hx hb dX8_strike_24 rfl (lv_at hl 3 rfl) ?_
          refine r_cVv (pc := 25) (As := [.int v6]) (rest := []) CX P hl.1 hF kv_X8_132 (fun h1 q => c_X8_bury l G B _ _ _ _ q) rfl rfl ⟨Nat.le_of_ble_eq_true rfl, Nat.le_of_ble_eq_true rfl⟩ (Nat.le_of_ble_eq_true rfl) ⟨Nat.le_of_ble_eq_true rfl, Nat.le_of_ble_eq_true rfl⟩ dX8_strike_25 (fun h9 H locs P hF => ?_)
          obtain ⟨v10, ev10, hF⟩ := bl_o hF
          refine lv_iinc (pc := 28) (k := 3) (v := v10) hx hb dX8_strike_28 hl rfl ev10 (by decide) rfl (fun ls hl => ?_)
          replace hl : lv_has ls 4 [(3, .int v10), (0, .ref (B + a0)), (1, .int vp1), (2, .int v1)] := hl
          refine lv_goto (pc := 31) (tgt := 8) hx hb dX8_strike_31 (by decide) ?_
          exact ih _ _ _ _ _ P (lv_sub hl [1, 2, 3, 0] rfl) (hI2 _ (Option.some.inj hF).symm)
  exact hL2 _ _ _ _ _ _ P (lv_sub hl [2, 3, 1, 0] rfl) hLp2
def F_X8_pidsFull_L5 (h6 : Hp) (a2 : Nat) (v3 : Int32) (v4 : Int32) (v5 : Int32) : Option ((Int32 × Int32) ⊕ ((Int32) ⊕ (Unit))) :=
if v4 = (-1) then (
some (.inr (.inr ()))) else (
if v4 = v3 then (
some (.inr (.inr ()))) else (
if 12 ≤ v5 then (
some (.inr (.inr ()))) else (
(cO h6 a2 8 (F_X8_bitsOfProcesses h6 a2 v4)).bind fun v7 =>
(F_J6_bitCount_0f7a4 h6 v7).bind fun v8 =>
(gR h6 a2 8 0).bind fun a9 =>
(gR h6 a9 6 3).bind fun a10 =>
(aR h6 a10 15 8).bind fun a11 =>
(aI h6 a11 v4).bind fun v12 =>
if v8 < v12 then (
(gR h6 a2 8 0).bind fun a13 =>
(gR h6 a13 6 0).bind fun a14 =>
(aI h6 a14 v4).bind fun v15 =>
bl (v5 + 1) fun v16 =>
some (.inl (v15, v16))) else (
some (.inr (.inl 1))))))
def F_X8_pidsFull (h : Hp) (a0 : Nat) (vp1 : Int32) (vp2 : Int32) : Option (Int32) :=
(loopF (fun x => F_X8_pidsFull_L5 h a0 vp2 x.1 x.2) 6000 (vp1, 0)).bind (sE (fun x => some x) (fun q1 =>
some 0))
set_option maxRecDepth 100000 in
set_option maxHeartbeats 4000000 in
theorem c_X8_pidsFull (l : Launch) (G : GG) (B : Nat) (h : Hp) (a0 : Nat) (vp1 : Int32) (vp2 : Int32) (r0 : Int32) (hF : F_X8_pidsFull h a0 vp1 vp2 = some r0) : CI l yX8_pidsFull cX8_pidsFull 5 .boolean 2 47 0 0 G B h [.ref (B + a0), .int vp1, .int vp2] r0 h := by
  refine ent_i rfl (Nat.le_of_ble_eq_true rfl) ?_
  intro p e s m args below meth c ls Q CX hnm hret P hl
  have CX : Cxt p m c cX8_pidsFull 5 s args RX8 G B := CX
  obtain ⟨⟨hx, hb, hml, hown, hts⟩, -, -⟩ := id CX
  replace hl : lv_has ls 5 [(0, .ref (B + a0)), (1, .int vp1), (2, .int vp2)] := hl
  generalize s.heap = H at P ⊢
  generalize ([] : List Loc) = locs at P ⊢
  unfold F_X8_pidsFull at hF
  refine lv_iload_n (pc := 0) hx hb dX8_pidsFull_0 rfl (lv_at hl 1 rfl) ?_
  refine lv_istore_n (pc := 1) hx hb dX8_pidsFull_1 rfl hl (by decide) rfl (fun ls hl => ?_)
  replace hl : lv_has ls 5 [(3, .int vp1), (0, .ref (B + a0)), (1, .int vp1), (2, .int vp2)] := hl
  refine lv_iconst (pc := 2) (v := 0) hx hb dX8_pidsFull_2 (by decide) ?_
  refine lv_istore (pc := 3) hx hb dX8_pidsFull_3 hl (by decide) rfl (fun ls hl => ?_)
  replace hl : lv_has ls 5 [(4, .int 0), (3, .int vp1), (0, .ref (B + a0)), (1, .int vp1), (2, .int vp2)] := hl
  obtain ⟨r1, hLp1, hK1⟩ := bd_some hF
  have hX1 : ∀  (H : Heap) (locs : List Loc) (ls : Array Slot), Pic G B h s H locs → lv_has ls 5 [] → .inr () = r1 → W p l e (rmM 2 47 0 0) s m args below meth c H locs 0 0 Q (F0 m 63 ls []) := by
    intro  H locs ls P hl er
    subst er
    have hF := sE_ri hK1
    try dsimp only at hF
    refine lv_iconst (pc := 63) (v := 0) hx hb dX8_pidsFull_63 (by decide) ?_
    cases hF
    exact hret _ _ _ _ P rfl dX8_pidsFull_64
  have hL1 : ∀ (n : Nat) (v4 : Int32) (v5 : Int32) (H : Heap) (locs : List Loc) (ls : Array Slot), Pic G B h s H locs → lv_has ls 5 [(0, .ref (B + a0)), (2, .int vp2), (3, .int v4), (4, .int v5)] → loopF (fun x => F_X8_pidsFull_L5 h a0 vp2 x.1 x.2) n (v4, v5) = some r1 → W p l e (rmM 2 47 0 0) s m args below meth c H locs 0 0 Q (F0 m 5 ls []) := by
    intro n
    induction n with
    | zero => intro v4 v5 H locs ls P hl hq; cases hq
    | succ n ih =>
      intro v4 v5 H locs ls P hl hq
      obtain ⟨z1, hS1, hI1, hR1⟩ := loop_some hq
      have hF : F_X8_pidsFull_L5 h a0 vp2 v4 v5 = some z1 := hS1
      unfold F_X8_pidsFull_L5 at hF
      refine lv_iload_n (pc := 5) hx hb dX8_pidsFull_5 rfl (lv_at hl 2 rfl) ?_
      refine lv_iconst (pc := 6) (v := (-1)) hx hb dX8_pidsFull_6 (by decide) ?_
      refine lv_icmp_eq (pc := 7) (tgt := 63) hx hb dX8_pidsFull_7 (by decide) (fun hc => ?_) (fun hc => ?_)
      · rw [if_pos hc] at hF
        exact hX1  _ _ _ P (lv_sub hl [] rfl) (hR1 _ (Option.some.inj hF).symm)
      · rw [if_neg hc] at hF
        refine lv_iload_n (pc := 10) hx hb dX8_pidsFull_10 rfl (lv_at hl 2 rfl) ?_
        refine lv_iload_n (pc := 11) hx hb dX8_pidsFull_11 rfl (lv_at hl 1 rfl) ?_
        refine lv_icmp_eq (pc := 12) (tgt := 63) hx hb dX8_pidsFull_12 (by decide) (fun hc => ?_) (fun hc => ?_)
        · rw [if_pos hc] at hF
          exact hX1  _ _ _ P (lv_sub hl [] rfl) (hR1 _ (Option.some.inj hF).symm)
        · rw [if_neg hc] at hF
          refine lv_iload (pc := 15) hx hb dX8_pidsFull_15 (lv_at hl 3 rfl) ?_
          refine lv_bipush (pc := 17) (v := 12) hx hb dX8_pidsFull_17 (by decide) ?_
          refine lv_icmp_ge (pc := 19) (tgt := 63) hx hb dX8_pidsFull_19 (by decide) (fun hc => ?_) (fun hc => ?_)
          · rw [if_pos hc] at hF
            exact hX1  _ _ _ P (lv_sub hl [] rfl) (hR1 _ (Option.some.inj hF).symm)
          · rw [if_neg hc] at hF
            refine lv_aload_n (pc := 22) hx hb dX8_pidsFull_22 rfl (lv_at hl 0 rfl) ?_
            refine lv_iload_n (pc := 23) hx hb dX8_pidsFull_23 rfl (lv_at hl 2 rfl) ?_
            refine r_cVp (pc := 24) (As := [.int v4]) (rest := []) CX P hl.1 hF kv_X8_73 (fun r q => c_X8_bitsOfProcesses l G B _ _ _ _ q) rfl rfl ⟨Nat.le_of_ble_eq_true rfl, Nat.le_of_ble_eq_true rfl⟩ (Nat.le_of_ble_eq_true rfl) ⟨Nat.le_of_ble_eq_true rfl, Nat.le_of_ble_eq_true rfl⟩ dX8_pidsFull_24 (fun v7 H locs P hF => ?_)
            refine r_cSp (pc := 27) (As := [.int v7]) (rest := []) CX P hl.1 hF ks_X8_76 (fun r q => c_J6_bitCount_0f7a4 l G B _ _ _ q) rfl rfl ⟨Nat.le_of_ble_eq_true rfl, Nat.le_of_ble_eq_true rfl⟩ (Nat.le_of_ble_eq_true rfl) ⟨Nat.le_of_ble_eq_true rfl, Nat.le_of_ble_eq_true rfl⟩ dX8_pidsFull_27 (fun v8 H locs P hF => ?_)
            refine lv_aload_n (pc := 30) hx hb dX8_pidsFull_30 rfl (lv_at hl 0 rfl) ?_
            refine r_gR (pc := 31) CX P hF fl_X8_12 dX8_pidsFull_31 (fun a9 hF => ?_)
            refine r_gR (pc := 34) CX P hF fl_X8_81 dX8_pidsFull_34 (fun a10 hF => ?_)
            refine lv_bipush (pc := 37) (v := 8) hx hb dX8_pidsFull_37 (by decide) ?_
            refine r_aR (pc := 39) CX P hF (Or.inr (Or.inl rfl)) dX8_pidsFull_39 (fun a11 hF => ?_)
            refine lv_iload_n (pc := 40) hx hb dX8_pidsFull_40 rfl (lv_at hl 2 rfl) ?_
            refine r_aI (pc := 41) CX P hF dX8_pidsFull_41 (fun v12 hF => ?_)
            refine lv_icmp_lt (pc := 42) (tgt := 47) hx hb dX8_pidsFull_42 (by decide) (fun hc => ?_) (fun hc => ?_)
            · rw [if_pos hc] at hF
              refine lv_aload_n (pc := 47) hx hb dX8_pidsFull_47 rfl (lv_at hl 0 rfl) ?_
              refine r_gR (pc := 48) CX P hF fl_X8_12 dX8_pidsFull_48 (fun a13 hF => ?_)
              refine r_gR (pc := 51) CX P hF fl_X8_85 dX8_pidsFull_51 (fun a14 hF => ?_)
              refine lv_iload_n (pc := 54) hx hb dX8_pidsFull_54 rfl (lv_at hl 2 rfl) ?_
              refine r_aI (pc := 55) CX P hF dX8_pidsFull_55 (fun v15 hF => ?_)
              refine lv_istore_n (pc := 56) hx hb dX8_pidsFull_56 rfl hl (by decide) rfl (fun ls hl => ?_)
              replace hl : lv_has ls 5 [(3, .int v15), (0, .ref (B + a0)), (2, .int vp2), (4, .int v5)] := hl
              obtain ⟨v16, ev16, hF⟩ := bl_o hF
              refine lv_iinc (pc := 57) (k := 3) (v := v16) hx hb dX8_pidsFull_57 hl rfl ev16 (by decide) rfl (fun ls hl => ?_)
              replace hl : lv_has ls 5 [(4, .int v16), (3, .int v15), (0, .ref (B + a0)), (2, .int vp2)] := hl
              refine lv_goto (pc := 60) (tgt := 5) hx hb dX8_pidsFull_60 (by decide) ?_
              exact ih _ _ _ _ _ P (lv_sub hl [2, 3, 1, 0] rfl) (hI1 _ (Option.some.inj hF).symm)
            · rw [if_neg hc] at hF
              refine lv_iconst (pc := 45) (v := 1) hx hb dX8_pidsFull_45 (by decide) ?_
              have hE := hR1 _ (Option.some.inj hF).symm
              subst hE
              replace hF := sE_li hK1
              cases hF
              exact hret _ _ _ _ P rfl dX8_pidsFull_46
  exact hL1 _ _ _ _ _ _ P (lv_sub hl [2, 4, 1, 0] rfl) hLp1
def F_X8_giveBack (h : Hp) (a0 : Nat) (vp1 : Int32) (vp2 : Int32) (vp3 : Int32) : Option (Hp) :=
(gR h a0 8 1).bind fun a1 =>
(gR h a1 0 0).bind fun a2 =>
(aI h a2 vp1).bind fun v3 =>
(cO h a0 8 (F_X8_addPages h a0 vp1 vp2 (-vp3))).bind fun h4 =>
(gR h4 a0 8 0).bind fun a5 =>
(cO h4 a5 6 (F_X6_addStock h4 a5 v3 vp3)).bind fun h6 =>
(gR h6 a0 8 0).bind fun a7 =>
(gR h6 a7 6 4).bind fun a8 =>
(aI h6 a8 v3).bind fun v9 =>
(gI h6 a0 8 4).bind fun v10 =>
if v9 ≤ v10 then (
some h6) else (
(gR h6 a0 8 0).bind fun a11 =>
(gR h6 a0 8 0).bind fun a12 =>
(gR h6 a12 6 4).bind fun a13 =>
(aI h6 a13 v3).bind fun v14 =>
(cO h6 a11 6 (F_X6_addStock h6 a11 v3 (-v14))).bind fun h15 =>
some h15)
set_option maxRecDepth 100000 in
set_option maxHeartbeats 4000000 in
theorem c_X8_giveBack (l : Launch) (G : GG) (B : Nat) (h : Hp) (a0 : Nat) (vp1 : Int32) (vp2 : Int32) (vp3 : Int32) (hr : Hp) (hF : F_X8_giveBack h a0 vp1 vp2 vp3 = some hr) : CV l yX8_giveBack cX8_giveBack 5 2 47 0 0 G B h [.ref (B + a0), .int vp1, .int vp2, .int vp3] hr := by
  refine ent_v rfl (Nat.le_of_ble_eq_true rfl) ?_
  intro p e s m args below meth c ls Q CX hnm hret P hl
  have CX : Cxt p m c cX8_giveBack 5 s args RX8 G B := CX
  obtain ⟨⟨hx, hb, hml, hown, hts⟩, -, -⟩ := id CX
  replace hl : lv_has ls 5 [(0, .ref (B + a0)), (1, .int vp1), (2, .int vp2), (3, .int vp3)] := hl
  generalize s.heap = H at P ⊢
  generalize ([] : List Loc) = locs at P ⊢
  unfold F_X8_giveBack at hF
  refine lv_aload_n (pc := 0) hx hb dX8_giveBack_0 rfl (lv_at hl 0 rfl) ?_
  refine r_gR (pc := 1) CX P hF fl_X8_21 dX8_giveBack_1 (fun a1 hF => ?_)
  refine r_gR (pc := 4) CX P hF fl_X8_69 dX8_giveBack_4 (fun a2 hF => ?_)
  refine lv_iload_n (pc := 7) hx hb dX8_giveBack_7 rfl (lv_at hl 1 rfl) ?_
  refine r_aI (pc := 8) CX P hF dX8_giveBack_8 (fun v3 hF => ?_)
  refine lv_istore (pc := 9) hx hb dX8_giveBack_9 hl (by decide) rfl (fun ls hl => ?_)
  replace hl : lv_has ls 5 [(4, .int v3), (0, .ref (B + a0)), (1, .int vp1), (2, .int vp2), (3, .int vp3)] := hl
  refine lv_aload_n (pc := 11) hx hb dX8_giveBack_11 rfl (lv_at hl 1 rfl) ?_
  refine lv_iload_n (pc := 12) hx hb dX8_giveBack_12 rfl (lv_at hl 2 rfl) ?_
  refine lv_iload_n (pc := 13) hx hb dX8_giveBack_13 rfl (lv_at hl 3 rfl) ?_
  refine lv_iload_n (pc := 14) hx hb dX8_giveBack_14 rfl (lv_at hl 4 rfl) ?_
  refine lv_ineg (pc := 15) hx hb dX8_giveBack_15 ?_
  refine r_cVv (pc := 16) (As := [.int vp1, .int vp2, .int (-vp3)]) (rest := []) CX P hl.1 hF kv_X8_101 (fun h1 q => c_X8_addPages l G B _ _ _ _ _ _ q) rfl rfl ⟨Nat.le_of_ble_eq_true rfl, Nat.le_of_ble_eq_true rfl⟩ (Nat.le_of_ble_eq_true rfl) ⟨Nat.le_of_ble_eq_true rfl, Nat.le_of_ble_eq_true rfl⟩ dX8_giveBack_16 (fun h4 H locs P hF => ?_)
  refine lv_aload_n (pc := 19) hx hb dX8_giveBack_19 rfl (lv_at hl 1 rfl) ?_
  refine r_gR (pc := 20) CX P hF fl_X8_12 dX8_giveBack_20 (fun a5 hF => ?_)
  refine lv_iload (pc := 23) hx hb dX8_giveBack_23 (lv_at hl 0 rfl) ?_
  refine lv_iload_n (pc := 25) hx hb dX8_giveBack_25 rfl (lv_at hl 4 rfl) ?_
  refine r_cVv (pc := 26) (As := [.int v3, .int vp3]) (rest := []) CX P hl.1 hF kv_X8_105 (fun h1 q => c_X6_addStock l G B _ _ _ _ _ q) rfl rfl ⟨Nat.le_of_ble_eq_true rfl, Nat.le_of_ble_eq_true rfl⟩ (Nat.le_of_ble_eq_true rfl) ⟨Nat.le_of_ble_eq_true rfl, Nat.le_of_ble_eq_true rfl⟩ dX8_giveBack_26 (fun h6 H locs P hF => ?_)
  refine lv_aload_n (pc := 29) hx hb dX8_giveBack_29 rfl (lv_at hl 1 rfl) ?_
  refine r_gR (pc := 30) CX P hF fl_X8_12 dX8_giveBack_30 (fun a7 hF => ?_)
  refine r_gR (pc := 33) CX P hF fl_X8_108 dX8_giveBack_33 (fun a8 hF => ?_)
  refine lv_iload (pc := 36) hx hb dX8_giveBack_36 (lv_at hl 0 rfl) ?_
  refine r_aI (pc := 38) CX P hF dX8_giveBack_38 (fun v9 hF => ?_)
  refine lv_aload_n (pc := 39) hx hb dX8_giveBack_39 rfl (lv_at hl 1 rfl) ?_
  refine r_gI (pc := 40) CX P hF fl_X8_39 dX8_giveBack_40 (fun v10 hF => ?_)
  refine lv_icmp_le (pc := 43) (tgt := 66) hx hb dX8_giveBack_43 (by decide) (fun hc => ?_) (fun hc => ?_)
  · rw [if_pos hc] at hF
    cases hF
    exact hret _ _ _ _ P dX8_giveBack_66
  · rw [if_neg hc] at hF
    refine lv_aload_n (pc := 46) hx hb dX8_giveBack_46 rfl (lv_at hl 1 rfl) ?_
    refine r_gR (pc := 47) CX P hF fl_X8_12 dX8_giveBack_47 (fun a11 hF => ?_)
    refine lv_iload (pc := 50) hx hb dX8_giveBack_50 (lv_at hl 0 rfl) ?_
    refine lv_aload_n (pc := 52) hx hb dX8_giveBack_52 rfl (lv_at hl 1 rfl) ?_
    refine r_gR (pc := 53) CX P hF fl_X8_12 dX8_giveBack_53 (fun a12 hF => ?_)
    refine r_gR (pc := 56) CX P hF fl_X8_108 dX8_giveBack_56 (fun a13 hF => ?_)
    refine lv_iload (pc := 59) hx hb dX8_giveBack_59 (lv_at hl 0 rfl) ?_
    refine r_aI (pc := 61) CX P hF dX8_giveBack_61 (fun v14 hF => ?_)
    refine lv_ineg (pc := 62) hx hb dX8_giveBack_62 ?_
    refine r_cVv (pc := 63) (As := [.int v3, .int (-v14)]) (rest := []) CX P hl.1 hF kv_X8_105 (fun h1 q => c_X6_addStock l G B _ _ _ _ _ q) rfl rfl ⟨Nat.le_of_ble_eq_true rfl, Nat.le_of_ble_eq_true rfl⟩ (Nat.le_of_ble_eq_true rfl) ⟨Nat.le_of_ble_eq_true rfl, Nat.le_of_ble_eq_true rfl⟩ dX8_giveBack_63 (fun h15 H locs P hF => ?_)
    cases hF
    exact hret _ _ _ _ P dX8_giveBack_66
def F_X8_relocate (h : Hp) (a0 : Nat) (vp1 : Int32) (vp2 : Int32) : Option (Hp) :=
(gR h a0 8 0).bind fun a1 =>
(gR h a0 8 1).bind fun a2 =>
(gR h a2 0 0).bind fun a3 =>
(aI h a3 vp1).bind fun v4 =>
(gR h a0 8 1).bind fun a5 =>
(cO h a5 0 (F_X0_held h a5 vp1)).bind fun v6 =>
(cO h a1 6 (F_X6_addTotal h a1 v4 (-v6))).bind fun h7 =>
(gR h7 a0 8 0).bind fun a8 =>
(gR h7 a0 8 1).bind fun a9 =>
(gR h7 a9 0 0).bind fun a10 =>
(aI h7 a10 vp1).bind fun v11 =>
(gR h7 a0 8 1).bind fun a12 =>
(gR h7 a12 0 3).bind fun a13 =>
(aI h7 a13 vp1).bind fun v14 =>
(cO h7 a8 6 (F_X6_addOut h7 a8 v11 (-v14))).bind fun h15 =>
(gR h15 a0 8 1).bind fun a16 =>
(gR h15 a16 0 0).bind fun a17 =>
(sI h15 a17 vp1 vp2).bind fun h18 =>
(gR h18 a0 8 0).bind fun a19 =>
(gR h18 a0 8 1).bind fun a20 =>
(cO h18 a20 0 (F_X0_held h18 a20 vp1)).bind fun v21 =>
(cO h18 a19 6 (F_X6_addTotal h18 a19 vp2 v21)).bind fun h22 =>
(gR h22 a0 8 0).bind fun a23 =>
(gR h22 a0 8 1).bind fun a24 =>
(gR h22 a24 0 3).bind fun a25 =>
(aI h22 a25 vp1).bind fun v26 =>
(cO h22 a23 6 (F_X6_addOut h22 a23 vp2 v26)).bind fun h27 =>
some h27
set_option maxRecDepth 100000 in
set_option maxHeartbeats 4000000 in
theorem c_X8_relocate (l : Launch) (G : GG) (B : Nat) (h : Hp) (a0 : Nat) (vp1 : Int32) (vp2 : Int32) (hr : Hp) (hF : F_X8_relocate h a0 vp1 vp2 = some hr) : CV l yX8_relocate cX8_relocate 3 1 24 0 0 G B h [.ref (B + a0), .int vp1, .int vp2] hr := by
  refine ent_v rfl (Nat.le_of_ble_eq_true rfl) ?_
  intro p e s m args below meth c ls Q CX hnm hret P hl
  have CX : Cxt p m c cX8_relocate 3 s args RX8 G B := CX
  obtain ⟨⟨hx, hb, hml, hown, hts⟩, -, -⟩ := id CX
  replace hl : lv_has ls 3 [(0, .ref (B + a0)), (1, .int vp1), (2, .int vp2)] := hl
  generalize s.heap = H at P ⊢
  generalize ([] : List Loc) = locs at P ⊢
  unfold F_X8_relocate at hF
  refine lv_aload_n (pc := 0) hx hb dX8_relocate_0 rfl (lv_at hl 0 rfl) ?_
  refine r_gR (pc := 1) CX P hF fl_X8_12 dX8_relocate_1 (fun a1 hF => ?_)
  refine lv_aload_n (pc := 4) hx hb dX8_relocate_4 rfl (lv_at hl 0 rfl) ?_
  refine r_gR (pc := 5) CX P hF fl_X8_21 dX8_relocate_5 (fun a2 hF => ?_)
  refine r_gR (pc := 8) CX P hF fl_X8_69 dX8_relocate_8 (fun a3 hF => ?_)
  refine lv_iload_n (pc := 11) hx hb dX8_relocate_11 rfl (lv_at hl 1 rfl) ?_
  refine r_aI (pc := 12) CX P hF dX8_relocate_12 (fun v4 hF => ?_)
  refine lv_aload_n (pc := 13) hx hb dX8_relocate_13 rfl (lv_at hl 0 rfl) ?_
  refine r_gR (pc := 14) CX P hF fl_X8_21 dX8_relocate_14 (fun a5 hF => ?_)
  refine lv_iload_n (pc := 17) hx hb dX8_relocate_17 rfl (lv_at hl 1 rfl) ?_
  refine r_cVp (pc := 18) (As := [.int vp1]) (rest := [.int v4, .ref (B + a1)]) CX P hl.1 hF kv_X8_111 (fun r q => c_X0_held l G B _ _ _ _ q) rfl rfl ⟨Nat.le_of_ble_eq_true rfl, Nat.le_of_ble_eq_true rfl⟩ (Nat.le_of_ble_eq_true rfl) ⟨Nat.le_of_ble_eq_true rfl, Nat.le_of_ble_eq_true rfl⟩ dX8_relocate_18 (fun v6 H locs P hF => ?_)
  refine lv_ineg (pc := 21) hx hb dX8_relocate_21 ?_
  refine r_cVv (pc := 22) (As := [.int v4, .int (-v6)]) (rest := []) CX P hl.1 hF kv_X8_91 (fun h1 q => c_X6_addTotal l G B _ _ _ _ _ q) rfl rfl ⟨Nat.le_of_ble_eq_true rfl, Nat.le_of_ble_eq_true rfl⟩ (Nat.le_of_ble_eq_true rfl) ⟨Nat.le_of_ble_eq_true rfl, Nat.le_of_ble_eq_true rfl⟩ dX8_relocate_22 (fun h7 H locs P hF => ?_)
  refine lv_aload_n (pc := 25) hx hb dX8_relocate_25 rfl (lv_at hl 0 rfl) ?_
  refine r_gR (pc := 26) CX P hF fl_X8_12 dX8_relocate_26 (fun a8 hF => ?_)
  refine lv_aload_n (pc := 29) hx hb dX8_relocate_29 rfl (lv_at hl 0 rfl) ?_
  refine r_gR (pc := 30) CX P hF fl_X8_21 dX8_relocate_30 (fun a9 hF => ?_)
  refine r_gR (pc := 33) CX P hF fl_X8_69 dX8_relocate_33 (fun a10 hF => ?_)
  refine lv_iload_n (pc := 36) hx hb dX8_relocate_36 rfl (lv_at hl 1 rfl) ?_
  refine r_aI (pc := 37) CX P hF dX8_relocate_37 (fun v11 hF => ?_)
  refine lv_aload_n (pc := 38) hx hb dX8_relocate_38 rfl (lv_at hl 0 rfl) ?_
  refine r_gR (pc := 39) CX P hF fl_X8_21 dX8_relocate_39 (fun a12 hF => ?_)
  refine r_gR (pc := 42) CX P hF fl_X8_95 dX8_relocate_42 (fun a13 hF => ?_)
  refine lv_iload_n (pc := 45) hx hb dX8_relocate_45 rfl (lv_at hl 1 rfl) ?_
  refine r_aI (pc := 46) CX P hF dX8_relocate_46 (fun v14 hF => ?_)
  refine lv_ineg (pc := 47) hx hb dX8_relocate_47 ?_
  refine r_cVv (pc := 48) (As := [.int v11, .int (-v14)]) (rest := []) CX P hl.1 hF kv_X8_98 (fun h1 q => c_X6_addOut l G B _ _ _ _ _ q) rfl rfl ⟨Nat.le_of_ble_eq_true rfl, Nat.le_of_ble_eq_true rfl⟩ (Nat.le_of_ble_eq_true rfl) ⟨Nat.le_of_ble_eq_true rfl, Nat.le_of_ble_eq_true rfl⟩ dX8_relocate_48 (fun h15 H locs P hF => ?_)
  refine lv_aload_n (pc := 51) hx hb dX8_relocate_51 rfl (lv_at hl 0 rfl) ?_
  refine r_gR (pc := 52) CX P hF fl_X8_21 dX8_relocate_52 (fun a16 hF => ?_)
  refine r_gR (pc := 55) CX P hF fl_X8_69 dX8_relocate_55 (fun a17 hF => ?_)
  refine lv_iload_n (pc := 58) hx hb dX8_relocate_58 rfl (lv_at hl 1 rfl) ?_
  refine lv_iload_n (pc := 59) hx hb dX8_relocate_59 rfl (lv_at hl 2 rfl) ?_
  refine r_sI (pc := 60) CX P hF dX8_relocate_60 (fun h18 H locs P hF => ?_)
  refine lv_aload_n (pc := 61) hx hb dX8_relocate_61 rfl (lv_at hl 0 rfl) ?_
  refine r_gR (pc := 62) CX P hF fl_X8_12 dX8_relocate_62 (fun a19 hF => ?_)
  refine lv_iload_n (pc := 65) hx hb dX8_relocate_65 rfl (lv_at hl 2 rfl) ?_
  refine lv_aload_n (pc := 66) hx hb dX8_relocate_66 rfl (lv_at hl 0 rfl) ?_
  refine r_gR (pc := 67) CX P hF fl_X8_21 dX8_relocate_67 (fun a20 hF => ?_)
  refine lv_iload_n (pc := 70) hx hb dX8_relocate_70 rfl (lv_at hl 1 rfl) ?_
  refine r_cVp (pc := 71) (As := [.int vp1]) (rest := [.int vp2, .ref (B + a19)]) CX P hl.1 hF kv_X8_111 (fun r q => c_X0_held l G B _ _ _ _ q) rfl rfl ⟨Nat.le_of_ble_eq_true rfl, Nat.le_of_ble_eq_true rfl⟩ (Nat.le_of_ble_eq_true rfl) ⟨Nat.le_of_ble_eq_true rfl, Nat.le_of_ble_eq_true rfl⟩ dX8_relocate_71 (fun v21 H locs P hF => ?_)
  refine r_cVv (pc := 74) (As := [.int vp2, .int v21]) (rest := []) CX P hl.1 hF kv_X8_91 (fun h1 q => c_X6_addTotal l G B _ _ _ _ _ q) rfl rfl ⟨Nat.le_of_ble_eq_true rfl, Nat.le_of_ble_eq_true rfl⟩ (Nat.le_of_ble_eq_true rfl) ⟨Nat.le_of_ble_eq_true rfl, Nat.le_of_ble_eq_true rfl⟩ dX8_relocate_74 (fun h22 H locs P hF => ?_)
  refine lv_aload_n (pc := 77) hx hb dX8_relocate_77 rfl (lv_at hl 0 rfl) ?_
  refine r_gR (pc := 78) CX P hF fl_X8_12 dX8_relocate_78 (fun a23 hF => ?_)
  refine lv_iload_n (pc := 81) hx hb dX8_relocate_81 rfl (lv_at hl 2 rfl) ?_
  refine lv_aload_n (pc := 82) hx hb dX8_relocate_82 rfl (lv_at hl 0 rfl) ?_
  refine r_gR (pc := 83) CX P hF fl_X8_21 dX8_relocate_83 (fun a24 hF => ?_)
  refine r_gR (pc := 86) CX P hF fl_X8_95 dX8_relocate_86 (fun a25 hF => ?_)
  refine lv_iload_n (pc := 89) hx hb dX8_relocate_89 rfl (lv_at hl 1 rfl) ?_
  refine r_aI (pc := 90) CX P hF dX8_relocate_90 (fun v26 hF => ?_)
  refine r_cVv (pc := 91) (As := [.int vp2, .int v26]) (rest := []) CX P hl.1 hF kv_X8_98 (fun h1 q => c_X6_addOut l G B _ _ _ _ _ q) rfl rfl ⟨Nat.le_of_ble_eq_true rfl, Nat.le_of_ble_eq_true rfl⟩ (Nat.le_of_ble_eq_true rfl) ⟨Nat.le_of_ble_eq_true rfl, Nat.le_of_ble_eq_true rfl⟩ dX8_relocate_91 (fun h27 H locs P hF => ?_)
  cases hF
  exact hret _ _ _ _ P dX8_relocate_94
def F_X8_noteStalls_L9 (h7 : Hp) (a2 : Nat) (v3 : Int32) (v4 : Int32) (v5 : Int32) (v6 : Int32) : Option ((Int32 × Int32 × Int32 × Int32) ⊕ (Int32 × Int32 × Int32)) :=
if 16 ≤ v6 then (
some (.inr (v3, v4, v5))) else (
(gR h7 a2 8 1).bind fun a8 =>
(gR h7 a8 0 0).bind fun a9 =>
(aI h7 a9 v6).bind fun v10 =>
(if v10 = (-1) then (
some (0 : Int32)) else (
(gR h7 a2 8 0).bind fun a12 =>
(gR h7 a2 8 1).bind fun a13 =>
(gR h7 a13 0 0).bind fun a14 =>
(aI h7 a14 v6).bind fun v15 =>
(cO h7 a12 6 (F_X6_pathBits h7 a12 v15)).bind fun v16 =>
some (v16 : Int32))).bind fun v17 =>
(gR h7 a2 8 1).bind fun a18 =>
(gR h7 a18 0 4).bind fun a19 =>
(aI h7 a19 v6).bind fun v20 =>
if v20 ≤ 0 then (
bl (v4 ||| v17) fun v21 =>
(gR h7 a2 8 1).bind fun a22 =>
(gR h7 a22 0 5).bind fun a23 =>
(aI h7 a23 v6).bind fun v24 =>
(if v24 ≤ 0 then (
some (0 : Int32)) else (
some (v17 : Int32))).bind fun v26 =>
bl (v5 ||| v26) fun v27 =>
bl (v6 + 1) fun v28 =>
some (.inl (v3, v21, v27, v28))) else (
bl (v3 ||| v17) fun v29 =>
bl (v6 + 1) fun v30 =>
some (.inl (v29, v4, v5, v30))))
def F_X8_noteStalls_L110 (a35 : Nat) (v36 : Int32) (v37 : Int32) (v38 : Int32) (v39 : Int32) (h40 : Hp) : Option ((Int32 × Hp) ⊕ (Hp)) :=
(gR h40 a35 8 0).bind fun a41 =>
(gI h40 a41 6 2).bind fun v42 =>
if v42 ≤ v39 then (
some (.inr h40)) else (
(gR h40 a35 8 0).bind fun a43 =>
(gR h40 a43 6 1).bind fun a44 =>
(aI h40 a44 v39).bind fun v45 =>
(gR h40 a35 8 2).bind fun a46 =>
(if ((v36 >>> (v45 &&& 31)) &&& 1) = 1 then (
some (1 : Int32)) else (
some (0 : Int32))).bind fun v48 =>
(cO h40 a46 1 (F_X1_note h40 a46 v45 0 v48)).bind fun h49 =>
(gR h49 a35 8 2).bind fun a50 =>
(if (((v36 &&& (v37 ^^^ (-1))) >>> (v45 &&& 31)) &&& 1) = 1 then (
some (1 : Int32)) else (
some (0 : Int32))).bind fun v52 =>
(cO h49 a50 1 (F_X1_note h49 a50 v45 1 v52)).bind fun h53 =>
(gR h53 a35 8 2).bind fun a54 =>
(if ((v38 >>> (v45 &&& 31)) &&& 1) = 1 then (
some (1 : Int32)) else (
some (0 : Int32))).bind fun v56 =>
(cO h53 a54 1 (F_X1_note h53 a54 v45 2 v56)).bind fun h57 =>
bl (v39 + 1) fun v58 =>
some (.inl (v58, h57)))
def F_X8_noteStalls (h : Hp) (a0 : Nat) : Option (Hp) :=
(loopF (fun x => F_X8_noteStalls_L9 h a0 x.1 x.2.1 x.2.2.1 x.2.2.2) 6000 (0, 0, 0, 0)).bind fun q1 =>
bl q1.1 fun v31 =>
bl q1.2.1 fun v32 =>
bl q1.2.2 fun v33 =>
(loopF (fun x => F_X8_noteStalls_L110 a0 v31 v32 v33 x.1 x.2) 6000 (0, h)).bind fun h59 =>
(gR h59 a0 8 3).bind fun a60 =>
(gR h59 a0 8 2).bind fun a61 =>
(cO h59 a60 7 (F_X7_fire h59 a60 a61)).bind fun h62 =>
some h62
set_option maxRecDepth 100000 in
set_option maxHeartbeats 4000000 in
theorem c_X8_noteStalls (l : Launch) (G : GG) (B : Nat) (h : Hp) (a0 : Nat) (hr : Hp) (hF : F_X8_noteStalls h a0 = some hr) : CV l yX8_noteStalls cX8_noteStalls 6 3 68 0 0 G B h [.ref (B + a0)] hr := by
  refine ent_v rfl (Nat.le_of_ble_eq_true rfl) ?_
  intro p e s m args below meth c ls Q CX hnm hret P hl
  have CX : Cxt p m c cX8_noteStalls 6 s args RX8 G B := CX
  obtain ⟨⟨hx, hb, hml, hown, hts⟩, -, -⟩ := id CX
  replace hl : lv_has ls 6 [(0, .ref (B + a0))] := hl
  generalize s.heap = H at P ⊢
  generalize ([] : List Loc) = locs at P ⊢
  unfold F_X8_noteStalls at hF
  refine lv_iconst (pc := 0) (v := 0) hx hb dX8_noteStalls_0 (by decide) ?_
  refine lv_istore_n (pc := 1) hx hb dX8_noteStalls_1 rfl hl (by decide) rfl (fun ls hl => ?_)
  replace hl : lv_has ls 6 [(1, .int 0), (0, .ref (B + a0))] := hl
  refine lv_iconst (pc := 2) (v := 0) hx hb dX8_noteStalls_2 (by decide) ?_
  refine lv_istore_n (pc := 3) hx hb dX8_noteStalls_3 rfl hl (by decide) rfl (fun ls hl => ?_)
  replace hl : lv_has ls 6 [(2, .int 0), (1, .int 0), (0, .ref (B + a0))] := hl
  refine lv_iconst (pc := 4) (v := 0) hx hb dX8_noteStalls_4 (by decide) ?_
  refine lv_istore_n (pc := 5) hx hb dX8_noteStalls_5 rfl hl (by decide) rfl (fun ls hl => ?_)
  replace hl : lv_has ls 6 [(3, .int 0), (2, .int 0), (1, .int 0), (0, .ref (B + a0))] := hl
  refine lv_iconst (pc := 6) (v := 0) hx hb dX8_noteStalls_6 (by decide) ?_
  refine lv_istore (pc := 7) hx hb dX8_noteStalls_7 hl (by decide) rfl (fun ls hl => ?_)
  replace hl : lv_has ls 6 [(4, .int 0), (3, .int 0), (2, .int 0), (1, .int 0), (0, .ref (B + a0))] := hl
  obtain ⟨r1, hLp1, hK1⟩ := bd_some hF
  have hX1 : ∀ (v31 : Int32) (v32 : Int32) (v33 : Int32) (H : Heap) (locs : List Loc) (ls : Array Slot), Pic G B h s H locs → lv_has ls 6 [(0, .ref (B + a0)), (1, .int v31), (2, .int v32), (3, .int v33)] → (v31, v32, v33) = r1 → W p l e (rmM 3 68 0 0) s m args below meth c H locs 0 0 Q (F0 m 107 ls []) := by
    intro v31 v32 v33 H locs ls P hl er
    subst er
    have hF := hK1
    replace hF := bl_i hF
    replace hF := bl_i hF
    replace hF := bl_i hF
    try dsimp only at hF
    refine lv_iconst (pc := 107) (v := 0) hx hb dX8_noteStalls_107 (by decide) ?_
    refine lv_istore (pc := 108) hx hb dX8_noteStalls_108 hl (by decide) rfl (fun ls hl => ?_)
    replace hl : lv_has ls 6 [(4, .int 0), (0, .ref (B + a0)), (1, .int v31), (2, .int v32), (3, .int v33)] := hl
    obtain ⟨r34, hLp34, hK34⟩ := bd_some hF
    have hX34 : ∀ (h59 : Hp) (H : Heap) (locs : List Loc) (ls : Array Slot), Pic G B h59 s H locs → lv_has ls 6 [(0, .ref (B + a0))] → h59 = r34 → W p l e (rmM 3 68 0 0) s m args below meth c H locs 0 0 Q (F0 m 219 ls []) := by
      intro h59 H locs ls P hl er
      subst er
      have hF := hK34
      refine lv_aload_n (pc := 219) hx hb dX8_noteStalls_219 rfl (lv_at hl 0 rfl) ?_
      refine r_gR (pc := 220) CX P hF fl_X8_35 dX8_noteStalls_220 (fun a60 hF => ?_)
      refine lv_aload_n (pc := 223) hx hb dX8_noteStalls_223 rfl (lv_at hl 0 rfl) ?_
      refine r_gR (pc := 224) CX P hF fl_X8_28 dX8_noteStalls_224 (fun a61 hF => ?_)
      refine r_cVv (pc := 227) (As := [.ref (B + a61)]) (rest := []) CX P hl.1 hF kv_X8_158 (fun h1 q => c_X7_fire l G B _ _ _ _ q) rfl rfl ⟨Nat.le_of_ble_eq_true rfl, Nat.le_of_ble_eq_true rfl⟩ (Nat.le_of_ble_eq_true rfl) ⟨Nat.le_of_ble_eq_true rfl, Nat.le_of_ble_eq_true rfl⟩ dX8_noteStalls_227 (fun h62 H locs P hF => ?_)
      cases hF
      exact hret _ _ _ _ P dX8_noteStalls_230
    have hL34 : ∀ (n : Nat) (v39 : Int32) (h40 : Hp) (H : Heap) (locs : List Loc) (ls : Array Slot), Pic G B h40 s H locs → lv_has ls 6 [(0, .ref (B + a0)), (1, .int v31), (2, .int v32), (3, .int v33), (4, .int v39)] → loopF (fun x => F_X8_noteStalls_L110 a0 v31 v32 v33 x.1 x.2) n (v39, h40) = some r34 → W p l e (rmM 3 68 0 0) s m args below meth c H locs 0 0 Q (F0 m 110 ls []) := by
      intro n
      induction n with
      | zero => intro v39 h40 H locs ls P hl hq; cases hq
      | succ n ih =>
        intro v39 h40 H locs ls P hl hq
        obtain ⟨z34, hS34, hI34, hR34⟩ := loop_some hq
        have hF : F_X8_noteStalls_L110 a0 v31 v32 v33 v39 h40 = some z34 := hS34
        unfold F_X8_noteStalls_L110 at hF
        refine lv_iload (pc := 110) hx hb dX8_noteStalls_110 (lv_at hl 4 rfl) ?_
        refine lv_aload_n (pc := 112) hx hb dX8_noteStalls_112 rfl (lv_at hl 0 rfl) ?_
        refine r_gR (pc := 113) CX P hF fl_X8_12 dX8_noteStalls_113 (fun a41 hF => ?_)
        refine r_gI (pc := 116) CX P hF fl_X8_148 dX8_noteStalls_116 (fun v42 hF => ?_)
        refine lv_icmp_ge (pc := 119) (tgt := 219) hx hb dX8_noteStalls_119 (by decide) (fun hc => ?_) (fun hc => ?_)
        · rw [if_pos hc] at hF
          exact hX34 _ _ _ _ P (lv_sub hl [0] rfl) (hR34 _ (Option.some.inj hF).symm)
        · rw [if_neg hc] at hF
          refine lv_aload_n (pc := 122) hx hb dX8_noteStalls_122 rfl (lv_at hl 0 rfl) ?_
          refine r_gR (pc := 123) CX P hF fl_X8_12 dX8_noteStalls_123 (fun a43 hF => ?_)
          refine r_gR (pc := 126) CX P hF fl_X8_151 dX8_noteStalls_126 (fun a44 hF => ?_)
          refine lv_iload (pc := 129) hx hb dX8_noteStalls_129 (lv_at hl 4 rfl) ?_
          refine r_aI (pc := 131) CX P hF dX8_noteStalls_131 (fun v45 hF => ?_)
          refine lv_istore (pc := 132) hx hb dX8_noteStalls_132 hl (by decide) rfl (fun ls hl => ?_)
          replace hl : lv_has ls 6 [(5, .int v45), (0, .ref (B + a0)), (1, .int v31), (2, .int v32), (3, .int v33), (4, .int v39)] := hl
          refine lv_aload_n (pc := 134) hx hb dX8_noteStalls_134 rfl (lv_at hl 1 rfl) ?_
          refine r_gR (pc := 135) CX P hF fl_X8_28 dX8_noteStalls_135 (fun a46 hF => ?_)
          refine lv_iload (pc := 138) hx hb dX8_noteStalls_138 (lv_at hl 0 rfl) ?_
          refine lv_iconst (pc := 140) (v := 0) hx hb dX8_noteStalls_140 (by decide) ?_
          refine lv_iload_n (pc := 141) hx hb dX8_noteStalls_141 rfl (lv_at hl 2 rfl) ?_
          refine lv_iload (pc := 142) hx hb dX8_noteStalls_142 (lv_at hl 0 rfl) ?_
          refine lv_ishr (pc := 144) hx hb dX8_noteStalls_144 ?_
          refine lv_iconst (pc := 145) (v := 1) hx hb dX8_noteStalls_145 (by decide) ?_
          refine lv_iand (pc := 146) hx hb dX8_noteStalls_146 ?_
          refine lv_iconst (pc := 147) (v := 1) hx hb dX8_noteStalls_147 (by decide) ?_
          obtain ⟨j47, hA47, hK47⟩ := bd_some hF
          have hJ47 : ∀ (v48 : Int32) (H : Heap) (locs : List Loc) (ls : Array Slot), Pic G B h40 s H locs → lv_has ls 6 [(0, .ref (B + a0)), (1, .int v31), (2, .int v32), (3, .int v33), (4, .int v39), (5, .int v45)] → v48 = j47 → W p l e (rmM 3 68 0 0) s m args below meth c H locs 0 0 Q (F0 m 156 ls [.int v48, .int 0, .int v45, .ref (B + a46)]) := by
            intro v48 H locs ls P hl ej
            subst ej
            have hF := hK47
            refine r_cVv (pc := 156) (As := [.int v45, .int 0, .int v48]) (rest := []) CX P hl.1 hF kv_X8_154 (fun h1 q => c_X1_note l G B _ _ _ _ _ _ q) rfl rfl ⟨Nat.le_of_ble_eq_true rfl, Nat.le_of_ble_eq_true rfl⟩ (Nat.le_of_ble_eq_true rfl) ⟨Nat.le_of_ble_eq_true rfl, Nat.le_of_ble_eq_true rfl⟩ dX8_noteStalls_156 (fun h49 H locs P hF => ?_)
            refine lv_aload_n (pc := 159) hx hb dX8_noteStalls_159 rfl (lv_at hl 0 rfl) ?_
            refine r_gR (pc := 160) CX P hF fl_X8_28 dX8_noteStalls_160 (fun a50 hF => ?_)
            refine lv_iload (pc := 163) hx hb dX8_noteStalls_163 (lv_at hl 5 rfl) ?_
            refine lv_iconst (pc := 165) (v := 1) hx hb dX8_noteStalls_165 (by decide) ?_
            refine lv_iload_n (pc := 166) hx hb dX8_noteStalls_166 rfl (lv_at hl 1 rfl) ?_
            refine lv_iload_n (pc := 167) hx hb dX8_noteStalls_167 rfl (lv_at hl 2 rfl) ?_
            refine lv_iconst (pc := 168) (v := (-1)) hx hb dX8_noteStalls_168 (by decide) ?_
            refine lv_ixor (pc := 169) hx hb dX8_noteStalls_169 ?_
            refine lv_iand (pc := 170) hx hb dX8_noteStalls_170 ?_
            refine lv_iload (pc := 171) hx hb dX8_noteStalls_171 (lv_at hl 5 rfl) ?_
            refine lv_ishr (pc := 173) hx hb dX8_noteStalls_173 ?_
            refine lv_iconst (pc := 174) (v := 1) hx hb dX8_noteStalls_174 (by decide) ?_
            refine lv_iand (pc := 175) hx hb dX8_noteStalls_175 ?_
            refine lv_iconst (pc := 176) (v := 1) hx hb dX8_noteStalls_176 (by decide) ?_
            obtain ⟨j51, hA51, hK51⟩ := bd_some hF
            have hJ51 : ∀ (v52 : Int32) (H : Heap) (locs : List Loc) (ls : Array Slot), Pic G B h49 s H locs → lv_has ls 6 [(0, .ref (B + a0)), (1, .int v31), (2, .int v32), (3, .int v33), (4, .int v39), (5, .int v45)] → v52 = j51 → W p l e (rmM 3 68 0 0) s m args below meth c H locs 0 0 Q (F0 m 185 ls [.int v52, .int 1, .int v45, .ref (B + a50)]) := by
              intro v52 H locs ls P hl ej
              subst ej
              have hF := hK51
              refine r_cVv (pc := 185) (As := [.int v45, .int 1, .int v52]) (rest := []) CX P hl.1 hF kv_X8_154 (fun h1 q => c_X1_note l G B _ _ _ _ _ _ q) rfl rfl ⟨Nat.le_of_ble_eq_true rfl, Nat.le_of_ble_eq_true rfl⟩ (Nat.le_of_ble_eq_true rfl) ⟨Nat.le_of_ble_eq_true rfl, Nat.le_of_ble_eq_true rfl⟩ dX8_noteStalls_185 (fun h53 H locs P hF => ?_)
              refine lv_aload_n (pc := 188) hx hb dX8_noteStalls_188 rfl (lv_at hl 0 rfl) ?_
              refine r_gR (pc := 189) CX P hF fl_X8_28 dX8_noteStalls_189 (fun a54 hF => ?_)
              refine lv_iload (pc := 192) hx hb dX8_noteStalls_192 (lv_at hl 5 rfl) ?_
              refine lv_iconst (pc := 194) (v := 2) hx hb dX8_noteStalls_194 (by decide) ?_
              refine lv_iload_n (pc := 195) hx hb dX8_noteStalls_195 rfl (lv_at hl 3 rfl) ?_
              refine lv_iload (pc := 196) hx hb dX8_noteStalls_196 (lv_at hl 5 rfl) ?_
              refine lv_ishr (pc := 198) hx hb dX8_noteStalls_198 ?_
              refine lv_iconst (pc := 199) (v := 1) hx hb dX8_noteStalls_199 (by decide) ?_
              refine lv_iand (pc := 200) hx hb dX8_noteStalls_200 ?_
              refine lv_iconst (pc := 201) (v := 1) hx hb dX8_noteStalls_201 (by decide) ?_
              obtain ⟨j55, hA55, hK55⟩ := bd_some hF
              have hJ55 : ∀ (v56 : Int32) (H : Heap) (locs : List Loc) (ls : Array Slot), Pic G B h53 s H locs → lv_has ls 6 [(0, .ref (B + a0)), (1, .int v31), (2, .int v32), (3, .int v33), (4, .int v39)] → v56 = j55 → W p l e (rmM 3 68 0 0) s m args below meth c H locs 0 0 Q (F0 m 210 ls [.int v56, .int 2, .int v45, .ref (B + a54)]) := by
                intro v56 H locs ls P hl ej
                subst ej
                have hF := hK55
                refine r_cVv (pc := 210) (As := [.int v45, .int 2, .int v56]) (rest := []) CX P hl.1 hF kv_X8_154 (fun h1 q => c_X1_note l G B _ _ _ _ _ _ q) rfl rfl ⟨Nat.le_of_ble_eq_true rfl, Nat.le_of_ble_eq_true rfl⟩ (Nat.le_of_ble_eq_true rfl) ⟨Nat.le_of_ble_eq_true rfl, Nat.le_of_ble_eq_true rfl⟩ dX8_noteStalls_210 (fun h57 H locs P hF => ?_)
                obtain ⟨v58, ev58, hF⟩ := bl_o hF
                refine lv_iinc (pc := 213) (k := 4) (v := v58) hx hb dX8_noteStalls_213 hl rfl ev58 (by decide) rfl (fun ls hl => ?_)
                replace hl : lv_has ls 6 [(4, .int v58), (0, .ref (B + a0)), (1, .int v31), (2, .int v32), (3, .int v33)] := hl
                refine lv_goto (pc := 216) (tgt := 110) hx hb dX8_noteStalls_216 (by decide) ?_
                exact ih _ _ _ _ _ P (lv_sub hl [1, 2, 3, 4, 0] rfl) (hI34 _ (Option.some.inj hF).symm)
              replace hF := hA55
              refine lv_icmp_ne (pc := 202) (tgt := 209) hx hb dX8_noteStalls_202 (by decide) (fun hc => ?_) (fun hc => ?_)
              · rw [if_neg hc] at hF
                refine lv_iconst (pc := 209) (v := 0) hx hb dX8_noteStalls_209 (by decide) ?_
                exact hJ55 _ _ _ _ P (lv_sub hl [0, 1, 2, 3, 4] rfl) (Option.some.inj hF)
              · rw [if_pos hc] at hF
                refine lv_iconst (pc := 205) (v := 1) hx hb dX8_noteStalls_205 (by decide) ?_
                refine lv_goto (pc := 206) (tgt := 210) hx hb dX8_noteStalls_206 (by decide) ?_
                exact hJ55 _ _ _ _ P (lv_sub hl [0, 1, 2, 3, 4] rfl) (Option.some.inj hF)
            replace hF := hA51
            refine lv_icmp_ne (pc := 177) (tgt := 184) hx hb dX8_noteStalls_177 (by decide) (fun hc => ?_) (fun hc => ?_)
            · rw [if_neg hc] at hF
              refine lv_iconst (pc := 184) (v := 0) hx hb dX8_noteStalls_184 (by decide) ?_
              exact hJ51 _ _ _ _ P (lv_sub hl [0, 1, 2, 3, 4, 5] rfl) (Option.some.inj hF)
            · rw [if_pos hc] at hF
              refine lv_iconst (pc := 180) (v := 1) hx hb dX8_noteStalls_180 (by decide) ?_
              refine lv_goto (pc := 181) (tgt := 185) hx hb dX8_noteStalls_181 (by decide) ?_
              exact hJ51 _ _ _ _ P (lv_sub hl [0, 1, 2, 3, 4, 5] rfl) (Option.some.inj hF)
          replace hF := hA47
          refine lv_icmp_ne (pc := 148) (tgt := 155) hx hb dX8_noteStalls_148 (by decide) (fun hc => ?_) (fun hc => ?_)
          · rw [if_neg hc] at hF
            refine lv_iconst (pc := 155) (v := 0) hx hb dX8_noteStalls_155 (by decide) ?_
            exact hJ47 _ _ _ _ P (lv_sub hl [1, 2, 3, 4, 5, 0] rfl) (Option.some.inj hF)
          · rw [if_pos hc] at hF
            refine lv_iconst (pc := 151) (v := 1) hx hb dX8_noteStalls_151 (by decide) ?_
            refine lv_goto (pc := 152) (tgt := 156) hx hb dX8_noteStalls_152 (by decide) ?_
            exact hJ47 _ _ _ _ P (lv_sub hl [1, 2, 3, 4, 5, 0] rfl) (Option.some.inj hF)
    exact hL34 _ _ _ _ _ _ P (lv_sub hl [1, 2, 3, 4, 0] rfl) hLp34
  have hL1 : ∀ (n : Nat) (v3 : Int32) (v4 : Int32) (v5 : Int32) (v6 : Int32) (H : Heap) (locs : List Loc) (ls : Array Slot), Pic G B h s H locs → lv_has ls 6 [(0, .ref (B + a0)), (1, .int v3), (2, .int v4), (3, .int v5), (4, .int v6)] → loopF (fun x => F_X8_noteStalls_L9 h a0 x.1 x.2.1 x.2.2.1 x.2.2.2) n (v3, v4, v5, v6) = some r1 → W p l e (rmM 3 68 0 0) s m args below meth c H locs 0 0 Q (F0 m 9 ls []) := by
    intro n
    induction n with
    | zero => intro v3 v4 v5 v6 H locs ls P hl hq; cases hq
    | succ n ih =>
      intro v3 v4 v5 v6 H locs ls P hl hq
      obtain ⟨z1, hS1, hI1, hR1⟩ := loop_some hq
      have hF : F_X8_noteStalls_L9 h a0 v3 v4 v5 v6 = some z1 := hS1
      unfold F_X8_noteStalls_L9 at hF
      refine lv_iload (pc := 9) hx hb dX8_noteStalls_9 (lv_at hl 4 rfl) ?_
      refine lv_bipush (pc := 11) (v := 16) hx hb dX8_noteStalls_11 (by decide) ?_
      refine lv_icmp_ge (pc := 13) (tgt := 107) hx hb dX8_noteStalls_13 (by decide) (fun hc => ?_) (fun hc => ?_)
      · rw [if_pos hc] at hF
        exact hX1 _ _ _ _ _ _ P (lv_sub hl [0, 1, 2, 3] rfl) (hR1 _ (Option.some.inj hF).symm)
      · rw [if_neg hc] at hF
        refine lv_aload_n (pc := 16) hx hb dX8_noteStalls_16 rfl (lv_at hl 0 rfl) ?_
        refine r_gR (pc := 17) CX P hF fl_X8_21 dX8_noteStalls_17 (fun a8 hF => ?_)
        refine r_gR (pc := 20) CX P hF fl_X8_69 dX8_noteStalls_20 (fun a9 hF => ?_)
        refine lv_iload (pc := 23) hx hb dX8_noteStalls_23 (lv_at hl 4 rfl) ?_
        refine r_aI (pc := 25) CX P hF dX8_noteStalls_25 (fun v10 hF => ?_)
        refine lv_iconst (pc := 26) (v := (-1)) hx hb dX8_noteStalls_26 (by decide) ?_
        obtain ⟨j11, hA11, hK11⟩ := bd_some hF
        have hJ11 : ∀ (v17 : Int32) (H : Heap) (locs : List Loc) (ls : Array Slot), Pic G B h s H locs → lv_has ls 6 [(0, .ref (B + a0)), (1, .int v3), (2, .int v4), (3, .int v5), (4, .int v6)] → v17 = j11 → W p l e (rmM 3 68 0 0) s m args below meth c H locs 0 0 Q (F0 m 51 ls [.int v17]) := by
          intro v17 H locs ls P hl ej
          subst ej
          have hF := hK11
          refine lv_istore (pc := 51) hx hb dX8_noteStalls_51 hl (by decide) rfl (fun ls hl => ?_)
          replace hl : lv_has ls 6 [(5, .int v17), (0, .ref (B + a0)), (1, .int v3), (2, .int v4), (3, .int v5), (4, .int v6)] := hl
          refine lv_aload_n (pc := 53) hx hb dX8_noteStalls_53 rfl (lv_at hl 1 rfl) ?_
          refine r_gR (pc := 54) CX P hF fl_X8_21 dX8_noteStalls_54 (fun a18 hF => ?_)
          refine r_gR (pc := 57) CX P hF fl_X8_142 dX8_noteStalls_57 (fun a19 hF => ?_)
          refine lv_iload (pc := 60) hx hb dX8_noteStalls_60 (lv_at hl 5 rfl) ?_
          refine r_aI (pc := 62) CX P hF dX8_noteStalls_62 (fun v20 hF => ?_)
          refine lv_if_le (pc := 63) (tgt := 74) hx hb dX8_noteStalls_63 (by decide) (fun hc => ?_) (fun hc => ?_)
          · rw [if_pos hc] at hF
            refine lv_iload_n (pc := 74) hx hb dX8_noteStalls_74 rfl (lv_at hl 3 rfl) ?_
            refine lv_iload (pc := 75) hx hb dX8_noteStalls_75 (lv_at hl 0 rfl) ?_
            refine lv_ior (pc := 77) hx hb dX8_noteStalls_77 ?_
            refine lv_topi (fun v21 ev21 => ?_)
            replace hF := bl_e hF ev21
            refine lv_istore_n (pc := 78) hx hb dX8_noteStalls_78 rfl hl (by decide) rfl (fun ls hl => ?_)
            replace hl : lv_has ls 6 [(2, .int v21), (5, .int v17), (0, .ref (B + a0)), (1, .int v3), (3, .int v5), (4, .int v6)] := hl
            refine lv_iload_n (pc := 79) hx hb dX8_noteStalls_79 rfl (lv_at hl 4 rfl) ?_
            refine lv_aload_n (pc := 80) hx hb dX8_noteStalls_80 rfl (lv_at hl 2 rfl) ?_
            refine r_gR (pc := 81) CX P hF fl_X8_21 dX8_noteStalls_81 (fun a22 hF => ?_)
            refine r_gR (pc := 84) CX P hF fl_X8_145 dX8_noteStalls_84 (fun a23 hF => ?_)
            refine lv_iload (pc := 87) hx hb dX8_noteStalls_87 (lv_at hl 5 rfl) ?_
            refine r_aI (pc := 89) CX P hF dX8_noteStalls_89 (fun v24 hF => ?_)
            obtain ⟨j25, hA25, hK25⟩ := bd_some hF
            have hJ25 : ∀ (v26 : Int32) (H : Heap) (locs : List Loc) (ls : Array Slot), Pic G B h s H locs → lv_has ls 6 [(0, .ref (B + a0)), (1, .int v3), (2, .int v21), (4, .int v6)] → v26 = j25 → W p l e (rmM 3 68 0 0) s m args below meth c H locs 0 0 Q (F0 m 99 ls [.int v26, .int v5]) := by
              intro v26 H locs ls P hl ej
              subst ej
              have hF := hK25
              refine lv_ior (pc := 99) hx hb dX8_noteStalls_99 ?_
              refine lv_topi (fun v27 ev27 => ?_)
              replace hF := bl_e hF ev27
              refine lv_istore_n (pc := 100) hx hb dX8_noteStalls_100 rfl hl (by decide) rfl (fun ls hl => ?_)
              replace hl : lv_has ls 6 [(3, .int v27), (0, .ref (B + a0)), (1, .int v3), (2, .int v21), (4, .int v6)] := hl
              obtain ⟨v28, ev28, hF⟩ := bl_o hF
              refine lv_iinc (pc := 101) (k := 4) (v := v28) hx hb dX8_noteStalls_101 hl rfl ev28 (by decide) rfl (fun ls hl => ?_)
              replace hl : lv_has ls 6 [(4, .int v28), (3, .int v27), (0, .ref (B + a0)), (1, .int v3), (2, .int v21)] := hl
              refine lv_goto (pc := 104) (tgt := 9) hx hb dX8_noteStalls_104 (by decide) ?_
              exact ih _ _ _ _ _ _ _ P (lv_sub hl [2, 3, 4, 1, 0] rfl) (hI1 _ (Option.some.inj hF).symm)
            replace hF := hA25
            refine lv_if_le (pc := 90) (tgt := 98) hx hb dX8_noteStalls_90 (by decide) (fun hc => ?_) (fun hc => ?_)
            · rw [if_pos hc] at hF
              refine lv_iconst (pc := 98) (v := 0) hx hb dX8_noteStalls_98 (by decide) ?_
              exact hJ25 _ _ _ _ P (lv_sub hl [2, 3, 0, 5] rfl) (Option.some.inj hF)
            · rw [if_neg hc] at hF
              refine lv_iload (pc := 93) hx hb dX8_noteStalls_93 (lv_at hl 1 rfl) ?_
              refine lv_goto (pc := 95) (tgt := 99) hx hb dX8_noteStalls_95 (by decide) ?_
              exact hJ25 _ _ _ _ P (lv_sub hl [2, 3, 0, 5] rfl) (Option.some.inj hF)
          · rw [if_neg hc] at hF
            refine lv_iload_n (pc := 66) hx hb dX8_noteStalls_66 rfl (lv_at hl 2 rfl) ?_
            refine lv_iload (pc := 67) hx hb dX8_noteStalls_67 (lv_at hl 0 rfl) ?_
            refine lv_ior (pc := 69) hx hb dX8_noteStalls_69 ?_
            refine lv_topi (fun v29 ev29 => ?_)
            replace hF := bl_e hF ev29
            refine lv_istore_n (pc := 70) hx hb dX8_noteStalls_70 rfl hl (by decide) rfl (fun ls hl => ?_)
            replace hl : lv_has ls 6 [(1, .int v29), (5, .int v17), (0, .ref (B + a0)), (2, .int v4), (3, .int v5), (4, .int v6)] := hl
            refine lv_goto (pc := 71) (tgt := 101) hx hb dX8_noteStalls_71 (by decide) ?_
            obtain ⟨v30, ev30, hF⟩ := bl_o hF
            refine lv_iinc (pc := 101) (k := 5) (v := v30) hx hb dX8_noteStalls_101 hl rfl ev30 (by decide) rfl (fun ls hl => ?_)
            replace hl : lv_has ls 6 [(4, .int v30), (1, .int v29), (5, .int v17), (0, .ref (B + a0)), (2, .int v4), (3, .int v5)] := hl
            refine lv_goto (pc := 104) (tgt := 9) hx hb dX8_noteStalls_104 (by decide) ?_
            exact ih _ _ _ _ _ _ _ P (lv_sub hl [3, 1, 4, 5, 0] rfl) (hI1 _ (Option.some.inj hF).symm)
        replace hF := hA11
        refine lv_icmp_ne (pc := 27) (tgt := 34) hx hb dX8_noteStalls_27 (by decide) (fun hc => ?_) (fun hc => ?_)
        · rw [if_neg hc] at hF
          refine lv_aload_n (pc := 34) hx hb dX8_noteStalls_34 rfl (lv_at hl 0 rfl) ?_
          refine r_gR (pc := 35) CX P hF fl_X8_12 dX8_noteStalls_35 (fun a12 hF => ?_)
          refine lv_aload_n (pc := 38) hx hb dX8_noteStalls_38 rfl (lv_at hl 0 rfl) ?_
          refine r_gR (pc := 39) CX P hF fl_X8_21 dX8_noteStalls_39 (fun a13 hF => ?_)
          refine r_gR (pc := 42) CX P hF fl_X8_69 dX8_noteStalls_42 (fun a14 hF => ?_)
          refine lv_iload (pc := 45) hx hb dX8_noteStalls_45 (lv_at hl 4 rfl) ?_
          refine r_aI (pc := 47) CX P hF dX8_noteStalls_47 (fun v15 hF => ?_)
          refine r_cVp (pc := 48) (As := [.int v15]) (rest := []) CX P hl.1 hF kv_X8_139 (fun r q => c_X6_pathBits l G B _ _ _ _ q) rfl rfl ⟨Nat.le_of_ble_eq_true rfl, Nat.le_of_ble_eq_true rfl⟩ (Nat.le_of_ble_eq_true rfl) ⟨Nat.le_of_ble_eq_true rfl, Nat.le_of_ble_eq_true rfl⟩ dX8_noteStalls_48 (fun v16 H locs P hF => ?_)
          exact hJ11 _ _ _ _ P (lv_sub hl [0, 1, 2, 3, 4] rfl) (Option.some.inj hF)
        · rw [if_pos hc] at hF
          refine lv_iconst (pc := 30) (v := 0) hx hb dX8_noteStalls_30 (by decide) ?_
          refine lv_goto (pc := 31) (tgt := 51) hx hb dX8_noteStalls_31 (by decide) ?_
          exact hJ11 _ _ _ _ P (lv_sub hl [0, 1, 2, 3, 4] rfl) (Option.some.inj hF)
  exact hL1 _ _ _ _ _ _ _ _ P (lv_sub hl [4, 3, 2, 1, 0] rfl) hLp1
def F_X8_passTick (h : Hp) (a0 : Nat) : Option (Hp) :=
(gR h a0 8 1).bind fun a1 =>
(cO h a1 0 (F_X0_fadeStalls h a1)).bind fun h2 =>
(gI h2 a0 8 7).bind fun v3 =>
(pI h2 a0 8 7 (v3 + 1)).bind fun h4 =>
some h4
set_option maxRecDepth 100000 in
set_option maxHeartbeats 4000000 in
theorem c_X8_passTick (l : Launch) (G : GG) (B : Nat) (h : Hp) (a0 : Nat) (hr : Hp) (hF : F_X8_passTick h a0 = some hr) : CV l yX8_passTick cX8_passTick 1 2 60 0 0 G B h [.ref (B + a0)] hr := by
  refine ent_v rfl (Nat.le_of_ble_eq_true rfl) ?_
  intro p e s m args below meth c ls Q CX hnm hret P hl
  have CX : Cxt p m c cX8_passTick 1 s args RX8 G B := CX
  obtain ⟨⟨hx, hb, hml, hown, hts⟩, -, -⟩ := id CX
  replace hl : lv_has ls 1 [(0, .ref (B + a0))] := hl
  generalize s.heap = H at P ⊢
  generalize ([] : List Loc) = locs at P ⊢
  unfold F_X8_passTick at hF
  refine lv_aload_n (pc := 0) hx hb dX8_passTick_0 rfl (lv_at hl 0 rfl) ?_
  refine r_gR (pc := 1) CX P hF fl_X8_21 dX8_passTick_1 (fun a1 hF => ?_)
  refine r_cVv (pc := 4) (As := []) (rest := []) CX P hl.1 hF kv_X8_161 (fun h1 q => c_X0_fadeStalls l G B _ _ _ q) rfl rfl ⟨Nat.le_of_ble_eq_true rfl, Nat.le_of_ble_eq_true rfl⟩ (Nat.le_of_ble_eq_true rfl) ⟨Nat.le_of_ble_eq_true rfl, Nat.le_of_ble_eq_true rfl⟩ dX8_passTick_4 (fun h2 H locs P hF => ?_)
  refine lv_aload_n (pc := 7) hx hb dX8_passTick_7 rfl (lv_at hl 0 rfl) ?_
  refine lv_dup (pc := 8) hx hb dX8_passTick_8 rfl ?_
  refine r_gI (pc := 9) CX P hF fl_X8_49 dX8_passTick_9 (fun v3 hF => ?_)
  refine lv_iconst (pc := 12) (v := 1) hx hb dX8_passTick_12 (by decide) ?_
  refine lv_iadd (pc := 13) hx hb dX8_passTick_13 ?_
  refine r_pI (pc := 14) CX P hF fl_X8_49 dX8_passTick_14 (fun h4 H locs P hF => ?_)
  cases hF
  exact hret _ _ _ _ P dX8_passTick_17
