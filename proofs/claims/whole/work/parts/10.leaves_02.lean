def F_X6_emptyStocks_L11 (a3 : Nat) (v4 : Int32) (v5 : Int32) (v6 : Int32) (h7 : Hp) : Option ((Int32 × Int32 × Hp) ⊕ (Int32 × Hp)) :=
if 12 ≤ v6 then (
some (.inr (v5, h7))) else (
if ((v4 >>> (v6 &&& 31)) &&& 1) = 1 then (
(gR h7 a3 6 4).bind fun a9 =>
(aI h7 a9 v6).bind fun v10 =>
if v10 ≤ 0 then (
bl (v6 + 1) fun v11 =>
some (.inl (v5, v11, h7))) else (
(gR h7 a3 6 4).bind fun a12 =>
(aI h7 a12 v6).bind fun v13 =>
bl (v5 + v13) fun v14 =>
(gR h7 a3 6 4).bind fun a15 =>
(aI h7 a15 v6).bind fun v16 =>
(cO h7 a3 6 (F_X6_addStock h7 a3 v6 (-v16))).bind fun h17 =>
bl (v6 + 1) fun v18 =>
some (.inl (v14, v18, h17)))) else (
bl (v6 + 1) fun v8 =>
some (.inl (v5, v8, h7))))
def F_X6_emptyStocks (h : Hp) (a0 : Nat) (vp1 : Int32) : Option (Int32 × Hp) :=
(cO h a0 6 (F_X6_bitsBelow h a0 vp1)).bind fun v1 =>
(loopF (fun x => F_X6_emptyStocks_L11 a0 v1 x.1 x.2.1 x.2.2) 6000 (0, 0, h)).bind fun q2 =>
bl q2.1 fun v19 =>
bl q2.2 fun h20 =>
some (v19, h20)
set_option maxRecDepth 100000 in
set_option maxHeartbeats 4000000 in
theorem c_X6_emptyStocks (l : Launch) (G : GG) (B : Nat) (h : Hp) (a0 : Nat) (vp1 : Int32) (r0 : Int32) (hr : Hp) (hF : F_X6_emptyStocks h a0 vp1 = some (r0, hr)) : CI l yX6_emptyStocks cX6_emptyStocks 5 .int 2 46 0 0 G B h [.ref (B + a0), .int vp1] r0 hr := by
  refine ent_i rfl (Nat.le_of_ble_eq_true rfl) ?_
  intro p e s m args below meth c ls Q CX hnm hret P hl
  have CX : Cxt p m c cX6_emptyStocks 5 s args RX6 G B := CX
  obtain ⟨⟨hx, hb, hml, hown, hts⟩, -, -⟩ := id CX
  replace hl : lv_has ls 5 [(0, .ref (B + a0)), (1, .int vp1)] := hl
  generalize s.heap = H at P ⊢
  generalize ([] : List Loc) = locs at P ⊢
  unfold F_X6_emptyStocks at hF
  refine lv_aload_n (pc := 0) hx hb dX6_emptyStocks_0 rfl (lv_at hl 0 rfl) ?_
  refine lv_iload_n (pc := 1) hx hb dX6_emptyStocks_1 rfl (lv_at hl 1 rfl) ?_
  refine r_cVp (pc := 2) (As := [.int vp1]) (rest := []) CX P hl.1 hF kv_X6_77 (fun r q => c_X6_bitsBelow l G B _ _ _ _ q) rfl rfl ⟨Nat.le_of_ble_eq_true rfl, Nat.le_of_ble_eq_true rfl⟩ (Nat.le_of_ble_eq_true rfl) ⟨Nat.le_of_ble_eq_true rfl, Nat.le_of_ble_eq_true rfl⟩ dX6_emptyStocks_2 (fun v1 H locs P hF => ?_)
  refine lv_istore_n (pc := 5) hx hb dX6_emptyStocks_5 rfl hl (by decide) rfl (fun ls hl => ?_)
  replace hl : lv_has ls 5 [(2, .int v1), (0, .ref (B + a0)), (1, .int vp1)] := hl
  refine lv_iconst (pc := 6) (v := 0) hx hb dX6_emptyStocks_6 (by decide) ?_
  refine lv_istore_n (pc := 7) hx hb dX6_emptyStocks_7 rfl hl (by decide) rfl (fun ls hl => ?_)
  replace hl : lv_has ls 5 [(3, .int 0), (2, .int v1), (0, .ref (B + a0)), (1, .int vp1)] := hl
  refine lv_iconst (pc := 8) (v := 0) hx hb dX6_emptyStocks_8 (by decide) ?_
  refine lv_istore (pc := 9) hx hb dX6_emptyStocks_9 hl (by decide) rfl (fun ls hl => ?_)
  replace hl : lv_has ls 5 [(4, .int 0), (3, .int 0), (2, .int v1), (0, .ref (B + a0)), (1, .int vp1)] := hl
  obtain ⟨r2, hLp2, hK2⟩ := bd_some hF
  have hX2 : ∀ (v19 : Int32) (h20 : Hp) (H : Heap) (locs : List Loc) (ls : Array Slot), Pic G B h20 s H locs → lv_has ls 5 [(3, .int v19)] → (v19, h20) = r2 → W p l e (rmM 2 46 0 0) s m args below meth c H locs 0 0 Q (F0 m 68 ls []) := by
    intro v19 h20 H locs ls P hl er
    subst er
    have hF := hK2
    replace hF := bl_i hF
    replace hF := bl_i hF
    try dsimp only at hF
    refine lv_iload_n (pc := 68) hx hb dX6_emptyStocks_68 rfl (lv_at hl 0 rfl) ?_
    cases hF
    exact hret _ _ _ _ P rfl dX6_emptyStocks_69
  have hL2 : ∀ (n : Nat) (v5 : Int32) (v6 : Int32) (h7 : Hp) (H : Heap) (locs : List Loc) (ls : Array Slot), Pic G B h7 s H locs → lv_has ls 5 [(0, .ref (B + a0)), (2, .int v1), (3, .int v5), (4, .int v6)] → loopF (fun x => F_X6_emptyStocks_L11 a0 v1 x.1 x.2.1 x.2.2) n (v5, v6, h7) = some r2 → W p l e (rmM 2 46 0 0) s m args below meth c H locs 0 0 Q (F0 m 11 ls []) := by
    intro n
    induction n with
    | zero => intro v5 v6 h7 H locs ls P hl hq; cases hq
    | succ n ih =>
      intro v5 v6 h7 H locs ls P hl hq
      obtain ⟨z2, hS2, hI2, hR2⟩ := loop_some hq
      have hF : F_X6_emptyStocks_L11 a0 v1 v5 v6 h7 = some z2 := hS2
      unfold F_X6_emptyStocks_L11 at hF
      refine lv_iload (pc := 11) hx hb dX6_emptyStocks_11 (lv_at hl 3 rfl) ?_
      refine lv_bipush (pc := 13) (v := 12) hx hb dX6_emptyStocks_13 (by decide) ?_
      refine lv_icmp_ge (pc := 15) (tgt := 68) hx hb dX6_emptyStocks_15 (by decide) (fun hc => ?_) (fun hc => ?_)
      · rw [if_pos hc] at hF
        exact hX2 _ _ _ _ _ P (lv_sub hl [2] rfl) (hR2 _ (Option.some.inj hF).symm)
      · rw [if_neg hc] at hF
        refine lv_iload_n (pc := 18) hx hb dX6_emptyStocks_18 rfl (lv_at hl 1 rfl) ?_
        refine lv_iload (pc := 19) hx hb dX6_emptyStocks_19 (lv_at hl 3 rfl) ?_
        refine lv_ishr (pc := 21) hx hb dX6_emptyStocks_21 ?_
        refine lv_iconst (pc := 22) (v := 1) hx hb dX6_emptyStocks_22 (by decide) ?_
        refine lv_iand (pc := 23) hx hb dX6_emptyStocks_23 ?_
        refine lv_iconst (pc := 24) (v := 1) hx hb dX6_emptyStocks_24 (by decide) ?_
        refine lv_icmp_ne (pc := 25) (tgt := 62) hx hb dX6_emptyStocks_25 (by decide) (fun hc => ?_) (fun hc => ?_)
        · rw [if_neg hc] at hF
          obtain ⟨v8, ev8, hF⟩ := bl_o hF
          refine lv_iinc (pc := 62) (k := 3) (v := v8) hx hb dX6_emptyStocks_62 hl rfl ev8 (by decide) rfl (fun ls hl => ?_)
          replace hl : lv_has ls 5 [(4, .int v8), (0, .ref (B + a0)), (2, .int v1), (3, .int v5)] := hl
          refine lv_goto (pc := 65) (tgt := 11) hx hb dX6_emptyStocks_65 (by decide) ?_
          exact ih _ _ _ _ _ _ P (lv_sub hl [1, 2, 3, 0] rfl) (hI2 _ (Option.some.inj hF).symm)
        · rw [if_pos hc] at hF
          refine lv_aload_n (pc := 28) hx hb dX6_emptyStocks_28 rfl (lv_at hl 0 rfl) ?_
          refine r_gR (pc := 29) CX P hF fl_X6_23 dX6_emptyStocks_29 (fun a9 hF => ?_)
          refine lv_iload (pc := 32) hx hb dX6_emptyStocks_32 (lv_at hl 3 rfl) ?_
          refine r_aI (pc := 34) CX P hF dX6_emptyStocks_34 (fun v10 hF => ?_)
          refine lv_if_le (pc := 35) (tgt := 62) hx hb dX6_emptyStocks_35 (by decide) (fun hc => ?_) (fun hc => ?_)
          · rw [if_pos hc] at hF
            obtain ⟨v11, ev11, hF⟩ := bl_o hF
            refine lv_iinc (pc := 62) (k := 3) (v := v11) hx hb dX6_emptyStocks_62 hl rfl ev11 (by decide) rfl (fun ls hl => ?_)
            replace hl : lv_has ls 5 [(4, .int v11), (0, .ref (B + a0)), (2, .int v1), (3, .int v5)] := hl
            refine lv_goto (pc := 65) (tgt := 11) hx hb dX6_emptyStocks_65 (by decide) ?_
            exact ih _ _ _ _ _ _ P (lv_sub hl [1, 2, 3, 0] rfl) (hI2 _ (Option.some.inj hF).symm)
          · rw [if_neg hc] at hF
            refine lv_iload_n (pc := 38) hx hb dX6_emptyStocks_38 rfl (lv_at hl 2 rfl) ?_
            refine lv_aload_n (pc := 39) hx hb dX6_emptyStocks_39 rfl (lv_at hl 0 rfl) ?_
            refine r_gR (pc := 40) CX P hF fl_X6_23 dX6_emptyStocks_40 (fun a12 hF => ?_)
            refine lv_iload (pc := 43) hx hb dX6_emptyStocks_43 (lv_at hl 3 rfl) ?_
            refine r_aI (pc := 45) CX P hF dX6_emptyStocks_45 (fun v13 hF => ?_)
            refine lv_iadd (pc := 46) hx hb dX6_emptyStocks_46 ?_
            refine lv_topi (fun v14 ev14 => ?_)
            replace hF := bl_e hF ev14
            refine lv_istore_n (pc := 47) hx hb dX6_emptyStocks_47 rfl hl (by decide) rfl (fun ls hl => ?_)
            replace hl : lv_has ls 5 [(3, .int v14), (0, .ref (B + a0)), (2, .int v1), (4, .int v6)] := hl
            refine lv_aload_n (pc := 48) hx hb dX6_emptyStocks_48 rfl (lv_at hl 1 rfl) ?_
            refine lv_iload (pc := 49) hx hb dX6_emptyStocks_49 (lv_at hl 3 rfl) ?_
            refine lv_aload_n (pc := 51) hx hb dX6_emptyStocks_51 rfl (lv_at hl 1 rfl) ?_
            refine r_gR (pc := 52) CX P hF fl_X6_23 dX6_emptyStocks_52 (fun a15 hF => ?_)
            refine lv_iload (pc := 55) hx hb dX6_emptyStocks_55 (lv_at hl 3 rfl) ?_
            refine r_aI (pc := 57) CX P hF dX6_emptyStocks_57 (fun v16 hF => ?_)
            refine lv_ineg (pc := 58) hx hb dX6_emptyStocks_58 ?_
            refine r_cVv (pc := 59) (As := [.int v6, .int (-v16)]) (rest := []) CX P hl.1 hF kv_X6_61 (fun h1 q => c_X6_addStock l G B _ _ _ _ _ q) rfl rfl ⟨Nat.le_of_ble_eq_true rfl, Nat.le_of_ble_eq_true rfl⟩ (Nat.le_of_ble_eq_true rfl) ⟨Nat.le_of_ble_eq_true rfl, Nat.le_of_ble_eq_true rfl⟩ dX6_emptyStocks_59 (fun h17 H locs P hF => ?_)
            obtain ⟨v18, ev18, hF⟩ := bl_o hF
            refine lv_iinc (pc := 62) (k := 3) (v := v18) hx hb dX6_emptyStocks_62 hl rfl ev18 (by decide) rfl (fun ls hl => ?_)
            replace hl : lv_has ls 5 [(4, .int v18), (3, .int v14), (0, .ref (B + a0)), (2, .int v1)] := hl
            refine lv_goto (pc := 65) (tgt := 11) hx hb dX6_emptyStocks_65 (by decide) ?_
            exact ih _ _ _ _ _ _ P (lv_sub hl [2, 3, 1, 0] rfl) (hI2 _ (Option.some.inj hF).symm)
  exact hL2 _ _ _ _ _ _ _ P (lv_sub hl [3, 2, 1, 0] rfl) hLp2
def F_X0_sumByGroup_L7 (a3 : Nat) (v4 : Int32) (a5 : Nat) (v6 : Int32) (h7 : Hp) : Option ((Int32 × Hp) ⊕ (Hp)) :=
if 16 ≤ v6 then (
some (.inr h7)) else (
(gR h7 a3 0 0).bind fun a8 =>
(aI h7 a8 v6).bind fun v9 =>
if v9 = (-1) then (
bl (v6 + 1) fun v10 =>
some (.inl (v10, h7))) else (
(gR h7 a3 0 0).bind fun a11 =>
(aI h7 a11 v6).bind fun v12 =>
(aI h7 a5 v12).bind fun v13 =>
(gR h7 a3 0 2).bind fun a14 =>
(aR h7 a14 15 v4).bind fun a15 =>
(aI h7 a15 v6).bind fun v16 =>
(sI h7 a5 v12 (v13 + v16)).bind fun h17 =>
bl (v6 + 1) fun v18 =>
some (.inl (v18, h17))))
def F_X0_sumByGroup (h : Hp) (a0 : Nat) (vp1 : Int32) (ap2 : Nat) : Option (Hp) :=
(F_J7_fill_53178 h ap2 0).bind fun h1 =>
(loopF (fun x => F_X0_sumByGroup_L7 a0 vp1 ap2 x.1 x.2) 6000 (0, h1)).bind fun h19 =>
some h19
set_option maxRecDepth 100000 in
set_option maxHeartbeats 4000000 in
theorem c_X0_sumByGroup (l : Launch) (G : GG) (B : Nat) (h : Hp) (a0 : Nat) (vp1 : Int32) (ap2 : Nat) (hr : Hp) (hF : F_X0_sumByGroup h a0 vp1 ap2 = some hr) : CV l yX0_sumByGroup cX0_sumByGroup 4 1 23 0 0 G B h [.ref (B + a0), .int vp1, .ref (B + ap2)] hr := by
  refine ent_v rfl (Nat.le_of_ble_eq_true rfl) ?_
  intro p e s m args below meth c ls Q CX hnm hret P hl
  have CX : Cxt p m c cX0_sumByGroup 4 s args RX0 G B := CX
  obtain ⟨⟨hx, hb, hml, hown, hts⟩, -, -⟩ := id CX
  replace hl : lv_has ls 4 [(0, .ref (B + a0)), (1, .int vp1), (2, .ref (B + ap2))] := hl
  generalize s.heap = H at P ⊢
  generalize ([] : List Loc) = locs at P ⊢
  unfold F_X0_sumByGroup at hF
  refine lv_aload_n (pc := 0) hx hb dX0_sumByGroup_0 rfl (lv_at hl 2 rfl) ?_
  refine lv_iconst (pc := 1) (v := 0) hx hb dX0_sumByGroup_1 (by decide) ?_
  refine r_cSv (pc := 2) (As := [.ref (B + ap2), .int 0]) (rest := []) CX P hl.1 hF ks_X0_35 (fun h1 q => c_J7_fill_53178 l G B _ _ _ _ q) rfl rfl ⟨Nat.le_of_ble_eq_true rfl, Nat.le_of_ble_eq_true rfl⟩ (Nat.le_of_ble_eq_true rfl) ⟨Nat.le_of_ble_eq_true rfl, Nat.le_of_ble_eq_true rfl⟩ dX0_sumByGroup_2 (fun h1 H locs P hF => ?_)
  refine lv_iconst (pc := 5) (v := 0) hx hb dX0_sumByGroup_5 (by decide) ?_
  refine lv_istore_n (pc := 6) hx hb dX0_sumByGroup_6 rfl hl (by decide) rfl (fun ls hl => ?_)
  replace hl : lv_has ls 4 [(3, .int 0), (0, .ref (B + a0)), (1, .int vp1), (2, .ref (B + ap2))] := hl
  obtain ⟨r2, hLp2, hK2⟩ := bd_some hF
  have hX2 : ∀ (h19 : Hp) (H : Heap) (locs : List Loc) (ls : Array Slot), Pic G B h19 s H locs → lv_has ls 4 [] → h19 = r2 → W p l e (rmM 1 23 0 0) s m args below meth c H locs 0 0 Q (F0 m 48 ls []) := by
    intro h19 H locs ls P hl er
    subst er
    have hF := hK2
    cases hF
    exact hret _ _ _ _ P dX0_sumByGroup_48
  have hL2 : ∀ (n : Nat) (v6 : Int32) (h7 : Hp) (H : Heap) (locs : List Loc) (ls : Array Slot), Pic G B h7 s H locs → lv_has ls 4 [(0, .ref (B + a0)), (1, .int vp1), (2, .ref (B + ap2)), (3, .int v6)] → loopF (fun x => F_X0_sumByGroup_L7 a0 vp1 ap2 x.1 x.2) n (v6, h7) = some r2 → W p l e (rmM 1 23 0 0) s m args below meth c H locs 0 0 Q (F0 m 7 ls []) := by
    intro n
    induction n with
    | zero => intro v6 h7 H locs ls P hl hq; cases hq
    | succ n ih =>
      intro v6 h7 H locs ls P hl hq
      obtain ⟨z2, hS2, hI2, hR2⟩ := loop_some hq
      have hF : F_X0_sumByGroup_L7 a0 vp1 ap2 v6 h7 = some z2 := hS2
      unfold F_X0_sumByGroup_L7 at hF
      refine lv_iload_n (pc := 7) hx hb dX0_sumByGroup_7 rfl (lv_at hl 3 rfl) ?_
      refine lv_bipush (pc := 8) (v := 16) hx hb dX0_sumByGroup_8 (by decide) ?_
      refine lv_icmp_ge (pc := 10) (tgt := 48) hx hb dX0_sumByGroup_10 (by decide) (fun hc => ?_) (fun hc => ?_)
      · rw [if_pos hc] at hF
        exact hX2 _ _ _ _ P (lv_sub hl [] rfl) (hR2 _ (Option.some.inj hF).symm)
      · rw [if_neg hc] at hF
        refine lv_aload_n (pc := 13) hx hb dX0_sumByGroup_13 rfl (lv_at hl 0 rfl) ?_
        refine r_gR (pc := 14) CX P hF fl_X0_9 dX0_sumByGroup_14 (fun a8 hF => ?_)
        refine lv_iload_n (pc := 17) hx hb dX0_sumByGroup_17 rfl (lv_at hl 3 rfl) ?_
        refine r_aI (pc := 18) CX P hF dX0_sumByGroup_18 (fun v9 hF => ?_)
        refine lv_iconst (pc := 19) (v := (-1)) hx hb dX0_sumByGroup_19 (by decide) ?_
        refine lv_icmp_eq (pc := 20) (tgt := 42) hx hb dX0_sumByGroup_20 (by decide) (fun hc => ?_) (fun hc => ?_)
        · rw [if_pos hc] at hF
          obtain ⟨v10, ev10, hF⟩ := bl_o hF
          refine lv_iinc (pc := 42) (k := 3) (v := v10) hx hb dX0_sumByGroup_42 hl rfl ev10 (by decide) rfl (fun ls hl => ?_)
          replace hl : lv_has ls 4 [(3, .int v10), (0, .ref (B + a0)), (1, .int vp1), (2, .ref (B + ap2))] := hl
          refine lv_goto (pc := 45) (tgt := 7) hx hb dX0_sumByGroup_45 (by decide) ?_
          exact ih _ _ _ _ _ P (lv_sub hl [1, 2, 3, 0] rfl) (hI2 _ (Option.some.inj hF).symm)
        · rw [if_neg hc] at hF
          refine lv_aload_n (pc := 23) hx hb dX0_sumByGroup_23 rfl (lv_at hl 2 rfl) ?_
          refine lv_aload_n (pc := 24) hx hb dX0_sumByGroup_24 rfl (lv_at hl 0 rfl) ?_
          refine r_gR (pc := 25) CX P hF fl_X0_9 dX0_sumByGroup_25 (fun a11 hF => ?_)
          refine lv_iload_n (pc := 28) hx hb dX0_sumByGroup_28 rfl (lv_at hl 3 rfl) ?_
          refine r_aI (pc := 29) CX P hF dX0_sumByGroup_29 (fun v12 hF => ?_)
          refine lv_dup2_11 (pc := 30) hx hb dX0_sumByGroup_30 rfl rfl ?_
          refine r_aI (pc := 31) CX P hF dX0_sumByGroup_31 (fun v13 hF => ?_)
          refine lv_aload_n (pc := 32) hx hb dX0_sumByGroup_32 rfl (lv_at hl 0 rfl) ?_
          refine r_gR (pc := 33) CX P hF fl_X0_20 dX0_sumByGroup_33 (fun a14 hF => ?_)
          refine lv_iload_n (pc := 36) hx hb dX0_sumByGroup_36 rfl (lv_at hl 1 rfl) ?_
          refine r_aR (pc := 37) CX P hF (Or.inr (Or.inl rfl)) dX0_sumByGroup_37 (fun a15 hF => ?_)
          refine lv_iload_n (pc := 38) hx hb dX0_sumByGroup_38 rfl (lv_at hl 3 rfl) ?_
          refine r_aI (pc := 39) CX P hF dX0_sumByGroup_39 (fun v16 hF => ?_)
          refine lv_iadd (pc := 40) hx hb dX0_sumByGroup_40 ?_
          refine r_sI (pc := 41) CX P hF dX0_sumByGroup_41 (fun h17 H locs P hF => ?_)
          obtain ⟨v18, ev18, hF⟩ := bl_o hF
          refine lv_iinc (pc := 42) (k := 3) (v := v18) hx hb dX0_sumByGroup_42 hl rfl ev18 (by decide) rfl (fun ls hl => ?_)
          replace hl : lv_has ls 4 [(3, .int v18), (0, .ref (B + a0)), (1, .int vp1), (2, .ref (B + ap2))] := hl
          refine lv_goto (pc := 45) (tgt := 7) hx hb dX0_sumByGroup_45 (by decide) ?_
          exact ih _ _ _ _ _ P (lv_sub hl [1, 2, 3, 0] rfl) (hI2 _ (Option.some.inj hF).symm)
  exact hL2 _ _ _ _ _ _ P (lv_sub hl [1, 2, 3, 0] rfl) hLp2
def F_X0_richestIn_L8 (h8 : Hp) (a2 : Nat) (v3 : Int32) (v4 : Int32) (v5 : Int32) (v6 : Int32) (v7 : Int32) : Option ((Int32 × Int32 × Int32) ⊕ (Int32)) :=
if 16 ≤ v7 then (
some (.inr v5)) else (
(gR h8 a2 0 0).bind fun a9 =>
(aI h8 a9 v7).bind fun v10 =>
if v10 = v3 then (
(gR h8 a2 0 2).bind fun a12 =>
(aR h8 a12 15 v4).bind fun a13 =>
(aI h8 a13 v7).bind fun v14 =>
if v14 ≤ v6 then (
bl (v7 + 1) fun v15 =>
some (.inl (v5, v6, v15))) else (
(gR h8 a2 0 2).bind fun a16 =>
(aR h8 a16 15 v4).bind fun a17 =>
(aI h8 a17 v7).bind fun v18 =>
bl (v7 + 1) fun v19 =>
some (.inl (v7, v18, v19)))) else (
bl (v7 + 1) fun v11 =>
some (.inl (v5, v6, v11))))
def F_X0_richestIn (h : Hp) (a0 : Nat) (vp1 : Int32) (vp2 : Int32) : Option (Int32) :=
(loopF (fun x => F_X0_richestIn_L8 h a0 vp1 vp2 x.1 x.2.1 x.2.2) 6000 ((-1), 0, 0)).bind fun v20 =>
some v20
set_option maxRecDepth 100000 in
set_option maxHeartbeats 4000000 in
theorem c_X0_richestIn (l : Launch) (G : GG) (B : Nat) (h : Hp) (a0 : Nat) (vp1 : Int32) (vp2 : Int32) (r0 : Int32) (hF : F_X0_richestIn h a0 vp1 vp2 = some r0) : CI l yX0_richestIn cX0_richestIn 6 .int 0 0 0 0 G B h [.ref (B + a0), .int vp1, .int vp2] r0 h := by
  refine ent_i rfl (Nat.le_of_ble_eq_true rfl) ?_
  intro p e s m args below meth c ls Q CX hnm hret P hl
  have CX : Cxt p m c cX0_richestIn 6 s args RX0 G B := CX
  obtain ⟨⟨hx, hb, hml, hown, hts⟩, -, -⟩ := id CX
  replace hl : lv_has ls 6 [(0, .ref (B + a0)), (1, .int vp1), (2, .int vp2)] := hl
  generalize s.heap = H at P ⊢
  generalize ([] : List Loc) = locs at P ⊢
  unfold F_X0_richestIn at hF
  refine lv_iconst (pc := 0) (v := (-1)) hx hb dX0_richestIn_0 (by decide) ?_
  refine lv_istore_n (pc := 1) hx hb dX0_richestIn_1 rfl hl (by decide) rfl (fun ls hl => ?_)
  replace hl : lv_has ls 6 [(3, .int (-1)), (0, .ref (B + a0)), (1, .int vp1), (2, .int vp2)] := hl
  refine lv_iconst (pc := 2) (v := 0) hx hb dX0_richestIn_2 (by decide) ?_
  refine lv_istore (pc := 3) hx hb dX0_richestIn_3 hl (by decide) rfl (fun ls hl => ?_)
  replace hl : lv_has ls 6 [(4, .int 0), (3, .int (-1)), (0, .ref (B + a0)), (1, .int vp1), (2, .int vp2)] := hl
  refine lv_iconst (pc := 5) (v := 0) hx hb dX0_richestIn_5 (by decide) ?_
  refine lv_istore (pc := 6) hx hb dX0_richestIn_6 hl (by decide) rfl (fun ls hl => ?_)
  replace hl : lv_has ls 6 [(5, .int 0), (4, .int 0), (3, .int (-1)), (0, .ref (B + a0)), (1, .int vp1), (2, .int vp2)] := hl
  obtain ⟨r1, hLp1, hK1⟩ := bd_some hF
  have hX1 : ∀ (v20 : Int32) (H : Heap) (locs : List Loc) (ls : Array Slot), Pic G B h s H locs → lv_has ls 6 [(3, .int v20)] → v20 = r1 → W p l e (rmM 0 0 0 0) s m args below meth c H locs 0 0 Q (F0 m 60 ls []) := by
    intro v20 H locs ls P hl er
    subst er
    have hF := hK1
    refine lv_iload_n (pc := 60) hx hb dX0_richestIn_60 rfl (lv_at hl 0 rfl) ?_
    cases hF
    exact hret _ _ _ _ P rfl dX0_richestIn_61
  have hL1 : ∀ (n : Nat) (v5 : Int32) (v6 : Int32) (v7 : Int32) (H : Heap) (locs : List Loc) (ls : Array Slot), Pic G B h s H locs → lv_has ls 6 [(0, .ref (B + a0)), (1, .int vp1), (2, .int vp2), (3, .int v5), (4, .int v6), (5, .int v7)] → loopF (fun x => F_X0_richestIn_L8 h a0 vp1 vp2 x.1 x.2.1 x.2.2) n (v5, v6, v7) = some r1 → W p l e (rmM 0 0 0 0) s m args below meth c H locs 0 0 Q (F0 m 8 ls []) := by
    intro n
    induction n with
    | zero => intro v5 v6 v7 H locs ls P hl hq; cases hq
    | succ n ih =>
      intro v5 v6 v7 H locs ls P hl hq
      obtain ⟨z1, hS1, hI1, hR1⟩ := loop_some hq
      have hF : F_X0_richestIn_L8 h a0 vp1 vp2 v5 v6 v7 = some z1 := hS1
      unfold F_X0_richestIn_L8 at hF
      refine lv_iload (pc := 8) hx hb dX0_richestIn_8 (lv_at hl 5 rfl) ?_
      refine lv_bipush (pc := 10) (v := 16) hx hb dX0_richestIn_10 (by decide) ?_
      refine lv_icmp_ge (pc := 12) (tgt := 60) hx hb dX0_richestIn_12 (by decide) (fun hc => ?_) (fun hc => ?_)
      · rw [if_pos hc] at hF
        exact hX1 _ _ _ _ P (lv_sub hl [3] rfl) (hR1 _ (Option.some.inj hF).symm)
      · rw [if_neg hc] at hF
        refine lv_aload_n (pc := 15) hx hb dX0_richestIn_15 rfl (lv_at hl 0 rfl) ?_
        refine r_gR (pc := 16) CX P hF fl_X0_9 dX0_richestIn_16 (fun a9 hF => ?_)
        refine lv_iload (pc := 19) hx hb dX0_richestIn_19 (lv_at hl 5 rfl) ?_
        refine r_aI (pc := 21) CX P hF dX0_richestIn_21 (fun v10 hF => ?_)
        refine lv_iload_n (pc := 22) hx hb dX0_richestIn_22 rfl (lv_at hl 1 rfl) ?_
        refine lv_icmp_ne (pc := 23) (tgt := 54) hx hb dX0_richestIn_23 (by decide) (fun hc => ?_) (fun hc => ?_)
        · rw [if_neg hc] at hF
          obtain ⟨v11, ev11, hF⟩ := bl_o hF
          refine lv_iinc (pc := 54) (k := 5) (v := v11) hx hb dX0_richestIn_54 hl rfl ev11 (by decide) rfl (fun ls hl => ?_)
          replace hl : lv_has ls 6 [(5, .int v11), (0, .ref (B + a0)), (1, .int vp1), (2, .int vp2), (3, .int v5), (4, .int v6)] := hl
          refine lv_goto (pc := 57) (tgt := 8) hx hb dX0_richestIn_57 (by decide) ?_
          exact ih _ _ _ _ _ _ P (lv_sub hl [1, 2, 3, 4, 5, 0] rfl) (hI1 _ (Option.some.inj hF).symm)
        · rw [if_pos hc] at hF
          refine lv_aload_n (pc := 26) hx hb dX0_richestIn_26 rfl (lv_at hl 0 rfl) ?_
          refine r_gR (pc := 27) CX P hF fl_X0_20 dX0_richestIn_27 (fun a12 hF => ?_)
          refine lv_iload_n (pc := 30) hx hb dX0_richestIn_30 rfl (lv_at hl 2 rfl) ?_
          refine r_aR (pc := 31) CX P hF (Or.inr (Or.inl rfl)) dX0_richestIn_31 (fun a13 hF => ?_)
          refine lv_iload (pc := 32) hx hb dX0_richestIn_32 (lv_at hl 5 rfl) ?_
          refine r_aI (pc := 34) CX P hF dX0_richestIn_34 (fun v14 hF => ?_)
          refine lv_iload (pc := 35) hx hb dX0_richestIn_35 (lv_at hl 4 rfl) ?_
          refine lv_icmp_le (pc := 37) (tgt := 54) hx hb dX0_richestIn_37 (by decide) (fun hc => ?_) (fun hc => ?_)
          · rw [if_pos hc] at hF
            obtain ⟨v15, ev15, hF⟩ := bl_o hF
            refine lv_iinc (pc := 54) (k := 5) (v := v15) hx hb dX0_richestIn_54 hl rfl ev15 (by decide) rfl (fun ls hl => ?_)
            replace hl : lv_has ls 6 [(5, .int v15), (0, .ref (B + a0)), (1, .int vp1), (2, .int vp2), (3, .int v5), (4, .int v6)] := hl
            refine lv_goto (pc := 57) (tgt := 8) hx hb dX0_richestIn_57 (by decide) ?_
            exact ih _ _ _ _ _ _ P (lv_sub hl [1, 2, 3, 4, 5, 0] rfl) (hI1 _ (Option.some.inj hF).symm)
          · rw [if_neg hc] at hF
            refine lv_aload_n (pc := 40) hx hb dX0_richestIn_40 rfl (lv_at hl 0 rfl) ?_
            refine r_gR (pc := 41) CX P hF fl_X0_20 dX0_richestIn_41 (fun a16 hF => ?_)
            refine lv_iload_n (pc := 44) hx hb dX0_richestIn_44 rfl (lv_at hl 2 rfl) ?_
            refine r_aR (pc := 45) CX P hF (Or.inr (Or.inl rfl)) dX0_richestIn_45 (fun a17 hF => ?_)
            refine lv_iload (pc := 46) hx hb dX0_richestIn_46 (lv_at hl 5 rfl) ?_
            refine r_aI (pc := 48) CX P hF dX0_richestIn_48 (fun v18 hF => ?_)
            refine lv_istore (pc := 49) hx hb dX0_richestIn_49 hl (by decide) rfl (fun ls hl => ?_)
            replace hl : lv_has ls 6 [(4, .int v18), (0, .ref (B + a0)), (1, .int vp1), (2, .int vp2), (3, .int v5), (5, .int v7)] := hl
            refine lv_iload (pc := 51) hx hb dX0_richestIn_51 (lv_at hl 5 rfl) ?_
            refine lv_istore_n (pc := 53) hx hb dX0_richestIn_53 rfl hl (by decide) rfl (fun ls hl => ?_)
            replace hl : lv_has ls 6 [(3, .int v7), (4, .int v18), (0, .ref (B + a0)), (1, .int vp1), (2, .int vp2), (5, .int v7)] := hl
            obtain ⟨v19, ev19, hF⟩ := bl_o hF
            refine lv_iinc (pc := 54) (k := 5) (v := v19) hx hb dX0_richestIn_54 hl rfl ev19 (by decide) rfl (fun ls hl => ?_)
            replace hl : lv_has ls 6 [(5, .int v19), (3, .int v7), (4, .int v18), (0, .ref (B + a0)), (1, .int vp1), (2, .int vp2)] := hl
            refine lv_goto (pc := 57) (tgt := 8) hx hb dX0_richestIn_57 (by decide) ?_
            exact ih _ _ _ _ _ _ P (lv_sub hl [3, 4, 5, 1, 2, 0] rfl) (hI1 _ (Option.some.inj hF).symm)
  exact hL1 _ _ _ _ _ _ _ P (lv_sub hl [3, 4, 5, 2, 1, 0] rfl) hLp1
def F_X6_addOut_L5 (a2 : Nat) (v3 : Int32) (v4 : Int32) (v5 : Int32) (h6 : Hp) : Option ((Int32 × Int32 × Hp) ⊕ (Hp)) :=
if v4 = (-1) then (
some (.inr h6)) else (
if 12 ≤ v5 then (
some (.inr h6)) else (
(gR h6 a2 6 6).bind fun a7 =>
(aI h6 a7 v4).bind fun v8 =>
(sI h6 a7 v4 (v8 + v3)).bind fun h9 =>
(gR h9 a2 6 0).bind fun a10 =>
(aI h9 a10 v4).bind fun v11 =>
bl (v5 + 1) fun v12 =>
some (.inl (v11, v12, h9))))
def F_X6_addOut (h : Hp) (a0 : Nat) (vp1 : Int32) (vp2 : Int32) : Option (Hp) :=
(loopF (fun x => F_X6_addOut_L5 a0 vp2 x.1 x.2.1 x.2.2) 6000 (vp1, 0, h)).bind fun h13 =>
some h13
set_option maxRecDepth 100000 in
set_option maxHeartbeats 4000000 in
theorem c_X6_addOut (l : Launch) (G : GG) (B : Nat) (h : Hp) (a0 : Nat) (vp1 : Int32) (vp2 : Int32) (hr : Hp) (hF : F_X6_addOut h a0 vp1 vp2 = some hr) : CV l yX6_addOut cX6_addOut 5 0 0 0 0 G B h [.ref (B + a0), .int vp1, .int vp2] hr := by
  refine ent_v rfl (Nat.le_of_ble_eq_true rfl) ?_
  intro p e s m args below meth c ls Q CX hnm hret P hl
  have CX : Cxt p m c cX6_addOut 5 s args RX6 G B := CX
  obtain ⟨⟨hx, hb, hml, hown, hts⟩, -, -⟩ := id CX
  replace hl : lv_has ls 5 [(0, .ref (B + a0)), (1, .int vp1), (2, .int vp2)] := hl
  generalize s.heap = H at P ⊢
  generalize ([] : List Loc) = locs at P ⊢
  unfold F_X6_addOut at hF
  refine lv_iload_n (pc := 0) hx hb dX6_addOut_0 rfl (lv_at hl 1 rfl) ?_
  refine lv_istore_n (pc := 1) hx hb dX6_addOut_1 rfl hl (by decide) rfl (fun ls hl => ?_)
  replace hl : lv_has ls 5 [(3, .int vp1), (0, .ref (B + a0)), (1, .int vp1), (2, .int vp2)] := hl
  refine lv_iconst (pc := 2) (v := 0) hx hb dX6_addOut_2 (by decide) ?_
  refine lv_istore (pc := 3) hx hb dX6_addOut_3 hl (by decide) rfl (fun ls hl => ?_)
  replace hl : lv_has ls 5 [(4, .int 0), (3, .int vp1), (0, .ref (B + a0)), (1, .int vp1), (2, .int vp2)] := hl
  obtain ⟨r1, hLp1, hK1⟩ := bd_some hF
  have hX1 : ∀ (h13 : Hp) (H : Heap) (locs : List Loc) (ls : Array Slot), Pic G B h13 s H locs → lv_has ls 5 [] → h13 = r1 → W p l e (rmM 0 0 0 0) s m args below meth c H locs 0 0 Q (F0 m 40 ls []) := by
    intro h13 H locs ls P hl er
    subst er
    have hF := hK1
    cases hF
    exact hret _ _ _ _ P dX6_addOut_40
  have hL1 : ∀ (n : Nat) (v4 : Int32) (v5 : Int32) (h6 : Hp) (H : Heap) (locs : List Loc) (ls : Array Slot), Pic G B h6 s H locs → lv_has ls 5 [(0, .ref (B + a0)), (2, .int vp2), (3, .int v4), (4, .int v5)] → loopF (fun x => F_X6_addOut_L5 a0 vp2 x.1 x.2.1 x.2.2) n (v4, v5, h6) = some r1 → W p l e (rmM 0 0 0 0) s m args below meth c H locs 0 0 Q (F0 m 5 ls []) := by
    intro n
    induction n with
    | zero => intro v4 v5 h6 H locs ls P hl hq; cases hq
    | succ n ih =>
      intro v4 v5 h6 H locs ls P hl hq
      obtain ⟨z1, hS1, hI1, hR1⟩ := loop_some hq
      have hF : F_X6_addOut_L5 a0 vp2 v4 v5 h6 = some z1 := hS1
      unfold F_X6_addOut_L5 at hF
      refine lv_iload_n (pc := 5) hx hb dX6_addOut_5 rfl (lv_at hl 2 rfl) ?_
      refine lv_iconst (pc := 6) (v := (-1)) hx hb dX6_addOut_6 (by decide) ?_
      refine lv_icmp_eq (pc := 7) (tgt := 40) hx hb dX6_addOut_7 (by decide) (fun hc => ?_) (fun hc => ?_)
      · rw [if_pos hc] at hF
        exact hX1 _ _ _ _ P (lv_sub hl [] rfl) (hR1 _ (Option.some.inj hF).symm)
      · rw [if_neg hc] at hF
        refine lv_iload (pc := 10) hx hb dX6_addOut_10 (lv_at hl 3 rfl) ?_
        refine lv_bipush (pc := 12) (v := 12) hx hb dX6_addOut_12 (by decide) ?_
        refine lv_icmp_ge (pc := 14) (tgt := 40) hx hb dX6_addOut_14 (by decide) (fun hc => ?_) (fun hc => ?_)
        · rw [if_pos hc] at hF
          exact hX1 _ _ _ _ P (lv_sub hl [] rfl) (hR1 _ (Option.some.inj hF).symm)
        · rw [if_neg hc] at hF
          refine lv_aload_n (pc := 17) hx hb dX6_addOut_17 rfl (lv_at hl 0 rfl) ?_
          refine r_gR (pc := 18) CX P hF fl_X6_29 dX6_addOut_18 (fun a7 hF => ?_)
          refine lv_iload_n (pc := 21) hx hb dX6_addOut_21 rfl (lv_at hl 2 rfl) ?_
          refine lv_dup2_11 (pc := 22) hx hb dX6_addOut_22 rfl rfl ?_
          refine r_aI (pc := 23) CX P hF dX6_addOut_23 (fun v8 hF => ?_)
          refine lv_iload_n (pc := 24) hx hb dX6_addOut_24 rfl (lv_at hl 1 rfl) ?_
          refine lv_iadd (pc := 25) hx hb dX6_addOut_25 ?_
          refine r_sI (pc := 26) CX P hF dX6_addOut_26 (fun h9 H locs P hF => ?_)
          refine lv_aload_n (pc := 27) hx hb dX6_addOut_27 rfl (lv_at hl 0 rfl) ?_
          refine r_gR (pc := 28) CX P hF fl_X6_9 dX6_addOut_28 (fun a10 hF => ?_)
          refine lv_iload_n (pc := 31) hx hb dX6_addOut_31 rfl (lv_at hl 2 rfl) ?_
          refine r_aI (pc := 32) CX P hF dX6_addOut_32 (fun v11 hF => ?_)
          refine lv_istore_n (pc := 33) hx hb dX6_addOut_33 rfl hl (by decide) rfl (fun ls hl => ?_)
          replace hl : lv_has ls 5 [(3, .int v11), (0, .ref (B + a0)), (2, .int vp2), (4, .int v5)] := hl
          obtain ⟨v12, ev12, hF⟩ := bl_o hF
          refine lv_iinc (pc := 34) (k := 3) (v := v12) hx hb dX6_addOut_34 hl rfl ev12 (by decide) rfl (fun ls hl => ?_)
          replace hl : lv_has ls 5 [(4, .int v12), (3, .int v11), (0, .ref (B + a0)), (2, .int vp2)] := hl
          refine lv_goto (pc := 37) (tgt := 5) hx hb dX6_addOut_37 (by decide) ?_
          exact ih _ _ _ _ _ _ P (lv_sub hl [2, 3, 1, 0] rfl) (hI1 _ (Option.some.inj hF).symm)
  exact hL1 _ _ _ _ _ _ _ P (lv_sub hl [2, 4, 1, 0] rfl) hLp1
def F_X0_held (h : Hp) (a0 : Nat) (vp1 : Int32) : Option (Int32) :=
(gR h a0 0 2).bind fun a1 =>
(aR h a1 15 0).bind fun a2 =>
(aI h a2 vp1).bind fun v3 =>
(gR h a0 0 2).bind fun a4 =>
(aR h a4 15 1).bind fun a5 =>
(aI h a5 vp1).bind fun v6 =>
some (v3 + v6)
set_option maxRecDepth 100000 in
set_option maxHeartbeats 4000000 in
theorem c_X0_held (l : Launch) (G : GG) (B : Nat) (h : Hp) (a0 : Nat) (vp1 : Int32) (r0 : Int32) (hF : F_X0_held h a0 vp1 = some r0) : CI l yX0_held cX0_held 2 .int 0 0 0 0 G B h [.ref (B + a0), .int vp1] r0 h := by
  refine ent_i rfl (Nat.le_of_ble_eq_true rfl) ?_
  intro p e s m args below meth c ls Q CX hnm hret P hl
  have CX : Cxt p m c cX0_held 2 s args RX0 G B := CX
  obtain ⟨⟨hx, hb, hml, hown, hts⟩, -, -⟩ := id CX
  replace hl : lv_has ls 2 [(0, .ref (B + a0)), (1, .int vp1)] := hl
  generalize s.heap = H at P ⊢
  generalize ([] : List Loc) = locs at P ⊢
  unfold F_X0_held at hF
  refine lv_aload_n (pc := 0) hx hb dX0_held_0 rfl (lv_at hl 0 rfl) ?_
  refine r_gR (pc := 1) CX P hF fl_X0_20 dX0_held_1 (fun a1 hF => ?_)
  refine lv_iconst (pc := 4) (v := 0) hx hb dX0_held_4 (by decide) ?_
  refine r_aR (pc := 5) CX P hF (Or.inr (Or.inl rfl)) dX0_held_5 (fun a2 hF => ?_)
  refine lv_iload_n (pc := 6) hx hb dX0_held_6 rfl (lv_at hl 1 rfl) ?_
  refine r_aI (pc := 7) CX P hF dX0_held_7 (fun v3 hF => ?_)
  refine lv_aload_n (pc := 8) hx hb dX0_held_8 rfl (lv_at hl 0 rfl) ?_
  refine r_gR (pc := 9) CX P hF fl_X0_20 dX0_held_9 (fun a4 hF => ?_)
  refine lv_iconst (pc := 12) (v := 1) hx hb dX0_held_12 (by decide) ?_
  refine r_aR (pc := 13) CX P hF (Or.inr (Or.inl rfl)) dX0_held_13 (fun a5 hF => ?_)
  refine lv_iload_n (pc := 14) hx hb dX0_held_14 rfl (lv_at hl 1 rfl) ?_
  refine r_aI (pc := 15) CX P hF dX0_held_15 (fun v6 hF => ?_)
  refine lv_iadd (pc := 16) hx hb dX0_held_16 ?_
  cases hF
  exact hret _ _ _ _ P rfl dX0_held_17
def F_X0_badness (h : Hp) (a0 : Nat) (vp1 : Int32) : Option (Int32) :=
(cO h a0 0 (F_X0_held h a0 vp1)).bind fun v1 =>
(gR h a0 0 3).bind fun a2 =>
(aI h a2 vp1).bind fun v3 =>
(gR h a0 0 1).bind fun a4 =>
(aI h a4 vp1).bind fun v5 =>
some ((v1 + v3) + (10 * v5))
set_option maxRecDepth 100000 in
set_option maxHeartbeats 4000000 in
theorem c_X0_badness (l : Launch) (G : GG) (B : Nat) (h : Hp) (a0 : Nat) (vp1 : Int32) (r0 : Int32) (hF : F_X0_badness h a0 vp1 = some r0) : CI l yX0_badness cX0_badness 2 .int 1 21 0 0 G B h [.ref (B + a0), .int vp1] r0 h := by
  refine ent_i rfl (Nat.le_of_ble_eq_true rfl) ?_
  intro p e s m args below meth c ls Q CX hnm hret P hl
  have CX : Cxt p m c cX0_badness 2 s args RX0 G B := CX
  obtain ⟨⟨hx, hb, hml, hown, hts⟩, -, -⟩ := id CX
  replace hl : lv_has ls 2 [(0, .ref (B + a0)), (1, .int vp1)] := hl
  generalize s.heap = H at P ⊢
  generalize ([] : List Loc) = locs at P ⊢
  unfold F_X0_badness at hF
  refine lv_aload_n (pc := 0) hx hb dX0_badness_0 rfl (lv_at hl 0 rfl) ?_
  refine lv_iload_n (pc := 1) hx hb dX0_badness_1 rfl (lv_at hl 1 rfl) ?_
  refine r_cVp (pc := 2) (As := [.int vp1]) (rest := []) CX P hl.1 hF kv_X0_47 (fun r q => c_X0_held l G B _ _ _ _ q) rfl rfl ⟨Nat.le_of_ble_eq_true rfl, Nat.le_of_ble_eq_true rfl⟩ (Nat.le_of_ble_eq_true rfl) ⟨Nat.le_of_ble_eq_true rfl, Nat.le_of_ble_eq_true rfl⟩ dX0_badness_2 (fun v1 H locs P hF => ?_)
  refine lv_aload_n (pc := 5) hx hb dX0_badness_5 rfl (lv_at hl 0 rfl) ?_
  refine r_gR (pc := 6) CX P hF fl_X0_23 dX0_badness_6 (fun a2 hF => ?_)
  refine lv_iload_n (pc := 9) hx hb dX0_badness_9 rfl (lv_at hl 1 rfl) ?_
  refine r_aI (pc := 10) CX P hF dX0_badness_10 (fun v3 hF => ?_)
  refine lv_iadd (pc := 11) hx hb dX0_badness_11 ?_
  refine lv_bipush (pc := 12) (v := 10) hx hb dX0_badness_12 (by decide) ?_
  refine lv_aload_n (pc := 14) hx hb dX0_badness_14 rfl (lv_at hl 0 rfl) ?_
  refine r_gR (pc := 15) CX P hF fl_X0_15 dX0_badness_15 (fun a4 hF => ?_)
  refine lv_iload_n (pc := 18) hx hb dX0_badness_18 rfl (lv_at hl 1 rfl) ?_
  refine r_aI (pc := 19) CX P hF dX0_badness_19 (fun v5 hF => ?_)
  refine lv_imul (pc := 20) hx hb dX0_badness_20 ?_
  refine lv_iadd (pc := 21) hx hb dX0_badness_21 ?_
  cases hF
  exact hret _ _ _ _ P rfl dX0_badness_22
def F_X0_putProcess (h : Hp) (a0 : Nat) (vp1 : Int32) (vp2 : Int32) (vp3 : Int32) : Option (Hp) :=
(gR h a0 0 0).bind fun a1 =>
(sI h a1 vp1 vp2).bind fun h2 =>
(gR h2 a0 0 1).bind fun a3 =>
(sI h2 a3 vp1 vp3).bind fun h4 =>
(gR h4 a0 0 2).bind fun a5 =>
(aR h4 a5 15 0).bind fun a6 =>
(sI h4 a6 vp1 0).bind fun h7 =>
(gR h7 a0 0 2).bind fun a8 =>
(aR h7 a8 15 1).bind fun a9 =>
(sI h7 a9 vp1 0).bind fun h10 =>
(gR h10 a0 0 3).bind fun a11 =>
(sI h10 a11 vp1 0).bind fun h12 =>
(gR h12 a0 0 4).bind fun a13 =>
(sI h12 a13 vp1 0).bind fun h14 =>
(gR h14 a0 0 5).bind fun a15 =>
(sI h14 a15 vp1 0).bind fun h16 =>
(gR h16 a0 0 6).bind fun a17 =>
(sI h16 a17 vp1 0).bind fun h18 =>
some h18
set_option maxRecDepth 100000 in
set_option maxHeartbeats 4000000 in
theorem c_X0_putProcess (l : Launch) (G : GG) (B : Nat) (h : Hp) (a0 : Nat) (vp1 : Int32) (vp2 : Int32) (vp3 : Int32) (hr : Hp) (hF : F_X0_putProcess h a0 vp1 vp2 vp3 = some hr) : CV l yX0_putProcess cX0_putProcess 4 0 0 0 0 G B h [.ref (B + a0), .int vp1, .int vp2, .int vp3] hr := by
  refine ent_v rfl (Nat.le_of_ble_eq_true rfl) ?_
  intro p e s m args below meth c ls Q CX hnm hret P hl
  have CX : Cxt p m c cX0_putProcess 4 s args RX0 G B := CX
  obtain ⟨⟨hx, hb, hml, hown, hts⟩, -, -⟩ := id CX
  replace hl : lv_has ls 4 [(0, .ref (B + a0)), (1, .int vp1), (2, .int vp2), (3, .int vp3)] := hl
  generalize s.heap = H at P ⊢
  generalize ([] : List Loc) = locs at P ⊢
  unfold F_X0_putProcess at hF
  refine lv_aload_n (pc := 0) hx hb dX0_putProcess_0 rfl (lv_at hl 0 rfl) ?_
  refine r_gR (pc := 1) CX P hF fl_X0_9 dX0_putProcess_1 (fun a1 hF => ?_)
  refine lv_iload_n (pc := 4) hx hb dX0_putProcess_4 rfl (lv_at hl 1 rfl) ?_
  refine lv_iload_n (pc := 5) hx hb dX0_putProcess_5 rfl (lv_at hl 2 rfl) ?_
  refine r_sI (pc := 6) CX P hF dX0_putProcess_6 (fun h2 H locs P hF => ?_)
  refine lv_aload_n (pc := 7) hx hb dX0_putProcess_7 rfl (lv_at hl 0 rfl) ?_
  refine r_gR (pc := 8) CX P hF fl_X0_15 dX0_putProcess_8 (fun a3 hF => ?_)
  refine lv_iload_n (pc := 11) hx hb dX0_putProcess_11 rfl (lv_at hl 1 rfl) ?_
  refine lv_iload_n (pc := 12) hx hb dX0_putProcess_12 rfl (lv_at hl 3 rfl) ?_
  refine r_sI (pc := 13) CX P hF dX0_putProcess_13 (fun h4 H locs P hF => ?_)
  refine lv_aload_n (pc := 14) hx hb dX0_putProcess_14 rfl (lv_at hl 0 rfl) ?_
  refine r_gR (pc := 15) CX P hF fl_X0_20 dX0_putProcess_15 (fun a5 hF => ?_)
  refine lv_iconst (pc := 18) (v := 0) hx hb dX0_putProcess_18 (by decide) ?_
  refine r_aR (pc := 19) CX P hF (Or.inr (Or.inl rfl)) dX0_putProcess_19 (fun a6 hF => ?_)
  refine lv_iload_n (pc := 20) hx hb dX0_putProcess_20 rfl (lv_at hl 1 rfl) ?_
  refine lv_iconst (pc := 21) (v := 0) hx hb dX0_putProcess_21 (by decide) ?_
  refine r_sI (pc := 22) CX P hF dX0_putProcess_22 (fun h7 H locs P hF => ?_)
  refine lv_aload_n (pc := 23) hx hb dX0_putProcess_23 rfl (lv_at hl 0 rfl) ?_
  refine r_gR (pc := 24) CX P hF fl_X0_20 dX0_putProcess_24 (fun a8 hF => ?_)
  refine lv_iconst (pc := 27) (v := 1) hx hb dX0_putProcess_27 (by decide) ?_
  refine r_aR (pc := 28) CX P hF (Or.inr (Or.inl rfl)) dX0_putProcess_28 (fun a9 hF => ?_)
  refine lv_iload_n (pc := 29) hx hb dX0_putProcess_29 rfl (lv_at hl 1 rfl) ?_
  refine lv_iconst (pc := 30) (v := 0) hx hb dX0_putProcess_30 (by decide) ?_
  refine r_sI (pc := 31) CX P hF dX0_putProcess_31 (fun h10 H locs P hF => ?_)
  refine lv_aload_n (pc := 32) hx hb dX0_putProcess_32 rfl (lv_at hl 0 rfl) ?_
  refine r_gR (pc := 33) CX P hF fl_X0_23 dX0_putProcess_33 (fun a11 hF => ?_)
  refine lv_iload_n (pc := 36) hx hb dX0_putProcess_36 rfl (lv_at hl 1 rfl) ?_
  refine lv_iconst (pc := 37) (v := 0) hx hb dX0_putProcess_37 (by decide) ?_
  refine r_sI (pc := 38) CX P hF dX0_putProcess_38 (fun h12 H locs P hF => ?_)
  refine lv_aload_n (pc := 39) hx hb dX0_putProcess_39 rfl (lv_at hl 0 rfl) ?_
  refine r_gR (pc := 40) CX P hF fl_X0_26 dX0_putProcess_40 (fun a13 hF => ?_)
  refine lv_iload_n (pc := 43) hx hb dX0_putProcess_43 rfl (lv_at hl 1 rfl) ?_
  refine lv_iconst (pc := 44) (v := 0) hx hb dX0_putProcess_44 (by decide) ?_
  refine r_sI (pc := 45) CX P hF dX0_putProcess_45 (fun h14 H locs P hF => ?_)
  refine lv_aload_n (pc := 46) hx hb dX0_putProcess_46 rfl (lv_at hl 0 rfl) ?_
  refine r_gR (pc := 47) CX P hF fl_X0_29 dX0_putProcess_47 (fun a15 hF => ?_)
  refine lv_iload_n (pc := 50) hx hb dX0_putProcess_50 rfl (lv_at hl 1 rfl) ?_
  refine lv_iconst (pc := 51) (v := 0) hx hb dX0_putProcess_51 (by decide) ?_
  refine r_sI (pc := 52) CX P hF dX0_putProcess_52 (fun h16 H locs P hF => ?_)
  refine lv_aload_n (pc := 53) hx hb dX0_putProcess_53 rfl (lv_at hl 0 rfl) ?_
  refine r_gR (pc := 54) CX P hF fl_X0_32 dX0_putProcess_54 (fun a17 hF => ?_)
  refine lv_iload_n (pc := 57) hx hb dX0_putProcess_57 rfl (lv_at hl 1 rfl) ?_
  refine lv_iconst (pc := 58) (v := 0) hx hb dX0_putProcess_58 (by decide) ?_
  refine r_sI (pc := 59) CX P hF dX0_putProcess_59 (fun h18 H locs P hF => ?_)
  cases hF
  exact hret _ _ _ _ P dX0_putProcess_60
def F_J6_bitCount_0f7a4 (h : Hp) (vp0 : Int32) : Option (Int32) :=
bl (vp0 - (((vp0.toUInt32 >>> (Int32.toUInt32 1 &&& Int32.toUInt32 31)).toInt32) &&& 1431655765)) fun v1 =>
bl ((v1 &&& 858993459) + (((v1.toUInt32 >>> (Int32.toUInt32 2 &&& Int32.toUInt32 31)).toInt32) &&& 858993459)) fun v2 =>
bl ((v2 + ((v2.toUInt32 >>> (Int32.toUInt32 4 &&& Int32.toUInt32 31)).toInt32)) &&& 252645135) fun v3 =>
bl (v3 + ((v3.toUInt32 >>> (Int32.toUInt32 8 &&& Int32.toUInt32 31)).toInt32)) fun v4 =>
bl (v4 + ((v4.toUInt32 >>> (Int32.toUInt32 16 &&& Int32.toUInt32 31)).toInt32)) fun v5 =>
some (v5 &&& 63)
set_option maxRecDepth 100000 in
set_option maxHeartbeats 4000000 in
theorem c_J6_bitCount_0f7a4 (l : Launch) (G : GG) (B : Nat) (h : Hp) (vp0 : Int32) (r0 : Int32) (hF : F_J6_bitCount_0f7a4 h vp0 = some r0) : CI l yJ6_bitCount_0f7a4 cJ6_bitCount_0f7a4 1 .int 0 0 0 0 G B h [.int vp0] r0 h := by
  refine ent_i rfl (Nat.le_of_ble_eq_true rfl) ?_
  intro p e s m args below meth c ls Q CX hnm hret P hl
  have CX : Cxt p m c cJ6_bitCount_0f7a4 1 s args RJ6 G B := CX
  obtain ⟨⟨hx, hb, hml, hown, hts⟩, -, -⟩ := id CX
  replace hl : lv_has ls 1 [(0, .int vp0)] := hl
  generalize s.heap = H at P ⊢
  generalize ([] : List Loc) = locs at P ⊢
  unfold F_J6_bitCount_0f7a4 at hF
  refine lv_iload_n (pc := 0) hx hb dJ6_bitCount_0f7a4_0 rfl (lv_at hl 0 rfl) ?_
  refine lv_iload_n (pc := 1) hx hb dJ6_bitCount_0f7a4_1 rfl (lv_at hl 0 rfl) ?_
  refine lv_iconst (pc := 2) (v := 1) hx hb dJ6_bitCount_0f7a4_2 (by decide) ?_
  refine lv_iushr (pc := 3) hx hb dJ6_bitCount_0f7a4_3 rfl ?_
  refine lv_ldcw (pc := 4) (v := 1431655765) hx hb hown (hts _ tw_543) dJ6_bitCount_0f7a4_4 ?_
  refine lv_iand (pc := 7) hx hb dJ6_bitCount_0f7a4_7 ?_
  refine lv_isub (pc := 8) hx hb dJ6_bitCount_0f7a4_8 ?_
  refine lv_topi (fun v1 ev1 => ?_)
  replace hF := bl_e hF ev1
  refine lv_istore_n (pc := 9) hx hb dJ6_bitCount_0f7a4_9 rfl hl (by decide) rfl (fun ls hl => ?_)
  replace hl : lv_has ls 1 [(0, .int v1)] := hl
  refine lv_iload_n (pc := 10) hx hb dJ6_bitCount_0f7a4_10 rfl (lv_at hl 0 rfl) ?_
  refine lv_ldcw (pc := 11) (v := 858993459) hx hb hown (hts _ tw_544) dJ6_bitCount_0f7a4_11 ?_
  refine lv_iand (pc := 14) hx hb dJ6_bitCount_0f7a4_14 ?_
  refine lv_iload_n (pc := 15) hx hb dJ6_bitCount_0f7a4_15 rfl (lv_at hl 0 rfl) ?_
  refine lv_iconst (pc := 16) (v := 2) hx hb dJ6_bitCount_0f7a4_16 (by decide) ?_
  refine lv_iushr (pc := 17) hx hb dJ6_bitCount_0f7a4_17 rfl ?_
  refine lv_ldcw (pc := 18) (v := 858993459) hx hb hown (hts _ tw_544) dJ6_bitCount_0f7a4_18 ?_
  refine lv_iand (pc := 21) hx hb dJ6_bitCount_0f7a4_21 ?_
  refine lv_iadd (pc := 22) hx hb dJ6_bitCount_0f7a4_22 ?_
  refine lv_topi (fun v2 ev2 => ?_)
  replace hF := bl_e hF ev2
  refine lv_istore_n (pc := 23) hx hb dJ6_bitCount_0f7a4_23 rfl hl (by decide) rfl (fun ls hl => ?_)
  replace hl : lv_has ls 1 [(0, .int v2)] := hl
  refine lv_iload_n (pc := 24) hx hb dJ6_bitCount_0f7a4_24 rfl (lv_at hl 0 rfl) ?_
  refine lv_iload_n (pc := 25) hx hb dJ6_bitCount_0f7a4_25 rfl (lv_at hl 0 rfl) ?_
  refine lv_iconst (pc := 26) (v := 4) hx hb dJ6_bitCount_0f7a4_26 (by decide) ?_
  refine lv_iushr (pc := 27) hx hb dJ6_bitCount_0f7a4_27 rfl ?_
  refine lv_iadd (pc := 28) hx hb dJ6_bitCount_0f7a4_28 ?_
  refine lv_ldcw (pc := 29) (v := 252645135) hx hb hown (hts _ tw_545) dJ6_bitCount_0f7a4_29 ?_
  refine lv_iand (pc := 32) hx hb dJ6_bitCount_0f7a4_32 ?_
  refine lv_topi (fun v3 ev3 => ?_)
  replace hF := bl_e hF ev3
  refine lv_istore_n (pc := 33) hx hb dJ6_bitCount_0f7a4_33 rfl hl (by decide) rfl (fun ls hl => ?_)
  replace hl : lv_has ls 1 [(0, .int v3)] := hl
  refine lv_iload_n (pc := 34) hx hb dJ6_bitCount_0f7a4_34 rfl (lv_at hl 0 rfl) ?_
  refine lv_iload_n (pc := 35) hx hb dJ6_bitCount_0f7a4_35 rfl (lv_at hl 0 rfl) ?_
  refine lv_bipush (pc := 36) (v := 8) hx hb dJ6_bitCount_0f7a4_36 (by decide) ?_
  refine lv_iushr (pc := 38) hx hb dJ6_bitCount_0f7a4_38 rfl ?_
  refine lv_iadd (pc := 39) hx hb dJ6_bitCount_0f7a4_39 ?_
  refine lv_topi (fun v4 ev4 => ?_)
  replace hF := bl_e hF ev4
  refine lv_istore_n (pc := 40) hx hb dJ6_bitCount_0f7a4_40 rfl hl (by decide) rfl (fun ls hl => ?_)
  replace hl : lv_has ls 1 [(0, .int v4)] := hl
  refine lv_iload_n (pc := 41) hx hb dJ6_bitCount_0f7a4_41 rfl (lv_at hl 0 rfl) ?_
  refine lv_iload_n (pc := 42) hx hb dJ6_bitCount_0f7a4_42 rfl (lv_at hl 0 rfl) ?_
  refine lv_bipush (pc := 43) (v := 16) hx hb dJ6_bitCount_0f7a4_43 (by decide) ?_
  refine lv_iushr (pc := 45) hx hb dJ6_bitCount_0f7a4_45 rfl ?_
  refine lv_iadd (pc := 46) hx hb dJ6_bitCount_0f7a4_46 ?_
  refine lv_topi (fun v5 ev5 => ?_)
  replace hF := bl_e hF ev5
  refine lv_istore_n (pc := 47) hx hb dJ6_bitCount_0f7a4_47 rfl hl (by decide) rfl (fun ls hl => ?_)
  replace hl : lv_has ls 1 [(0, .int v5)] := hl
  refine lv_iload_n (pc := 48) hx hb dJ6_bitCount_0f7a4_48 rfl (lv_at hl 0 rfl) ?_
  refine lv_bipush (pc := 49) (v := 63) hx hb dJ6_bitCount_0f7a4_49 (by decide) ?_
  refine lv_iand (pc := 51) hx hb dJ6_bitCount_0f7a4_51 ?_
  cases hF
  exact hret _ _ _ _ P rfl dJ6_bitCount_0f7a4_52
def F_X0_firstFree_L2 (h4 : Hp) (a2 : Nat) (v3 : Int32) : Option ((Int32) ⊕ ((Int32) ⊕ (Unit))) :=
if 16 ≤ v3 then (
some (.inr (.inr ()))) else (
(gR h4 a2 0 0).bind fun a5 =>
(aI h4 a5 v3).bind fun v6 =>
if v6 = (-1) then (
some (.inr (.inl v3))) else (
bl (v3 + 1) fun v7 =>
some (.inl v7)))
def F_X0_firstFree (h : Hp) (a0 : Nat) : Option (Int32) :=
(loopF (fun x => F_X0_firstFree_L2 h a0 x) 6000 0).bind (sE (fun x => some x) (fun q1 =>
some (-1)))
set_option maxRecDepth 100000 in
set_option maxHeartbeats 4000000 in
theorem c_X0_firstFree (l : Launch) (G : GG) (B : Nat) (h : Hp) (a0 : Nat) (r0 : Int32) (hF : F_X0_firstFree h a0 = some r0) : CI l yX0_firstFree cX0_firstFree 2 .int 0 0 0 0 G B h [.ref (B + a0)] r0 h := by
  refine ent_i rfl (Nat.le_of_ble_eq_true rfl) ?_
  intro p e s m args below meth c ls Q CX hnm hret P hl
  have CX : Cxt p m c cX0_firstFree 2 s args RX0 G B := CX
  obtain ⟨⟨hx, hb, hml, hown, hts⟩, -, -⟩ := id CX
  replace hl : lv_has ls 2 [(0, .ref (B + a0))] := hl
  generalize s.heap = H at P ⊢
  generalize ([] : List Loc) = locs at P ⊢
  unfold F_X0_firstFree at hF
  refine lv_iconst (pc := 0) (v := 0) hx hb dX0_firstFree_0 (by decide) ?_
  refine lv_istore_n (pc := 1) hx hb dX0_firstFree_1 rfl hl (by decide) rfl (fun ls hl => ?_)
  replace hl : lv_has ls 2 [(1, .int 0), (0, .ref (B + a0))] := hl
  obtain ⟨r1, hLp1, hK1⟩ := bd_some hF
  have hX1 : ∀  (H : Heap) (locs : List Loc) (ls : Array Slot), Pic G B h s H locs → lv_has ls 2 [] → .inr () = r1 → W p l e (rmM 0 0 0 0) s m args below meth c H locs 0 0 Q (F0 m 26 ls []) := by
    intro  H locs ls P hl er
    subst er
    have hF := sE_ri hK1
    try dsimp only at hF
    refine lv_iconst (pc := 26) (v := (-1)) hx hb dX0_firstFree_26 (by decide) ?_
    cases hF
    exact hret _ _ _ _ P rfl dX0_firstFree_27
  have hL1 : ∀ (n : Nat) (v3 : Int32) (H : Heap) (locs : List Loc) (ls : Array Slot), Pic G B h s H locs → lv_has ls 2 [(0, .ref (B + a0)), (1, .int v3)] → loopF (fun x => F_X0_firstFree_L2 h a0 x) n v3 = some r1 → W p l e (rmM 0 0 0 0) s m args below meth c H locs 0 0 Q (F0 m 2 ls []) := by
    intro n
    induction n with
    | zero => intro v3 H locs ls P hl hq; cases hq
    | succ n ih =>
      intro v3 H locs ls P hl hq
      obtain ⟨z1, hS1, hI1, hR1⟩ := loop_some hq
      have hF : F_X0_firstFree_L2 h a0 v3 = some z1 := hS1
      unfold F_X0_firstFree_L2 at hF
      refine lv_iload_n (pc := 2) hx hb dX0_firstFree_2 rfl (lv_at hl 1 rfl) ?_
      refine lv_bipush (pc := 3) (v := 16) hx hb dX0_firstFree_3 (by decide) ?_
      refine lv_icmp_ge (pc := 5) (tgt := 26) hx hb dX0_firstFree_5 (by decide) (fun hc => ?_) (fun hc => ?_)
      · rw [if_pos hc] at hF
        exact hX1  _ _ _ P (lv_sub hl [] rfl) (hR1 _ (Option.some.inj hF).symm)
      · rw [if_neg hc] at hF
        refine lv_aload_n (pc := 8) hx hb dX0_firstFree_8 rfl (lv_at hl 0 rfl) ?_
        refine r_gR (pc := 9) CX P hF fl_X0_9 dX0_firstFree_9 (fun a5 hF => ?_)
        refine lv_iload_n (pc := 12) hx hb dX0_firstFree_12 rfl (lv_at hl 1 rfl) ?_
        refine r_aI (pc := 13) CX P hF dX0_firstFree_13 (fun v6 hF => ?_)
        refine lv_iconst (pc := 14) (v := (-1)) hx hb dX0_firstFree_14 (by decide) ?_
        refine lv_icmp_ne (pc := 15) (tgt := 20) hx hb dX0_firstFree_15 (by decide) (fun hc => ?_) (fun hc => ?_)
        · rw [if_neg hc] at hF
          obtain ⟨v7, ev7, hF⟩ := bl_o hF
          refine lv_iinc (pc := 20) (k := 1) (v := v7) hx hb dX0_firstFree_20 hl rfl ev7 (by decide) rfl (fun ls hl => ?_)
          replace hl : lv_has ls 2 [(1, .int v7), (0, .ref (B + a0))] := hl
          refine lv_goto (pc := 23) (tgt := 2) hx hb dX0_firstFree_23 (by decide) ?_
          exact ih _ _ _ _ P (lv_sub hl [1, 0] rfl) (hI1 _ (Option.some.inj hF).symm)
        · rw [if_pos hc] at hF
          refine lv_iload_n (pc := 18) hx hb dX0_firstFree_18 rfl (lv_at hl 1 rfl) ?_
          have hE := hR1 _ (Option.some.inj hF).symm
          subst hE
          replace hF := sE_li hK1
          cases hF
          exact hret _ _ _ _ P rfl dX0_firstFree_19
  exact hL1 _ _ _ _ _ P (lv_sub hl [1, 0] rfl) hLp1
def F_X0_has (h : Hp) (a0 : Nat) (vp1 : Int32) : Option (Int32) :=
if vp1 < 0 then (
some 0) else (
if 16 ≤ vp1 then (
some 0) else (
(gR h a0 0 0).bind fun a1 =>
(aI h a1 vp1).bind fun v2 =>
if v2 = (-1) then (
some 0) else (
some 1)))
set_option maxRecDepth 100000 in
set_option maxHeartbeats 4000000 in
theorem c_X0_has (l : Launch) (G : GG) (B : Nat) (h : Hp) (a0 : Nat) (vp1 : Int32) (r0 : Int32) (hF : F_X0_has h a0 vp1 = some r0) : CI l yX0_has cX0_has 2 .boolean 0 0 0 0 G B h [.ref (B + a0), .int vp1] r0 h := by
  refine ent_i rfl (Nat.le_of_ble_eq_true rfl) ?_
  intro p e s m args below meth c ls Q CX hnm hret P hl
  have CX : Cxt p m c cX0_has 2 s args RX0 G B := CX
  obtain ⟨⟨hx, hb, hml, hown, hts⟩, -, -⟩ := id CX
  replace hl : lv_has ls 2 [(0, .ref (B + a0)), (1, .int vp1)] := hl
  generalize s.heap = H at P ⊢
  generalize ([] : List Loc) = locs at P ⊢
  unfold F_X0_has at hF
  refine lv_iload_n (pc := 0) hx hb dX0_has_0 rfl (lv_at hl 1 rfl) ?_
  refine lv_if_lt (pc := 1) (tgt := 24) hx hb dX0_has_1 (by decide) (fun hc => ?_) (fun hc => ?_)
  · rw [if_pos hc] at hF
    refine lv_iconst (pc := 24) (v := 0) hx hb dX0_has_24 (by decide) ?_
    cases hF
    exact hret _ _ _ _ P rfl dX0_has_25
  · rw [if_neg hc] at hF
    refine lv_iload_n (pc := 4) hx hb dX0_has_4 rfl (lv_at hl 1 rfl) ?_
    refine lv_bipush (pc := 5) (v := 16) hx hb dX0_has_5 (by decide) ?_
    refine lv_icmp_ge (pc := 7) (tgt := 24) hx hb dX0_has_7 (by decide) (fun hc => ?_) (fun hc => ?_)
    · rw [if_pos hc] at hF
      refine lv_iconst (pc := 24) (v := 0) hx hb dX0_has_24 (by decide) ?_
      cases hF
      exact hret _ _ _ _ P rfl dX0_has_25
    · rw [if_neg hc] at hF
      refine lv_aload_n (pc := 10) hx hb dX0_has_10 rfl (lv_at hl 0 rfl) ?_
      refine r_gR (pc := 11) CX P hF fl_X0_9 dX0_has_11 (fun a1 hF => ?_)
      refine lv_iload_n (pc := 14) hx hb dX0_has_14 rfl (lv_at hl 1 rfl) ?_
      refine r_aI (pc := 15) CX P hF dX0_has_15 (fun v2 hF => ?_)
      refine lv_iconst (pc := 16) (v := (-1)) hx hb dX0_has_16 (by decide) ?_
      refine lv_icmp_eq (pc := 17) (tgt := 24) hx hb dX0_has_17 (by decide) (fun hc => ?_) (fun hc => ?_)
      · rw [if_pos hc] at hF
        refine lv_iconst (pc := 24) (v := 0) hx hb dX0_has_24 (by decide) ?_
        cases hF
        exact hret _ _ _ _ P rfl dX0_has_25
      · rw [if_neg hc] at hF
        refine lv_iconst (pc := 20) (v := 1) hx hb dX0_has_20 (by decide) ?_
        refine lv_goto (pc := 21) (tgt := 25) hx hb dX0_has_21 (by decide) ?_
        cases hF
        exact hret _ _ _ _ P rfl dX0_has_25
def F_X6_firstAboveMax_L5 (h6 : Hp) (a2 : Nat) (v3 : Int32) (v4 : Int32) (v5 : Int32) : Option ((Int32 × Int32) ⊕ ((Int32) ⊕ (Unit))) :=
if v4 = (-1) then (
some (.inr (.inr ()))) else (
if 12 ≤ v5 then (
some (.inr (.inr ()))) else (
(gR h6 a2 6 5).bind fun a7 =>
(aI h6 a7 v4).bind fun v8 =>
(gR h6 a2 6 3).bind fun a9 =>
(aR h6 a9 15 3).bind fun a10 =>
(aI h6 a10 v4).bind fun v11 =>
if (v8 + v3) ≤ v11 then (
(gR h6 a2 6 0).bind fun a12 =>
(aI h6 a12 v4).bind fun v13 =>
bl (v5 + 1) fun v14 =>
some (.inl (v13, v14))) else (
some (.inr (.inl v4)))))
def F_X6_firstAboveMax (h : Hp) (a0 : Nat) (vp1 : Int32) (vp2 : Int32) : Option (Int32) :=
(loopF (fun x => F_X6_firstAboveMax_L5 h a0 vp2 x.1 x.2) 6000 (vp1, 0)).bind (sE (fun x => some x) (fun q1 =>
some (-1)))
set_option maxRecDepth 100000 in
set_option maxHeartbeats 4000000 in
theorem c_X6_firstAboveMax (l : Launch) (G : GG) (B : Nat) (h : Hp) (a0 : Nat) (vp1 : Int32) (vp2 : Int32) (r0 : Int32) (hF : F_X6_firstAboveMax h a0 vp1 vp2 = some r0) : CI l yX6_firstAboveMax cX6_firstAboveMax 5 .int 0 0 0 0 G B h [.ref (B + a0), .int vp1, .int vp2] r0 h := by
  refine ent_i rfl (Nat.le_of_ble_eq_true rfl) ?_
  intro p e s m args below meth c ls Q CX hnm hret P hl
  have CX : Cxt p m c cX6_firstAboveMax 5 s args RX6 G B := CX
  obtain ⟨⟨hx, hb, hml, hown, hts⟩, -, -⟩ := id CX
  replace hl : lv_has ls 5 [(0, .ref (B + a0)), (1, .int vp1), (2, .int vp2)] := hl
  generalize s.heap = H at P ⊢
  generalize ([] : List Loc) = locs at P ⊢
  unfold F_X6_firstAboveMax at hF
  refine lv_iload_n (pc := 0) hx hb dX6_firstAboveMax_0 rfl (lv_at hl 1 rfl) ?_
  refine lv_istore_n (pc := 1) hx hb dX6_firstAboveMax_1 rfl hl (by decide) rfl (fun ls hl => ?_)
  replace hl : lv_has ls 5 [(3, .int vp1), (0, .ref (B + a0)), (1, .int vp1), (2, .int vp2)] := hl
  refine lv_iconst (pc := 2) (v := 0) hx hb dX6_firstAboveMax_2 (by decide) ?_
  refine lv_istore (pc := 3) hx hb dX6_firstAboveMax_3 hl (by decide) rfl (fun ls hl => ?_)
  replace hl : lv_has ls 5 [(4, .int 0), (3, .int vp1), (0, .ref (B + a0)), (1, .int vp1), (2, .int vp2)] := hl
  obtain ⟨r1, hLp1, hK1⟩ := bd_some hF
  have hX1 : ∀  (H : Heap) (locs : List Loc) (ls : Array Slot), Pic G B h s H locs → lv_has ls 5 [] → .inr () = r1 → W p l e (rmM 0 0 0 0) s m args below meth c H locs 0 0 Q (F0 m 51 ls []) := by
    intro  H locs ls P hl er
    subst er
    have hF := sE_ri hK1
    try dsimp only at hF
    refine lv_iconst (pc := 51) (v := (-1)) hx hb dX6_firstAboveMax_51 (by decide) ?_
    cases hF
    exact hret _ _ _ _ P rfl dX6_firstAboveMax_52
  have hL1 : ∀ (n : Nat) (v4 : Int32) (v5 : Int32) (H : Heap) (locs : List Loc) (ls : Array Slot), Pic G B h s H locs → lv_has ls 5 [(0, .ref (B + a0)), (2, .int vp2), (3, .int v4), (4, .int v5)] → loopF (fun x => F_X6_firstAboveMax_L5 h a0 vp2 x.1 x.2) n (v4, v5) = some r1 → W p l e (rmM 0 0 0 0) s m args below meth c H locs 0 0 Q (F0 m 5 ls []) := by
    intro n
    induction n with
    | zero => intro v4 v5 H locs ls P hl hq; cases hq
    | succ n ih =>
      intro v4 v5 H locs ls P hl hq
      obtain ⟨z1, hS1, hI1, hR1⟩ := loop_some hq
      have hF : F_X6_firstAboveMax_L5 h a0 vp2 v4 v5 = some z1 := hS1
      unfold F_X6_firstAboveMax_L5 at hF
      refine lv_iload_n (pc := 5) hx hb dX6_firstAboveMax_5 rfl (lv_at hl 2 rfl) ?_
      refine lv_iconst (pc := 6) (v := (-1)) hx hb dX6_firstAboveMax_6 (by decide) ?_
      refine lv_icmp_eq (pc := 7) (tgt := 51) hx hb dX6_firstAboveMax_7 (by decide) (fun hc => ?_) (fun hc => ?_)
      · rw [if_pos hc] at hF
        exact hX1  _ _ _ P (lv_sub hl [] rfl) (hR1 _ (Option.some.inj hF).symm)
      · rw [if_neg hc] at hF
        refine lv_iload (pc := 10) hx hb dX6_firstAboveMax_10 (lv_at hl 3 rfl) ?_
        refine lv_bipush (pc := 12) (v := 12) hx hb dX6_firstAboveMax_12 (by decide) ?_
        refine lv_icmp_ge (pc := 14) (tgt := 51) hx hb dX6_firstAboveMax_14 (by decide) (fun hc => ?_) (fun hc => ?_)
        · rw [if_pos hc] at hF
          exact hX1  _ _ _ P (lv_sub hl [] rfl) (hR1 _ (Option.some.inj hF).symm)
        · rw [if_neg hc] at hF
          refine lv_aload_n (pc := 17) hx hb dX6_firstAboveMax_17 rfl (lv_at hl 0 rfl) ?_
          refine r_gR (pc := 18) CX P hF fl_X6_26 dX6_firstAboveMax_18 (fun a7 hF => ?_)
          refine lv_iload_n (pc := 21) hx hb dX6_firstAboveMax_21 rfl (lv_at hl 2 rfl) ?_
          refine r_aI (pc := 22) CX P hF dX6_firstAboveMax_22 (fun v8 hF => ?_)
          refine lv_iload_n (pc := 23) hx hb dX6_firstAboveMax_23 rfl (lv_at hl 1 rfl) ?_
          refine lv_iadd (pc := 24) hx hb dX6_firstAboveMax_24 ?_
          refine lv_aload_n (pc := 25) hx hb dX6_firstAboveMax_25 rfl (lv_at hl 0 rfl) ?_
          refine r_gR (pc := 26) CX P hF fl_X6_20 dX6_firstAboveMax_26 (fun a9 hF => ?_)
          refine lv_iconst (pc := 29) (v := 3) hx hb dX6_firstAboveMax_29 (by decide) ?_
          refine r_aR (pc := 30) CX P hF (Or.inr (Or.inl rfl)) dX6_firstAboveMax_30 (fun a10 hF => ?_)
          refine lv_iload_n (pc := 31) hx hb dX6_firstAboveMax_31 rfl (lv_at hl 2 rfl) ?_
          refine r_aI (pc := 32) CX P hF dX6_firstAboveMax_32 (fun v11 hF => ?_)
          refine lv_icmp_le (pc := 33) (tgt := 38) hx hb dX6_firstAboveMax_33 (by decide) (fun hc => ?_) (fun hc => ?_)
          · rw [if_pos hc] at hF
            refine lv_aload_n (pc := 38) hx hb dX6_firstAboveMax_38 rfl (lv_at hl 0 rfl) ?_
            refine r_gR (pc := 39) CX P hF fl_X6_9 dX6_firstAboveMax_39 (fun a12 hF => ?_)
            refine lv_iload_n (pc := 42) hx hb dX6_firstAboveMax_42 rfl (lv_at hl 2 rfl) ?_
            refine r_aI (pc := 43) CX P hF dX6_firstAboveMax_43 (fun v13 hF => ?_)
            refine lv_istore_n (pc := 44) hx hb dX6_firstAboveMax_44 rfl hl (by decide) rfl (fun ls hl => ?_)
            replace hl : lv_has ls 5 [(3, .int v13), (0, .ref (B + a0)), (2, .int vp2), (4, .int v5)] := hl
            obtain ⟨v14, ev14, hF⟩ := bl_o hF
            refine lv_iinc (pc := 45) (k := 3) (v := v14) hx hb dX6_firstAboveMax_45 hl rfl ev14 (by decide) rfl (fun ls hl => ?_)
            replace hl : lv_has ls 5 [(4, .int v14), (3, .int v13), (0, .ref (B + a0)), (2, .int vp2)] := hl
            refine lv_goto (pc := 48) (tgt := 5) hx hb dX6_firstAboveMax_48 (by decide) ?_
            exact ih _ _ _ _ _ P (lv_sub hl [2, 3, 1, 0] rfl) (hI1 _ (Option.some.inj hF).symm)
          · rw [if_neg hc] at hF
            refine lv_iload_n (pc := 36) hx hb dX6_firstAboveMax_36 rfl (lv_at hl 2 rfl) ?_
            have hE := hR1 _ (Option.some.inj hF).symm
            subst hE
            replace hF := sE_li hK1
            cases hF
            exact hret _ _ _ _ P rfl dX6_firstAboveMax_37
  exact hL1 _ _ _ _ _ _ P (lv_sub hl [2, 4, 1, 0] rfl) hLp1
def F_X9_outlives (h : Hp) (vp0 : Int32) : Option (Int32) :=
if vp0 = 0 then (
some 1) else (
if vp0 = 1 then (
some 1) else (
if vp0 = 2 then (
some 1) else (
some 0)))
set_option maxRecDepth 100000 in
set_option maxHeartbeats 4000000 in
theorem c_X9_outlives (l : Launch) (G : GG) (B : Nat) (h : Hp) (vp0 : Int32) (r0 : Int32) (hF : F_X9_outlives h vp0 = some r0) : CI l yX9_outlives cX9_outlives 1 .boolean 0 0 0 0 G B h [.int vp0] r0 h := by
  refine ent_i rfl (Nat.le_of_ble_eq_true rfl) ?_
  intro p e s m args below meth c ls Q CX hnm hret P hl
  have CX : Cxt p m c cX9_outlives 1 s args RX9 G B := CX
  obtain ⟨⟨hx, hb, hml, hown, hts⟩, -, -⟩ := id CX
  replace hl : lv_has ls 1 [(0, .int vp0)] := hl
  generalize s.heap = H at P ⊢
  generalize ([] : List Loc) = locs at P ⊢
  unfold F_X9_outlives at hF
  refine lv_iload_n (pc := 0) hx hb dX9_outlives_0 rfl (lv_at hl 0 rfl) ?_
  refine lv_if_eq (pc := 1) (tgt := 14) hx hb dX9_outlives_1 (by decide) (fun hc => ?_) (fun hc => ?_)
  · rw [if_pos hc] at hF
    refine lv_iconst (pc := 14) (v := 1) hx hb dX9_outlives_14 (by decide) ?_
    refine lv_goto (pc := 15) (tgt := 19) hx hb dX9_outlives_15 (by decide) ?_
    cases hF
    exact hret _ _ _ _ P rfl dX9_outlives_19
  · rw [if_neg hc] at hF
    refine lv_iload_n (pc := 4) hx hb dX9_outlives_4 rfl (lv_at hl 0 rfl) ?_
    refine lv_iconst (pc := 5) (v := 1) hx hb dX9_outlives_5 (by decide) ?_
    refine lv_icmp_eq (pc := 6) (tgt := 14) hx hb dX9_outlives_6 (by decide) (fun hc => ?_) (fun hc => ?_)
    · rw [if_pos hc] at hF
      refine lv_iconst (pc := 14) (v := 1) hx hb dX9_outlives_14 (by decide) ?_
      refine lv_goto (pc := 15) (tgt := 19) hx hb dX9_outlives_15 (by decide) ?_
      cases hF
      exact hret _ _ _ _ P rfl dX9_outlives_19
    · rw [if_neg hc] at hF
      refine lv_iload_n (pc := 9) hx hb dX9_outlives_9 rfl (lv_at hl 0 rfl) ?_
      refine lv_iconst (pc := 10) (v := 2) hx hb dX9_outlives_10 (by decide) ?_
      refine lv_icmp_ne (pc := 11) (tgt := 18) hx hb dX9_outlives_11 (by decide) (fun hc => ?_) (fun hc => ?_)
      · rw [if_neg hc] at hF
        refine lv_iconst (pc := 18) (v := 0) hx hb dX9_outlives_18 (by decide) ?_
        cases hF
        exact hret _ _ _ _ P rfl dX9_outlives_19
      · rw [if_pos hc] at hF
        refine lv_iconst (pc := 14) (v := 1) hx hb dX9_outlives_14 (by decide) ?_
        refine lv_goto (pc := 15) (tgt := 19) hx hb dX9_outlives_15 (by decide) ?_
        cases hF
        exact hret _ _ _ _ P rfl dX9_outlives_19
