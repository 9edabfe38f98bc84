def F_X10_givesBack (h : Hp) (a0 : Nat) (vp1 : Int32) (vp2 : Int32) : Option (Hp) :=
(cO h a0 10 (F_X10_of h a0 vp1 10 vp2)).bind (un fun v1 h2 =>
(gR h2 a0 10 1).bind fun a3 =>
(aI h2 a3 3).bind fun v4 =>
if v1 ≤ v4 then (
some h2) else (
(cO h2 a0 10 (F_X10_lays h2 a0 vp1 10 0)).bind fun h5 =>
some h5))
set_option maxRecDepth 100000 in
set_option maxHeartbeats 4000000 in
theorem c_X10_givesBack (l : Launch) (G : GG) (B : Nat) (h : Hp) (a0 : Nat) (vp1 : Int32) (vp2 : Int32) (hr : Hp) (hF : F_X10_givesBack h a0 vp1 vp2 = some hr) : CV l yX10_givesBack cX10_givesBack 3 1 23 0 0 G B h [.ref (B + a0), .int vp1, .int vp2] hr := by
  refine ent_v rfl (Nat.le_of_ble_eq_true rfl) ?_
  intro p e s m args below meth c ls Q CX hnm hret P hl
  have CX : Cxt p m c cX10_givesBack 3 s args RX10 G B := CX
  obtain ⟨⟨hx, hb, hml, hown, hts⟩, -, -⟩ := id CX
  replace hl : lv_has ls 3 [(0, .ref (B + a0)), (1, .int vp1), (2, .int vp2)] := hl
  generalize s.heap = H at P ⊢
  generalize ([] : List Loc) = locs at P ⊢
  unfold F_X10_givesBack at hF
  refine lv_aload_n (pc := 0) hx hb dX10_givesBack_0 rfl (lv_at hl 0 rfl) ?_
  refine lv_iload_n (pc := 1) hx hb dX10_givesBack_1 rfl (lv_at hl 1 rfl) ?_
  refine lv_bipush (pc := 2) (v := 10) hx hb dX10_givesBack_2 (by decide) ?_
  refine lv_iload_n (pc := 4) hx hb dX10_givesBack_4 rfl (lv_at hl 2 rfl) ?_
  refine r_cVi (pc := 5) (As := [.int vp1, .int 10, .int vp2]) (rest := []) CX P hl.1 hF kv_X10_99 (fun r h1 q => c_X10_of l G B _ _ _ _ _ _ _ q) rfl rfl ⟨Nat.le_of_ble_eq_true rfl, Nat.le_of_ble_eq_true rfl⟩ (Nat.le_of_ble_eq_true rfl) ⟨Nat.le_of_ble_eq_true rfl, Nat.le_of_ble_eq_true rfl⟩ dX10_givesBack_5 (fun v1 h2 H locs P hF => ?_)
  replace hF := un_i hF
  refine lv_aload_n (pc := 8) hx hb dX10_givesBack_8 rfl (lv_at hl 0 rfl) ?_
  refine r_gR (pc := 9) CX P hF fl_X10_13 dX10_givesBack_9 (fun a3 hF => ?_)
  refine lv_iconst (pc := 12) (v := 3) hx hb dX10_givesBack_12 (by decide) ?_
  refine r_aI (pc := 13) CX P hF dX10_givesBack_13 (fun v4 hF => ?_)
  refine lv_icmp_le (pc := 14) (tgt := 25) hx hb dX10_givesBack_14 (by decide) (fun hc => ?_) (fun hc => ?_)
  · rw [if_pos hc] at hF
    cases hF
    exact hret _ _ _ _ P dX10_givesBack_25
  · rw [if_neg hc] at hF
    refine lv_aload_n (pc := 17) hx hb dX10_givesBack_17 rfl (lv_at hl 0 rfl) ?_
    refine lv_iload_n (pc := 18) hx hb dX10_givesBack_18 rfl (lv_at hl 1 rfl) ?_
    refine lv_bipush (pc := 19) (v := 10) hx hb dX10_givesBack_19 (by decide) ?_
    refine lv_iconst (pc := 21) (v := 0) hx hb dX10_givesBack_21 (by decide) ?_
    refine r_cVv (pc := 22) (As := [.int vp1, .int 10, .int 0]) (rest := []) CX P hl.1 hF kv_X10_95 (fun h1 q => c_X10_lays l G B _ _ _ _ _ _ q) rfl rfl ⟨Nat.le_of_ble_eq_true rfl, Nat.le_of_ble_eq_true rfl⟩ (Nat.le_of_ble_eq_true rfl) ⟨Nat.le_of_ble_eq_true rfl, Nat.le_of_ble_eq_true rfl⟩ dX10_givesBack_22 (fun h5 H locs P hF => ?_)
    cases hF
    exact hret _ _ _ _ P dX10_givesBack_25
def F_X10_badnessOf (h : Hp) (a0 : Nat) (vp1 : Int32) : Option (Int32 × Hp) :=
(cO h a0 10 (F_X10_pagesOf h a0 vp1)).bind (un fun v1 h2 =>
(cO h2 a0 10 (F_X10_ofProcess h2 a0 vp1 5 0)).bind (un fun v3 h4 =>
(cO h4 a0 10 (F_X10_ofProcess h4 a0 vp1 1 0)).bind (un fun v5 h6 =>
some (((v1 + v3) + (10 * v5)), h6))))
set_option maxRecDepth 100000 in
set_option maxHeartbeats 4000000 in
theorem c_X10_badnessOf (l : Launch) (G : GG) (B : Nat) (h : Hp) (a0 : Nat) (vp1 : Int32) (r0 : Int32) (hr : Hp) (hF : F_X10_badnessOf h a0 vp1 = some (r0, hr)) : CI l yX10_badnessOf cX10_badnessOf 2 .int 2 44 0 0 G B h [.ref (B + a0), .int vp1] r0 hr := by
  refine ent_i rfl (Nat.le_of_ble_eq_true rfl) ?_
  intro p e s m args below meth c ls Q CX hnm hret P hl
  have CX : Cxt p m c cX10_badnessOf 2 s args RX10 G B := CX
  obtain ⟨⟨hx, hb, hml, hown, hts⟩, -, -⟩ := id CX
  replace hl : lv_has ls 2 [(0, .ref (B + a0)), (1, .int vp1)] := hl
  generalize s.heap = H at P ⊢
  generalize ([] : List Loc) = locs at P ⊢
  unfold F_X10_badnessOf at hF
  refine lv_aload_n (pc := 0) hx hb dX10_badnessOf_0 rfl (lv_at hl 0 rfl) ?_
  refine lv_iload_n (pc := 1) hx hb dX10_badnessOf_1 rfl (lv_at hl 1 rfl) ?_
  refine r_cVi (pc := 2) (As := [.int vp1]) (rest := []) CX P hl.1 hF kv_X10_134 (fun r h1 q => c_X10_pagesOf l G B _ _ _ _ _ q) rfl rfl ⟨Nat.le_of_ble_eq_true rfl, Nat.le_of_ble_eq_true rfl⟩ (Nat.le_of_ble_eq_true rfl) ⟨Nat.le_of_ble_eq_true rfl, Nat.le_of_ble_eq_true rfl⟩ dX10_badnessOf_2 (fun v1 h2 H locs P hF => ?_)
  replace hF := un_i hF
  refine lv_aload_n (pc := 5) hx hb dX10_badnessOf_5 rfl (lv_at hl 0 rfl) ?_
  refine lv_iload_n (pc := 6) hx hb dX10_badnessOf_6 rfl (lv_at hl 1 rfl) ?_
  refine lv_iconst (pc := 7) (v := 5) hx hb dX10_badnessOf_7 (by decide) ?_
  refine lv_iconst (pc := 8) (v := 0) hx hb dX10_badnessOf_8 (by decide) ?_
  refine r_cVi (pc := 9) (As := [.int vp1, .int 5, .int 0]) (rest := [.int v1]) CX P hl.1 hF kv_X10_114 (fun r h1 q => c_X10_ofProcess l G B _ _ _ _ _ _ _ q) rfl rfl ⟨Nat.le_of_ble_eq_true rfl, Nat.le_of_ble_eq_true rfl⟩ (Nat.le_of_ble_eq_true rfl) ⟨Nat.le_of_ble_eq_true rfl, Nat.le_of_ble_eq_true rfl⟩ dX10_badnessOf_9 (fun v3 h4 H locs P hF => ?_)
  replace hF := un_i hF
  refine lv_iadd (pc := 12) hx hb dX10_badnessOf_12 ?_
  refine lv_bipush (pc := 13) (v := 10) hx hb dX10_badnessOf_13 (by decide) ?_
  refine lv_aload_n (pc := 15) hx hb dX10_badnessOf_15 rfl (lv_at hl 0 rfl) ?_
  refine lv_iload_n (pc := 16) hx hb dX10_badnessOf_16 rfl (lv_at hl 1 rfl) ?_
  refine lv_iconst (pc := 17) (v := 1) hx hb dX10_badnessOf_17 (by decide) ?_
  refine lv_iconst (pc := 18) (v := 0) hx hb dX10_badnessOf_18 (by decide) ?_
  refine r_cVi (pc := 19) (As := [.int vp1, .int 1, .int 0]) (rest := [.int 10, .int (v1 + v3)]) CX P hl.1 hF kv_X10_114 (fun r h1 q => c_X10_ofProcess l G B _ _ _ _ _ _ _ q) rfl rfl ⟨Nat.le_of_ble_eq_true rfl, Nat.le_of_ble_eq_true rfl⟩ (Nat.le_of_ble_eq_true rfl) ⟨Nat.le_of_ble_eq_true rfl, Nat.le_of_ble_eq_true rfl⟩ dX10_badnessOf_19 (fun v5 h6 H locs P hF => ?_)
  replace hF := un_i hF
  refine lv_imul (pc := 22) hx hb dX10_badnessOf_22 ?_
  refine lv_iadd (pc := 23) hx hb dX10_badnessOf_23 ?_
  cases hF
  exact hret _ _ _ _ P rfl dX10_badnessOf_24
def F_X10_victimBelow_L4 (a2 : Nat) (v3 : Int32) (v4 : Int32) (v5 : Int32) (h6 : Hp) : Option ((Int32 × Int32 × Hp) ⊕ (Int32 × Hp)) :=
if 16 ≤ v5 then (
some (.inr (v4, h6))) else (
(cO h6 a2 10 (F_X10_isProcess h6 a2 v5)).bind fun v7 =>
if v7 = 0 then (
bl (v5 + 1) fun v8 =>
some (.inl (v4, v8, h6))) else (
(cO h6 a2 10 (F_X10_groupOf h6 a2 v5)).bind (un fun v9 h10 =>
(cO h10 a2 10 (F_X10_isBelow h10 a2 v9 v3)).bind (un fun v11 h12 =>
if v11 = 0 then (
bl (v5 + 1) fun v13 =>
some (.inl (v4, v13, h12))) else (
(cO h12 a2 10 (F_X10_ofProcess h12 a2 v5 1 0)).bind (un fun v14 h15 =>
if v14 = (-10) then (
bl (v5 + 1) fun v25 =>
some (.inl (v4, v25, h15))) else (
bl (fun (v22 : Int32) (h23 : Hp) =>
bl (v22 + 1) fun v24 =>
some (.inl (v22, v24, h23))) fun k16 =>
if v4 = (-1) then (
k16 (v5 : Int32) h15) else (
(cO h15 a2 10 (F_X10_badnessOf h15 a2 v5)).bind (un fun v17 h18 =>
(cO h18 a2 10 (F_X10_badnessOf h18 a2 v4)).bind (un fun v19 h20 =>
if v17 ≤ v19 then (
bl (v5 + 1) fun v21 =>
some (.inl (v4, v21, h20))) else (
k16 (v5 : Int32) h20)))))))))))
def F_X10_victimBelow (h : Hp) (a0 : Nat) (vp1 : Int32) : Option (Int32 × Hp) :=
(loopF (fun x => F_X10_victimBelow_L4 a0 vp1 x.1 x.2.1 x.2.2) 6000 ((-1), 0, h)).bind fun q1 =>
bl q1.1 fun v26 =>
bl q1.2 fun h27 =>
some (v26, h27)
set_option maxRecDepth 100000 in
set_option maxHeartbeats 4000000 in
theorem c_X10_victimBelow (l : Launch) (G : GG) (B : Nat) (h : Hp) (a0 : Nat) (vp1 : Int32) (r0 : Int32) (hr : Hp) (hF : F_X10_victimBelow h a0 vp1 = some (r0, hr)) : CI l yX10_victimBelow cX10_victimBelow 4 .int 3 67 0 0 G B h [.ref (B + a0), .int vp1] r0 hr := by
  refine ent_i rfl (Nat.le_of_ble_eq_true rfl) ?_
  intro p e s m args below meth c ls Q CX hnm hret P hl
  have CX : Cxt p m c cX10_victimBelow 4 s args RX10 G B := CX
  obtain ⟨⟨hx, hb, hml, hown, hts⟩, -, -⟩ := id CX
  replace hl : lv_has ls 4 [(0, .ref (B + a0)), (1, .int vp1)] := hl
  generalize s.heap = H at P ⊢
  generalize ([] : List Loc) = locs at P ⊢
  unfold F_X10_victimBelow at hF
  refine lv_iconst (pc := 0) (v := (-1)) hx hb dX10_victimBelow_0 (by decide) ?_
  refine lv_istore_n (pc := 1) hx hb dX10_victimBelow_1 rfl hl (by decide) rfl (fun ls hl => ?_)
  replace hl : lv_has ls 4 [(2, .int (-1)), (0, .ref (B + a0)), (1, .int vp1)] := hl
  refine lv_iconst (pc := 2) (v := 0) hx hb dX10_victimBelow_2 (by decide) ?_
  refine lv_istore_n (pc := 3) hx hb dX10_victimBelow_3 rfl hl (by decide) rfl (fun ls hl => ?_)
  replace hl : lv_has ls 4 [(3, .int 0), (2, .int (-1)), (0, .ref (B + a0)), (1, .int vp1)] := hl
  obtain ⟨r1, hLp1, hK1⟩ := bd_some hF
  have hX1 : ∀ (v26 : Int32) (h27 : Hp) (H : Heap) (locs : List Loc) (ls : Array Slot), Pic G B h27 s H locs → lv_has ls 4 [(2, .int v26)] → (v26, h27) = r1 → W p l e (rmM 3 67 0 0) s m args below meth c H locs 0 0 Q (F0 m 72 ls []) := by
    intro v26 h27 H locs ls P hl er
    subst er
    have hF := hK1
    replace hF := bl_i hF
    replace hF := bl_i hF
    try dsimp only at hF
    refine lv_iload_n (pc := 72) hx hb dX10_victimBelow_72 rfl (lv_at hl 0 rfl) ?_
    cases hF
    exact hret _ _ _ _ P rfl dX10_victimBelow_73
  have hL1 : ∀ (n : Nat) (v4 : Int32) (v5 : Int32) (h6 : Hp) (H : Heap) (locs : List Loc) (ls : Array Slot), Pic G B h6 s H locs → lv_has ls 4 [(0, .ref (B + a0)), (1, .int vp1), (2, .int v4), (3, .int v5)] → loopF (fun x => F_X10_victimBelow_L4 a0 vp1 x.1 x.2.1 x.2.2) n (v4, v5, h6) = some r1 → W p l e (rmM 3 67 0 0) s m args below meth c H locs 0 0 Q (F0 m 4 ls []) := by
    intro n
    induction n with
    | zero => intro v4 v5 h6 H locs ls P hl hq; cases hq
    | succ n ih =>
      intro v4 v5 h6 H locs ls P hl hq
      obtain ⟨z1, hS1, hI1, hR1⟩ := loop_some hq
      have hF : F_X10_victimBelow_L4 a0 vp1 v4 v5 h6 = some z1 := hS1
      unfold F_X10_victimBelow_L4 at hF
      refine lv_iload_n (pc := 4) hx hb dX10_victimBelow_4 rfl (lv_at hl 3 rfl) ?_
      refine lv_bipush (pc := 5) (v := 16) hx hb dX10_victimBelow_5 (by decide) ?_
      refine lv_icmp_ge (pc := 7) (tgt := 72) hx hb dX10_victimBelow_7 (by decide) (fun hc => ?_) (fun hc => ?_)
      · rw [if_pos hc] at hF
        exact hX1 _ _ _ _ _ P (lv_sub hl [2] rfl) (hR1 _ (Option.some.inj hF).symm)
      · rw [if_neg hc] at hF
        refine lv_aload_n (pc := 10) hx hb dX10_victimBelow_10 rfl (lv_at hl 0 rfl) ?_
        refine lv_iload_n (pc := 11) hx hb dX10_victimBelow_11 rfl (lv_at hl 3 rfl) ?_
        refine r_cVp (pc := 12) (As := [.int v5]) (rest := []) CX P hl.1 hF kv_X10_117 (fun r q => c_X10_isProcess l G B _ _ _ _ q) rfl rfl ⟨Nat.le_of_ble_eq_true rfl, Nat.le_of_ble_eq_true rfl⟩ (Nat.le_of_ble_eq_true rfl) ⟨Nat.le_of_ble_eq_true rfl, Nat.le_of_ble_eq_true rfl⟩ dX10_victimBelow_12 (fun v7 H locs P hF => ?_)
        refine lv_if_eq (pc := 15) (tgt := 66) hx hb dX10_victimBelow_15 (by decide) (fun hc => ?_) (fun hc => ?_)
        · rw [if_pos hc] at hF
          obtain ⟨v8, ev8, hF⟩ := bl_o hF
          refine lv_iinc (pc := 66) (k := 3) (v := v8) hx hb dX10_victimBelow_66 hl rfl ev8 (by decide) rfl (fun ls hl => ?_)
          replace hl : lv_has ls 4 [(3, .int v8), (0, .ref (B + a0)), (1, .int vp1), (2, .int v4)] := hl
          refine lv_goto (pc := 69) (tgt := 4) hx hb dX10_victimBelow_69 (by decide) ?_
          exact ih _ _ _ _ _ _ P (lv_sub hl [1, 2, 3, 0] rfl) (hI1 _ (Option.some.inj hF).symm)
        · rw [if_neg hc] at hF
          refine lv_aload_n (pc := 18) hx hb dX10_victimBelow_18 rfl (lv_at hl 0 rfl) ?_
          refine lv_aload_n (pc := 19) hx hb dX10_victimBelow_19 rfl (lv_at hl 0 rfl) ?_
          refine lv_iload_n (pc := 20) hx hb dX10_victimBelow_20 rfl (lv_at hl 3 rfl) ?_
          refine r_cVi (pc := 21) (As := [.int v5]) (rest := [.ref (B + a0)]) CX P hl.1 hF kv_X10_120 (fun r h1 q => c_X10_groupOf l G B _ _ _ _ _ q) rfl rfl ⟨Nat.le_of_ble_eq_true rfl, Nat.le_of_ble_eq_true rfl⟩ (Nat.le_of_ble_eq_true rfl) ⟨Nat.le_of_ble_eq_true rfl, Nat.le_of_ble_eq_true rfl⟩ dX10_victimBelow_21 (fun v9 h10 H locs P hF => ?_)
          replace hF := un_i hF
          refine lv_iload_n (pc := 24) hx hb dX10_victimBelow_24 rfl (lv_at hl 1 rfl) ?_
          refine r_cVi (pc := 25) (As := [.int v9, .int vp1]) (rest := []) CX P hl.1 hF kv_X10_111 (fun r h1 q => c_X10_isBelow l G B _ _ _ _ _ _ q) rfl rfl ⟨Nat.le_of_ble_eq_true rfl, Nat.le_of_ble_eq_true rfl⟩ (Nat.le_of_ble_eq_true rfl) ⟨Nat.le_of_ble_eq_true rfl, Nat.le_of_ble_eq_true rfl⟩ dX10_victimBelow_25 (fun v11 h12 H locs P hF => ?_)
          replace hF := un_i hF
          refine lv_if_eq (pc := 28) (tgt := 66) hx hb dX10_victimBelow_28 (by decide) (fun hc => ?_) (fun hc => ?_)
          · rw [if_pos hc] at hF
            obtain ⟨v13, ev13, hF⟩ := bl_o hF
            refine lv_iinc (pc := 66) (k := 3) (v := v13) hx hb dX10_victimBelow_66 hl rfl ev13 (by decide) rfl (fun ls hl => ?_)
            replace hl : lv_has ls 4 [(3, .int v13), (0, .ref (B + a0)), (1, .int vp1), (2, .int v4)] := hl
            refine lv_goto (pc := 69) (tgt := 4) hx hb dX10_victimBelow_69 (by decide) ?_
            exact ih _ _ _ _ _ _ P (lv_sub hl [1, 2, 3, 0] rfl) (hI1 _ (Option.some.inj hF).symm)
          · rw [if_neg hc] at hF
            refine lv_aload_n (pc := 31) hx hb dX10_victimBelow_31 rfl (lv_at hl 0 rfl) ?_
            refine lv_iload_n (pc := 32) hx hb dX10_victimBelow_32 rfl (lv_at hl 3 rfl) ?_
            refine lv_iconst (pc := 33) (v := 1) hx hb dX10_victimBelow_33 (by decide) ?_
            refine lv_iconst (pc := 34) (v := 0) hx hb dX10_victimBelow_34 (by decide) ?_
            refine r_cVi (pc := 35) (As := [.int v5, .int 1, .int 0]) (rest := []) CX P hl.1 hF kv_X10_114 (fun r h1 q => c_X10_ofProcess l G B _ _ _ _ _ _ _ q) rfl rfl ⟨Nat.le_of_ble_eq_true rfl, Nat.le_of_ble_eq_true rfl⟩ (Nat.le_of_ble_eq_true rfl) ⟨Nat.le_of_ble_eq_true rfl, Nat.le_of_ble_eq_true rfl⟩ dX10_victimBelow_35 (fun v14 h15 H locs P hF => ?_)
            replace hF := un_i hF
            refine lv_bipush (pc := 38) (v := (-10)) hx hb dX10_victimBelow_38 (by decide) ?_
            refine lv_icmp_ne (pc := 40) (tgt := 46) hx hb dX10_victimBelow_40 (by decide) (fun hc => ?_) (fun hc => ?_)
            · rw [if_neg hc] at hF
              refine lv_iload_n (pc := 46) hx hb dX10_victimBelow_46 rfl (lv_at hl 2 rfl) ?_
              refine lv_iconst (pc := 47) (v := (-1)) hx hb dX10_victimBelow_47 (by decide) ?_
              obtain ⟨k16, ek16, hF⟩ := bl_o hF
              have hJ16 : ∀ (v22 : Int32) (h23 : Hp) (H : Heap) (locs : List Loc) (ls : Array Slot), Pic G B h23 s H locs → lv_has ls 4 [(0, .ref (B + a0)), (1, .int vp1), (3, .int v22)] → k16 v22 h23 = some z1 → W p l e (rmM 3 67 0 0) s m args below meth c H locs 0 0 Q (F0 m 64 ls []) := by
                intro v22 h23 H locs ls P hl hF
                rw [← ek16] at hF
                try dsimp only at hF
                refine lv_iload_n (pc := 64) hx hb dX10_victimBelow_64 rfl (lv_at hl 2 rfl) ?_
                refine lv_istore_n (pc := 65) hx hb dX10_victimBelow_65 rfl hl (by decide) rfl (fun ls hl => ?_)
                replace hl : lv_has ls 4 [(2, .int v22), (0, .ref (B + a0)), (1, .int vp1), (3, .int v22)] := hl
                obtain ⟨v24, ev24, hF⟩ := bl_o hF
                refine lv_iinc (pc := 66) (k := 3) (v := v24) hx hb dX10_victimBelow_66 hl rfl ev24 (by decide) rfl (fun ls hl => ?_)
                replace hl : lv_has ls 4 [(3, .int v24), (2, .int v22), (0, .ref (B + a0)), (1, .int vp1)] := hl
                refine lv_goto (pc := 69) (tgt := 4) hx hb dX10_victimBelow_69 (by decide) ?_
                exact ih _ _ _ _ _ _ P (lv_sub hl [2, 3, 1, 0] rfl) (hI1 _ (Option.some.inj hF).symm)
              refine lv_icmp_eq (pc := 48) (tgt := 64) hx hb dX10_victimBelow_48 (by decide) (fun hc => ?_) (fun hc => ?_)
              · rw [if_pos hc] at hF
                exact hJ16 _ _ _ _ _ P (lv_sub hl [0, 1, 3] rfl) hF
              · rw [if_neg hc] at hF
                refine lv_aload_n (pc := 51) hx hb dX10_victimBelow_51 rfl (lv_at hl 0 rfl) ?_
                refine lv_iload_n (pc := 52) hx hb dX10_victimBelow_52 rfl (lv_at hl 3 rfl) ?_
                refine r_cVi (pc := 53) (As := [.int v5]) (rest := []) CX P hl.1 hF kv_X10_165 (fun r h1 q => c_X10_badnessOf l G B _ _ _ _ _ q) rfl rfl ⟨Nat.le_of_ble_eq_true rfl, Nat.le_of_ble_eq_true rfl⟩ (Nat.le_of_ble_eq_true rfl) ⟨Nat.le_of_ble_eq_true rfl, Nat.le_of_ble_eq_true rfl⟩ dX10_victimBelow_53 (fun v17 h18 H locs P hF => ?_)
                replace hF := un_i hF
                refine lv_aload_n (pc := 56) hx hb dX10_victimBelow_56 rfl (lv_at hl 0 rfl) ?_
                refine lv_iload_n (pc := 57) hx hb dX10_victimBelow_57 rfl (lv_at hl 2 rfl) ?_
                refine r_cVi (pc := 58) (As := [.int v4]) (rest := [.int v17]) CX P hl.1 hF kv_X10_165 (fun r h1 q => c_X10_badnessOf l G B _ _ _ _ _ q) rfl rfl ⟨Nat.le_of_ble_eq_true rfl, Nat.le_of_ble_eq_true rfl⟩ (Nat.le_of_ble_eq_true rfl) ⟨Nat.le_of_ble_eq_true rfl, Nat.le_of_ble_eq_true rfl⟩ dX10_victimBelow_58 (fun v19 h20 H locs P hF => ?_)
                replace hF := un_i hF
                refine lv_icmp_le (pc := 61) (tgt := 66) hx hb dX10_victimBelow_61 (by decide) (fun hc => ?_) (fun hc => ?_)
                · rw [if_pos hc] at hF
                  obtain ⟨v21, ev21, hF⟩ := bl_o hF
                  refine lv_iinc (pc := 66) (k := 3) (v := v21) hx hb dX10_victimBelow_66 hl rfl ev21 (by decide) rfl (fun ls hl => ?_)
                  replace hl : lv_has ls 4 [(3, .int v21), (0, .ref (B + a0)), (1, .int vp1), (2, .int v4)] := hl
                  refine lv_goto (pc := 69) (tgt := 4) hx hb dX10_victimBelow_69 (by decide) ?_
                  exact ih _ _ _ _ _ _ P (lv_sub hl [1, 2, 3, 0] rfl) (hI1 _ (Option.some.inj hF).symm)
                · rw [if_neg hc] at hF
                  exact hJ16 _ _ _ _ _ P (lv_sub hl [0, 1, 3] rfl) hF
            · rw [if_pos hc] at hF
              refine lv_goto (pc := 43) (tgt := 66) hx hb dX10_victimBelow_43 (by decide) ?_
              obtain ⟨v25, ev25, hF⟩ := bl_o hF
              refine lv_iinc (pc := 66) (k := 3) (v := v25) hx hb dX10_victimBelow_66 hl rfl ev25 (by decide) rfl (fun ls hl => ?_)
              replace hl : lv_has ls 4 [(3, .int v25), (0, .ref (B + a0)), (1, .int vp1), (2, .int v4)] := hl
              refine lv_goto (pc := 69) (tgt := 4) hx hb dX10_victimBelow_69 (by decide) ?_
              exact ih _ _ _ _ _ _ P (lv_sub hl [1, 2, 3, 0] rfl) (hI1 _ (Option.some.inj hF).symm)
  exact hL1 _ _ _ _ _ _ _ P (lv_sub hl [2, 3, 1, 0] rfl) hLp1
def F_X10_dyingBelow_L22 (a6 : Nat) (v7 : Int32) (v8 : Int32) (v9 : Int32) (v10 : Int32) (h11 : Hp) : Option ((Int32 × Int32 × Hp) ⊕ (Int32 × Hp)) :=
if v10 = (-1) then (
some (.inr (v9, h11))) else (
(cO h11 a6 10 (F_X10_isBelow h11 a6 v10 v7)).bind (un fun v12 h13 =>
(if v12 = 0 then (
some ((v9 : Int32), h13)) else (
(cO h13 a6 10 (F_X10_of h13 a6 v10 4 0)).bind (un fun v15 h16 =>
if v15 = 1 then (
some ((v10 : Int32), h16)) else (
some ((v9 : Int32), h16))))).bind fun q14 =>
bl q14.1 fun v17 =>
bl q14.2 fun h18 =>
(cO h18 a6 10 (F_X10_parentOf h18 a6 v10)).bind (un fun v19 h20 =>
some (.inl (v17, v19, h20)))))
def F_X10_dyingBelow_L79 (a24 : Nat) (v25 : Int32) (v26 : Int32) (v27 : Int32) (h28 : Hp) : Option ((Int32 × Int32 × Hp) ⊕ (Int32 × Hp)) :=
if 16 ≤ v27 then (
some (.inr (v26, h28))) else (
(cO h28 a24 10 (F_X10_processesBelow h28 a24 v25)).bind (un fun v29 h30 =>
(F_X10_has h30 v29 v27).bind fun v31 =>
(if v31 = 0 then (
some ((0 : Int32), h30)) else (
(cO h30 a24 10 (F_X10_ofProcess h30 a24 v27 1 0)).bind (un fun v33 h34 =>
if v33 = (-10) then (
some ((0 : Int32), h34)) else (
some ((1 <<< (v27 &&& 31) : Int32), h34))))).bind fun q32 =>
bl q32.1 fun v35 =>
bl q32.2 fun h36 =>
bl (v26 ||| v35) fun v37 =>
bl (v27 + 1) fun v38 =>
some (.inl (v37, v38, h36))))
def F_X10_dyingBelow (h : Hp) (a0 : Nat) (vp1 : Int32) : Option (Int32 × Hp) :=
(cO h a0 10 (F_X10_victimBelow h a0 vp1)).bind (un fun v1 h2 =>
if v1 = (-1) then (
some (0, h2)) else (
(cO h2 a0 10 (F_X10_groupOf h2 a0 v1)).bind (un fun v3 h4 =>
(loopF (fun x => F_X10_dyingBelow_L22 a0 vp1 v1 x.1 x.2.1 x.2.2) 6000 ((-1), v3, h4)).bind fun q5 =>
bl q5.1 fun v21 =>
bl q5.2 fun h22 =>
if v21 = (-1) then (
some ((1 <<< (v1 &&& 31)), h22)) else (
(loopF (fun x => F_X10_dyingBelow_L79 a0 v21 x.1 x.2.1 x.2.2) 6000 (0, 0, h22)).bind fun q23 =>
bl q23.1 fun v39 =>
bl q23.2 fun h40 =>
some (v39, h40)))))
set_option maxRecDepth 100000 in
set_option maxHeartbeats 4000000 in
theorem c_X10_dyingBelow (l : Launch) (G : GG) (B : Nat) (h : Hp) (a0 : Nat) (vp1 : Int32) (r0 : Int32) (hr : Hp) (hF : F_X10_dyingBelow h a0 vp1 = some (r0, hr)) : CI l yX10_dyingBelow cX10_dyingBelow 6 .int 4 90 0 0 G B h [.ref (B + a0), .int vp1] r0 hr := by
  refine ent_i rfl (Nat.le_of_ble_eq_true rfl) ?_
  intro p e s m args below meth c ls Q CX hnm hret P hl
  have CX : Cxt p m c cX10_dyingBelow 6 s args RX10 G B := CX
  obtain ⟨⟨hx, hb, hml, hown, hts⟩, -, -⟩ := id CX
  replace hl : lv_has ls 6 [(0, .ref (B + a0)), (1, .int vp1)] := hl
  generalize s.heap = H at P ⊢
  generalize ([] : List Loc) = locs at P ⊢
  unfold F_X10_dyingBelow at hF
  refine lv_aload_n (pc := 0) hx hb dX10_dyingBelow_0 rfl (lv_at hl 0 rfl) ?_
  refine lv_iload_n (pc := 1) hx hb dX10_dyingBelow_1 rfl (lv_at hl 1 rfl) ?_
  refine r_cVi (pc := 2) (As := [.int vp1]) (rest := []) CX P hl.1 hF kv_X10_168 (fun r h1 q => c_X10_victimBelow l G B _ _ _ _ _ q) rfl rfl ⟨Nat.le_of_ble_eq_true rfl, Nat.le_of_ble_eq_true rfl⟩ (Nat.le_of_ble_eq_true rfl) ⟨Nat.le_of_ble_eq_true rfl, Nat.le_of_ble_eq_true rfl⟩ dX10_dyingBelow_2 (fun v1 h2 H locs P hF => ?_)
  replace hF := un_i hF
  refine lv_istore_n (pc := 5) hx hb dX10_dyingBelow_5 rfl hl (by decide) rfl (fun ls hl => ?_)
  replace hl : lv_has ls 6 [(2, .int v1), (0, .ref (B + a0)), (1, .int vp1)] := hl
  refine lv_iload_n (pc := 6) hx hb dX10_dyingBelow_6 rfl (lv_at hl 0 rfl) ?_
  refine lv_iconst (pc := 7) (v := (-1)) hx hb dX10_dyingBelow_7 (by decide) ?_
  refine lv_icmp_ne (pc := 8) (tgt := 13) hx hb dX10_dyingBelow_8 (by decide) (fun hc => ?_) (fun hc => ?_)
  · rw [if_neg hc] at hF
    refine lv_iconst (pc := 13) (v := (-1)) hx hb dX10_dyingBelow_13 (by decide) ?_
    refine lv_istore_n (pc := 14) hx hb dX10_dyingBelow_14 rfl hl (by decide) rfl (fun ls hl => ?_)
    replace hl : lv_has ls 6 [(3, .int (-1)), (2, .int v1), (0, .ref (B + a0)), (1, .int vp1)] := hl
    refine lv_aload_n (pc := 15) hx hb dX10_dyingBelow_15 rfl (lv_at hl 2 rfl) ?_
    refine lv_iload_n (pc := 16) hx hb dX10_dyingBelow_16 rfl (lv_at hl 1 rfl) ?_
    refine r_cVi (pc := 17) (As := [.int v1]) (rest := []) CX P hl.1 hF kv_X10_120 (fun r h1 q => c_X10_groupOf l G B _ _ _ _ _ q) rfl rfl ⟨Nat.le_of_ble_eq_true rfl, Nat.le_of_ble_eq_true rfl⟩ (Nat.le_of_ble_eq_true rfl) ⟨Nat.le_of_ble_eq_true rfl, Nat.le_of_ble_eq_true rfl⟩ dX10_dyingBelow_17 (fun v3 h4 H locs P hF => ?_)
    replace hF := un_i hF
    refine lv_istore (pc := 20) hx hb dX10_dyingBelow_20 hl (by decide) rfl (fun ls hl => ?_)
    replace hl : lv_has ls 6 [(4, .int v3), (3, .int (-1)), (2, .int v1), (0, .ref (B + a0)), (1, .int vp1)] := hl
    obtain ⟨r5, hLp5, hK5⟩ := bd_some hF
    have hX5 : ∀ (v21 : Int32) (h22 : Hp) (H : Heap) (locs : List Loc) (ls : Array Slot), Pic G B h22 s H locs → lv_has ls 6 [(0, .ref (B + a0)), (2, .int v1), (3, .int v21)] → (v21, h22) = r5 → W p l e (rmM 4 90 0 0) s m args below meth c H locs 0 0 Q (F0 m 64 ls []) := by
      intro v21 h22 H locs ls P hl er
      subst er
      have hF := hK5
      replace hF := bl_i hF
      replace hF := bl_i hF
      try dsimp only at hF
      refine lv_iload_n (pc := 64) hx hb dX10_dyingBelow_64 rfl (lv_at hl 2 rfl) ?_
      refine lv_iconst (pc := 65) (v := (-1)) hx hb dX10_dyingBelow_65 (by decide) ?_
      refine lv_icmp_ne (pc := 66) (tgt := 73) hx hb dX10_dyingBelow_66 (by decide) (fun hc => ?_) (fun hc => ?_)
      · rw [if_neg hc] at hF
        refine lv_iconst (pc := 73) (v := 0) hx hb dX10_dyingBelow_73 (by decide) ?_
        refine lv_istore (pc := 74) hx hb dX10_dyingBelow_74 hl (by decide) rfl (fun ls hl => ?_)
        replace hl : lv_has ls 6 [(4, .int 0), (0, .ref (B + a0)), (2, .int v1), (3, .int v21)] := hl
        refine lv_iconst (pc := 76) (v := 0) hx hb dX10_dyingBelow_76 (by decide) ?_
        refine lv_istore (pc := 77) hx hb dX10_dyingBelow_77 hl (by decide) rfl (fun ls hl => ?_)
        replace hl : lv_has ls 6 [(5, .int 0), (4, .int 0), (0, .ref (B + a0)), (2, .int v1), (3, .int v21)] := hl
        obtain ⟨r23, hLp23, hK23⟩ := bd_some hF
        have hX23 : ∀ (v39 : Int32) (h40 : Hp) (H : Heap) (locs : List Loc) (ls : Array Slot), Pic G B h40 s H locs → lv_has ls 6 [(4, .int v39)] → (v39, h40) = r23 → W p l e (rmM 4 90 0 0) s m args below meth c H locs 0 0 Q (F0 m 131 ls []) := by
          intro v39 h40 H locs ls P hl er
          subst er
          have hF := hK23
          replace hF := bl_i hF
          replace hF := bl_i hF
          try dsimp only at hF
          refine lv_iload (pc := 131) hx hb dX10_dyingBelow_131 (lv_at hl 0 rfl) ?_
          cases hF
          exact hret _ _ _ _ P rfl dX10_dyingBelow_133
        have hL23 : ∀ (n : Nat) (v26 : Int32) (v27 : Int32) (h28 : Hp) (H : Heap) (locs : List Loc) (ls : Array Slot), Pic G B h28 s H locs → lv_has ls 6 [(0, .ref (B + a0)), (3, .int v21), (4, .int v26), (5, .int v27)] → loopF (fun x => F_X10_dyingBelow_L79 a0 v21 x.1 x.2.1 x.2.2) n (v26, v27, h28) = some r23 → W p l e (rmM 4 90 0 0) s m args below meth c H locs 0 0 Q (F0 m 79 ls []) := by
          intro n
          induction n with
          | zero => intro v26 v27 h28 H locs ls P hl hq; cases hq
          | succ n ih =>
            intro v26 v27 h28 H locs ls P hl hq
            obtain ⟨z23, hS23, hI23, hR23⟩ := loop_some hq
            have hF : F_X10_dyingBelow_L79 a0 v21 v26 v27 h28 = some z23 := hS23
            unfold F_X10_dyingBelow_L79 at hF
            refine lv_iload (pc := 79) hx hb dX10_dyingBelow_79 (lv_at hl 3 rfl) ?_
            refine lv_bipush (pc := 81) (v := 16) hx hb dX10_dyingBelow_81 (by decide) ?_
            refine lv_icmp_ge (pc := 83) (tgt := 131) hx hb dX10_dyingBelow_83 (by decide) (fun hc => ?_) (fun hc => ?_)
            · rw [if_pos hc] at hF
              exact hX23 _ _ _ _ _ P (lv_sub hl [2] rfl) (hR23 _ (Option.some.inj hF).symm)
            · rw [if_neg hc] at hF
              refine lv_iload (pc := 86) hx hb dX10_dyingBelow_86 (lv_at hl 2 rfl) ?_
              refine lv_aload_n (pc := 88) hx hb dX10_dyingBelow_88 rfl (lv_at hl 0 rfl) ?_
              refine lv_iload_n (pc := 89) hx hb dX10_dyingBelow_89 rfl (lv_at hl 1 rfl) ?_
              refine r_cVi (pc := 90) (As := [.int v21]) (rest := [.int v26]) CX P hl.1 hF kv_X10_171 (fun r h1 q => c_X10_processesBelow l G B _ _ _ _ _ q) rfl rfl ⟨Nat.le_of_ble_eq_true rfl, Nat.le_of_ble_eq_true rfl⟩ (Nat.le_of_ble_eq_true rfl) ⟨Nat.le_of_ble_eq_true rfl, Nat.le_of_ble_eq_true rfl⟩ dX10_dyingBelow_90 (fun v29 h30 H locs P hF => ?_)
              replace hF := un_i hF
              refine lv_iload (pc := 93) hx hb dX10_dyingBelow_93 (lv_at hl 3 rfl) ?_
              refine r_cSp (pc := 95) (As := [.int v29, .int v27]) (rest := [.int v26]) CX P hl.1 hF ks_X10_89 (fun r q => c_X10_has l G B _ _ _ _ q) rfl rfl ⟨Nat.le_of_ble_eq_true rfl, Nat.le_of_ble_eq_true rfl⟩ (Nat.le_of_ble_eq_true rfl) ⟨Nat.le_of_ble_eq_true rfl, Nat.le_of_ble_eq_true rfl⟩ dX10_dyingBelow_95 (fun v31 H locs P hF => ?_)
              obtain ⟨j32, hA32, hK32⟩ := bd_some hF
              have hJ32 : ∀ (v35 : Int32) (h36 : Hp) (H : Heap) (locs : List Loc) (ls : Array Slot), Pic G B h36 s H locs → lv_has ls 6 [(0, .ref (B + a0)), (3, .int v21), (5, .int v27)] → (v35, h36) = j32 → W p l e (rmM 4 90 0 0) s m args below meth c H locs 0 0 Q (F0 m 122 ls [.int v35, .int v26]) := by
                intro v35 h36 H locs ls P hl ej
                subst ej
                have hF := hK32
                replace hF := bl_i hF
                replace hF := bl_i hF
                try dsimp only at hF
                refine lv_ior (pc := 122) hx hb dX10_dyingBelow_122 ?_
                refine lv_topi (fun v37 ev37 => ?_)
                replace hF := bl_e hF ev37
                refine lv_istore (pc := 123) hx hb dX10_dyingBelow_123 hl (by decide) rfl (fun ls hl => ?_)
                replace hl : lv_has ls 6 [(4, .int v37), (0, .ref (B + a0)), (3, .int v21), (5, .int v27)] := hl
                obtain ⟨v38, ev38, hF⟩ := bl_o hF
                refine lv_iinc (pc := 125) (k := 3) (v := v38) hx hb dX10_dyingBelow_125 hl rfl ev38 (by decide) rfl (fun ls hl => ?_)
                replace hl : lv_has ls 6 [(5, .int v38), (4, .int v37), (0, .ref (B + a0)), (3, .int v21)] := hl
                refine lv_goto (pc := 128) (tgt := 79) hx hb dX10_dyingBelow_128 (by decide) ?_
                exact ih _ _ _ _ _ _ P (lv_sub hl [2, 3, 1, 0] rfl) (hI23 _ (Option.some.inj hF).symm)
              replace hF := hA32
              refine lv_if_eq (pc := 98) (tgt := 121) hx hb dX10_dyingBelow_98 (by decide) (fun hc => ?_) (fun hc => ?_)
              · rw [if_pos hc] at hF
                refine lv_iconst (pc := 121) (v := 0) hx hb dX10_dyingBelow_121 (by decide) ?_
                exact hJ32 _ _ _ _ _ P (lv_sub hl [0, 1, 3] rfl) (Option.some.inj hF)
              · rw [if_neg hc] at hF
                refine lv_aload_n (pc := 101) hx hb dX10_dyingBelow_101 rfl (lv_at hl 0 rfl) ?_
                refine lv_iload (pc := 102) hx hb dX10_dyingBelow_102 (lv_at hl 3 rfl) ?_
                refine lv_iconst (pc := 104) (v := 1) hx hb dX10_dyingBelow_104 (by decide) ?_
                refine lv_iconst (pc := 105) (v := 0) hx hb dX10_dyingBelow_105 (by decide) ?_
                refine r_cVi (pc := 106) (As := [.int v27, .int 1, .int 0]) (rest := [.int v26]) CX P hl.1 hF kv_X10_114 (fun r h1 q => c_X10_ofProcess l G B _ _ _ _ _ _ _ q) rfl rfl ⟨Nat.le_of_ble_eq_true rfl, Nat.le_of_ble_eq_true rfl⟩ (Nat.le_of_ble_eq_true rfl) ⟨Nat.le_of_ble_eq_true rfl, Nat.le_of_ble_eq_true rfl⟩ dX10_dyingBelow_106 (fun v33 h34 H locs P hF => ?_)
                replace hF := un_i hF
                refine lv_bipush (pc := 109) (v := (-10)) hx hb dX10_dyingBelow_109 (by decide) ?_
                refine lv_icmp_eq (pc := 111) (tgt := 121) hx hb dX10_dyingBelow_111 (by decide) (fun hc => ?_) (fun hc => ?_)
                · rw [if_pos hc] at hF
                  refine lv_iconst (pc := 121) (v := 0) hx hb dX10_dyingBelow_121 (by decide) ?_
                  exact hJ32 _ _ _ _ _ P (lv_sub hl [0, 1, 3] rfl) (Option.some.inj hF)
                · rw [if_neg hc] at hF
                  refine lv_iconst (pc := 114) (v := 1) hx hb dX10_dyingBelow_114 (by decide) ?_
                  refine lv_iload (pc := 115) hx hb dX10_dyingBelow_115 (lv_at hl 3 rfl) ?_
                  refine lv_ishl (pc := 117) hx hb dX10_dyingBelow_117 ?_
                  refine lv_goto (pc := 118) (tgt := 122) hx hb dX10_dyingBelow_118 (by decide) ?_
                  exact hJ32 _ _ _ _ _ P (lv_sub hl [0, 1, 3] rfl) (Option.some.inj hF)
        exact hL23 _ _ _ _ _ _ _ P (lv_sub hl [2, 4, 1, 0] rfl) hLp23
      · rw [if_pos hc] at hF
        refine lv_iconst (pc := 69) (v := 1) hx hb dX10_dyingBelow_69 (by decide) ?_
        refine lv_iload_n (pc := 70) hx hb dX10_dyingBelow_70 rfl (lv_at hl 1 rfl) ?_
        refine lv_ishl (pc := 71) hx hb dX10_dyingBelow_71 ?_
        cases hF
        exact hret _ _ _ _ P rfl dX10_dyingBelow_72
    have hL5 : ∀ (n : Nat) (v9 : Int32) (v10 : Int32) (h11 : Hp) (H : Heap) (locs : List Loc) (ls : Array Slot), Pic G B h11 s H locs → lv_has ls 6 [(0, .ref (B + a0)), (1, .int vp1), (2, .int v1), (3, .int v9), (4, .int v10)] → loopF (fun x => F_X10_dyingBelow_L22 a0 vp1 v1 x.1 x.2.1 x.2.2) n (v9, v10, h11) = some r5 → W p l e (rmM 4 90 0 0) s m args below meth c H locs 0 0 Q (F0 m 22 ls []) := by
      intro n
      induction n with
      | zero => intro v9 v10 h11 H locs ls P hl hq; cases hq
      | succ n ih =>
        intro v9 v10 h11 H locs ls P hl hq
        obtain ⟨z5, hS5, hI5, hR5⟩ := loop_some hq
        have hF : F_X10_dyingBelow_L22 a0 vp1 v1 v9 v10 h11 = some z5 := hS5
        unfold F_X10_dyingBelow_L22 at hF
        refine lv_iload (pc := 22) hx hb dX10_dyingBelow_22 (lv_at hl 4 rfl) ?_
        refine lv_iconst (pc := 24) (v := (-1)) hx hb dX10_dyingBelow_24 (by decide) ?_
        refine lv_icmp_eq (pc := 25) (tgt := 64) hx hb dX10_dyingBelow_25 (by decide) (fun hc => ?_) (fun hc => ?_)
        · rw [if_pos hc] at hF
          exact hX5 _ _ _ _ _ P (lv_sub hl [0, 2, 3] rfl) (hR5 _ (Option.some.inj hF).symm)
        · rw [if_neg hc] at hF
          refine lv_aload_n (pc := 28) hx hb dX10_dyingBelow_28 rfl (lv_at hl 0 rfl) ?_
          refine lv_iload (pc := 29) hx hb dX10_dyingBelow_29 (lv_at hl 4 rfl) ?_
          refine lv_iload_n (pc := 31) hx hb dX10_dyingBelow_31 rfl (lv_at hl 1 rfl) ?_
          refine r_cVi (pc := 32) (As := [.int v10, .int vp1]) (rest := []) CX P hl.1 hF kv_X10_111 (fun r h1 q => c_X10_isBelow l G B _ _ _ _ _ _ q) rfl rfl ⟨Nat.le_of_ble_eq_true rfl, Nat.le_of_ble_eq_true rfl⟩ (Nat.le_of_ble_eq_true rfl) ⟨Nat.le_of_ble_eq_true rfl, Nat.le_of_ble_eq_true rfl⟩ dX10_dyingBelow_32 (fun v12 h13 H locs P hF => ?_)
          replace hF := un_i hF
          obtain ⟨j14, hA14, hK14⟩ := bd_some hF
          have hJ14 : ∀ (v17 : Int32) (h18 : Hp) (H : Heap) (locs : List Loc) (ls : Array Slot), Pic G B h18 s H locs → lv_has ls 6 [(0, .ref (B + a0)), (1, .int vp1), (2, .int v1), (3, .int v17), (4, .int v10)] → (v17, h18) = j14 → W p l e (rmM 4 90 0 0) s m args below meth c H locs 0 0 Q (F0 m 53 ls []) := by
            intro v17 h18 H locs ls P hl ej
            subst ej
            have hF := hK14
            replace hF := bl_i hF
            replace hF := bl_i hF
            try dsimp only at hF
            refine lv_aload_n (pc := 53) hx hb dX10_dyingBelow_53 rfl (lv_at hl 0 rfl) ?_
            refine lv_iload (pc := 54) hx hb dX10_dyingBelow_54 (lv_at hl 4 rfl) ?_
            refine r_cVi (pc := 56) (As := [.int v10]) (rest := []) CX P hl.1 hF kv_X10_103 (fun r h1 q => c_X10_parentOf l G B _ _ _ _ _ q) rfl rfl ⟨Nat.le_of_ble_eq_true rfl, Nat.le_of_ble_eq_true rfl⟩ (Nat.le_of_ble_eq_true rfl) ⟨Nat.le_of_ble_eq_true rfl, Nat.le_of_ble_eq_true rfl⟩ dX10_dyingBelow_56 (fun v19 h20 H locs P hF => ?_)
            replace hF := un_i hF
            refine lv_istore (pc := 59) hx hb dX10_dyingBelow_59 hl (by decide) rfl (fun ls hl => ?_)
            replace hl : lv_has ls 6 [(4, .int v19), (0, .ref (B + a0)), (1, .int vp1), (2, .int v1), (3, .int v17)] := hl
            refine lv_goto (pc := 61) (tgt := 22) hx hb dX10_dyingBelow_61 (by decide) ?_
            exact ih _ _ _ _ _ _ P (lv_sub hl [1, 2, 3, 4, 0] rfl) (hI5 _ (Option.some.inj hF).symm)
          replace hF := hA14
          refine lv_if_eq (pc := 35) (tgt := 53) hx hb dX10_dyingBelow_35 (by decide) (fun hc => ?_) (fun hc => ?_)
          · rw [if_pos hc] at hF
            exact hJ14 _ _ _ _ _ P (lv_sub hl [0, 1, 2, 3, 4] rfl) (Option.some.inj hF)
          · rw [if_neg hc] at hF
            refine lv_aload_n (pc := 38) hx hb dX10_dyingBelow_38 rfl (lv_at hl 0 rfl) ?_
            refine lv_iload (pc := 39) hx hb dX10_dyingBelow_39 (lv_at hl 4 rfl) ?_
            refine lv_iconst (pc := 41) (v := 4) hx hb dX10_dyingBelow_41 (by decide) ?_
            refine lv_iconst (pc := 42) (v := 0) hx hb dX10_dyingBelow_42 (by decide) ?_
            refine r_cVi (pc := 43) (As := [.int v10, .int 4, .int 0]) (rest := []) CX P hl.1 hF kv_X10_99 (fun r h1 q => c_X10_of l G B _ _ _ _ _ _ _ q) rfl rfl ⟨Nat.le_of_ble_eq_true rfl, Nat.le_of_ble_eq_true rfl⟩ (Nat.le_of_ble_eq_true rfl) ⟨Nat.le_of_ble_eq_true rfl, Nat.le_of_ble_eq_true rfl⟩ dX10_dyingBelow_43 (fun v15 h16 H locs P hF => ?_)
            replace hF := un_i hF
            refine lv_iconst (pc := 46) (v := 1) hx hb dX10_dyingBelow_46 (by decide) ?_
            refine lv_icmp_ne (pc := 47) (tgt := 53) hx hb dX10_dyingBelow_47 (by decide) (fun hc => ?_) (fun hc => ?_)
            · rw [if_neg hc] at hF
              exact hJ14 _ _ _ _ _ P (lv_sub hl [0, 1, 2, 3, 4] rfl) (Option.some.inj hF)
            · rw [if_pos hc] at hF
              refine lv_iload (pc := 50) hx hb dX10_dyingBelow_50 (lv_at hl 4 rfl) ?_
              refine lv_istore_n (pc := 52) hx hb dX10_dyingBelow_52 rfl hl (by decide) rfl (fun ls hl => ?_)
              replace hl : lv_has ls 6 [(3, .int v10), (0, .ref (B + a0)), (1, .int vp1), (2, .int v1), (4, .int v10)] := hl
              exact hJ14 _ _ _ _ _ P (lv_sub hl [1, 2, 3, 0, 4] rfl) (Option.some.inj hF)
    exact hL5 _ _ _ _ _ _ _ P (lv_sub hl [3, 4, 2, 1, 0] rfl) hLp5
  · rw [if_pos hc] at hF
    refine lv_iconst (pc := 11) (v := 0) hx hb dX10_dyingBelow_11 (by decide) ?_
    cases hF
    exact hret _ _ _ _ P rfl dX10_dyingBelow_12
def F_X10_dies_L16 (a5 : Nat) (v6 : Int32) (v7 : Int32) (h8 : Hp) : Option ((Int32 × Hp) ⊕ (Hp)) :=
if 8 ≤ v7 then (
some (.inr h8)) else (
(cO h8 a5 10 (F_X10_laysProcess h8 a5 v6 v7 0)).bind fun h9 =>
bl (v7 + 1) fun v10 =>
some (.inl (v10, h9)))
def F_X10_dies (h : Hp) (a0 : Nat) (vp1 : Int32) : Option (Hp) :=
(gR h a0 10 1).bind fun a1 =>
(aI h a1 1).bind fun v2 =>
(sI h a1 1 (v2 &&& ((1 <<< (vp1 &&& 31)) ^^^ (-1)))).bind fun h3 =>
(loopF (fun x => F_X10_dies_L16 a0 vp1 x.1 x.2) 6000 (0, h3)).bind fun h11 =>
some h11
set_option maxRecDepth 100000 in
set_option maxHeartbeats 4000000 in
theorem c_X10_dies (l : Launch) (G : GG) (B : Nat) (h : Hp) (a0 : Nat) (vp1 : Int32) (hr : Hp) (hF : F_X10_dies h a0 vp1 = some hr) : CV l yX10_dies cX10_dies 3 1 23 0 0 G B h [.ref (B + a0), .int vp1] hr := by
  refine ent_v rfl (Nat.le_of_ble_eq_true rfl) ?_
  intro p e s m args below meth c ls Q CX hnm hret P hl
  have CX : Cxt p m c cX10_dies 3 s args RX10 G B := CX
  obtain ⟨⟨hx, hb, hml, hown, hts⟩, -, -⟩ := id CX
  replace hl : lv_has ls 3 [(0, .ref (B + a0)), (1, .int vp1)] := hl
  generalize s.heap = H at P ⊢
  generalize ([] : List Loc) = locs at P ⊢
  unfold F_X10_dies at hF
  refine lv_aload_n (pc := 0) hx hb dX10_dies_0 rfl (lv_at hl 0 rfl) ?_
  refine r_gR (pc := 1) CX P hF fl_X10_13 dX10_dies_1 (fun a1 hF => ?_)
  refine lv_iconst (pc := 4) (v := 1) hx hb dX10_dies_4 (by decide) ?_
  refine lv_dup2_11 (pc := 5) hx hb dX10_dies_5 rfl rfl ?_
  refine r_aI (pc := 6) CX P hF dX10_dies_6 (fun v2 hF => ?_)
  refine lv_iconst (pc := 7) (v := 1) hx hb dX10_dies_7 (by decide) ?_
  refine lv_iload_n (pc := 8) hx hb dX10_dies_8 rfl (lv_at hl 1 rfl) ?_
  refine lv_ishl (pc := 9) hx hb dX10_dies_9 ?_
  refine lv_iconst (pc := 10) (v := (-1)) hx hb dX10_dies_10 (by decide) ?_
  refine lv_ixor (pc := 11) hx hb dX10_dies_11 ?_
  refine lv_iand (pc := 12) hx hb dX10_dies_12 ?_
  refine r_sI (pc := 13) CX P hF dX10_dies_13 (fun h3 H locs P hF => ?_)
  refine lv_iconst (pc := 14) (v := 0) hx hb dX10_dies_14 (by decide) ?_
  refine lv_istore_n (pc := 15) hx hb dX10_dies_15 rfl hl (by decide) rfl (fun ls hl => ?_)
  replace hl : lv_has ls 3 [(2, .int 0), (0, .ref (B + a0)), (1, .int vp1)] := hl
  obtain ⟨r4, hLp4, hK4⟩ := bd_some hF
  have hX4 : ∀ (h11 : Hp) (H : Heap) (locs : List Loc) (ls : Array Slot), Pic G B h11 s H locs → lv_has ls 3 [] → h11 = r4 → W p l e (rmM 1 23 0 0) s m args below meth c H locs 0 0 Q (F0 m 35 ls []) := by
    intro h11 H locs ls P hl er
    subst er
    have hF := hK4
    cases hF
    exact hret _ _ _ _ P dX10_dies_35
  have hL4 : ∀ (n : Nat) (v7 : Int32) (h8 : Hp) (H : Heap) (locs : List Loc) (ls : Array Slot), Pic G B h8 s H locs → lv_has ls 3 [(0, .ref (B + a0)), (1, .int vp1), (2, .int v7)] → loopF (fun x => F_X10_dies_L16 a0 vp1 x.1 x.2) n (v7, h8) = some r4 → W p l e (rmM 1 23 0 0) s m args below meth c H locs 0 0 Q (F0 m 16 ls []) := by
    intro n
    induction n with
    | zero => intro v7 h8 H locs ls P hl hq; cases hq
    | succ n ih =>
      intro v7 h8 H locs ls P hl hq
      obtain ⟨z4, hS4, hI4, hR4⟩ := loop_some hq
      have hF : F_X10_dies_L16 a0 vp1 v7 h8 = some z4 := hS4
      unfold F_X10_dies_L16 at hF
      refine lv_iload_n (pc := 16) hx hb dX10_dies_16 rfl (lv_at hl 2 rfl) ?_
      refine lv_bipush (pc := 17) (v := 8) hx hb dX10_dies_17 (by decide) ?_
      refine lv_icmp_ge (pc := 19) (tgt := 35) hx hb dX10_dies_19 (by decide) (fun hc => ?_) (fun hc => ?_)
      · rw [if_pos hc] at hF
        exact hX4 _ _ _ _ P (lv_sub hl [] rfl) (hR4 _ (Option.some.inj hF).symm)
      · rw [if_neg hc] at hF
        refine lv_aload_n (pc := 22) hx hb dX10_dies_22 rfl (lv_at hl 0 rfl) ?_
        refine lv_iload_n (pc := 23) hx hb dX10_dies_23 rfl (lv_at hl 1 rfl) ?_
        refine lv_iload_n (pc := 24) hx hb dX10_dies_24 rfl (lv_at hl 2 rfl) ?_
        refine lv_iconst (pc := 25) (v := 0) hx hb dX10_dies_25 (by decide) ?_
        refine r_cVv (pc := 26) (As := [.int vp1, .int v7, .int 0]) (rest := []) CX P hl.1 hF kv_X10_174 (fun h1 q => c_X10_laysProcess l G B _ _ _ _ _ _ q) rfl rfl ⟨Nat.le_of_ble_eq_true rfl, Nat.le_of_ble_eq_true rfl⟩ (Nat.le_of_ble_eq_true rfl) ⟨Nat.le_of_ble_eq_true rfl, Nat.le_of_ble_eq_true rfl⟩ dX10_dies_26 (fun h9 H locs P hF => ?_)
        obtain ⟨v10, ev10, hF⟩ := bl_o hF
        refine lv_iinc (pc := 29) (k := 2) (v := v10) hx hb dX10_dies_29 hl rfl ev10 (by decide) rfl (fun ls hl => ?_)
        replace hl : lv_has ls 3 [(2, .int v10), (0, .ref (B + a0)), (1, .int vp1)] := hl
        refine lv_goto (pc := 32) (tgt := 16) hx hb dX10_dies_32 (by decide) ?_
        exact ih _ _ _ _ _ P (lv_sub hl [1, 2, 0] rfl) (hI4 _ (Option.some.inj hF).symm)
  exact hL4 _ _ _ _ _ _ P (lv_sub hl [1, 2, 0] rfl) hLp4
def F_X10_deathBelow_L8 (a4 : Nat) (v5 : Int32) (v6 : Int32) (v7 : Int32) (h8 : Hp) : Option ((Int32 × Hp) ⊕ (Hp)) :=
if 16 ≤ v7 then (
some (.inr h8)) else (
(F_X10_has h8 v6 v7).bind fun v9 =>
if v9 = 0 then (
bl (v7 + 1) fun v14 =>
some (.inl (v14, h8))) else (
(cO h8 a4 10 (F_X10_dies h8 a4 v7)).bind fun h10 =>
(cO h10 a4 10 (F_X10_of h10 a4 v5 14 1)).bind (un fun v11 h12 =>
bl (v7 + 1) fun v13 =>
some (.inl (v13, h12)))))
def F_X10_deathBelow (h : Hp) (a0 : Nat) (vp1 : Int32) : Option (Int32 × Hp) :=
(cO h a0 10 (F_X10_dyingBelow h a0 vp1)).bind (un fun v1 h2 =>
(loopF (fun x => F_X10_deathBelow_L8 a0 vp1 v1 x.1 x.2) 6000 (0, h2)).bind fun h15 =>
some (v1, h15))
set_option maxRecDepth 100000 in
set_option maxHeartbeats 4000000 in
theorem c_X10_deathBelow (l : Launch) (G : GG) (B : Nat) (h : Hp) (a0 : Nat) (vp1 : Int32) (r0 : Int32) (hr : Hp) (hF : F_X10_deathBelow h a0 vp1 = some (r0, hr)) : CI l yX10_deathBelow cX10_deathBelow 4 .int 5 115 0 0 G B h [.ref (B + a0), .int vp1] r0 hr := by
  refine ent_i rfl (Nat.le_of_ble_eq_true rfl) ?_
  intro p e s m args below meth c ls Q CX hnm hret P hl
  have CX : Cxt p m c cX10_deathBelow 4 s args RX10 G B := CX
  obtain ⟨⟨hx, hb, hml, hown, hts⟩, -, -⟩ := id CX
  replace hl : lv_has ls 4 [(0, .ref (B + a0)), (1, .int vp1)] := hl
  generalize s.heap = H at P ⊢
  generalize ([] : List Loc) = locs at P ⊢
  unfold F_X10_deathBelow at hF
  refine lv_aload_n (pc := 0) hx hb dX10_deathBelow_0 rfl (lv_at hl 0 rfl) ?_
  refine lv_iload_n (pc := 1) hx hb dX10_deathBelow_1 rfl (lv_at hl 1 rfl) ?_
  refine r_cVi (pc := 2) (As := [.int vp1]) (rest := []) CX P hl.1 hF kv_X10_177 (fun r h1 q => c_X10_dyingBelow l G B _ _ _ _ _ q) rfl rfl ⟨Nat.le_of_ble_eq_true rfl, Nat.le_of_ble_eq_true rfl⟩ (Nat.le_of_ble_eq_true rfl) ⟨Nat.le_of_ble_eq_true rfl, Nat.le_of_ble_eq_true rfl⟩ dX10_deathBelow_2 (fun v1 h2 H locs P hF => ?_)
  replace hF := un_i hF
  refine lv_istore_n (pc := 5) hx hb dX10_deathBelow_5 rfl hl (by decide) rfl (fun ls hl => ?_)
  replace hl : lv_has ls 4 [(2, .int v1), (0, .ref (B + a0)), (1, .int vp1)] := hl
  refine lv_iconst (pc := 6) (v := 0) hx hb dX10_deathBelow_6 (by decide) ?_
  refine lv_istore_n (pc := 7) hx hb dX10_deathBelow_7 rfl hl (by decide) rfl (fun ls hl => ?_)
  replace hl : lv_has ls 4 [(3, .int 0), (2, .int v1), (0, .ref (B + a0)), (1, .int vp1)] := hl
  obtain ⟨r3, hLp3, hK3⟩ := bd_some hF
  have hX3 : ∀ (h15 : Hp) (H : Heap) (locs : List Loc) (ls : Array Slot), Pic G B h15 s H locs → lv_has ls 4 [(2, .int v1)] → h15 = r3 → W p l e (rmM 5 115 0 0) s m args below meth c H locs 0 0 Q (F0 m 45 ls []) := by
    intro h15 H locs ls P hl er
    subst er
    have hF := hK3
    refine lv_iload_n (pc := 45) hx hb dX10_deathBelow_45 rfl (lv_at hl 0 rfl) ?_
    cases hF
    exact hret _ _ _ _ P rfl dX10_deathBelow_46
  have hL3 : ∀ (n : Nat) (v7 : Int32) (h8 : Hp) (H : Heap) (locs : List Loc) (ls : Array Slot), Pic G B h8 s H locs → lv_has ls 4 [(0, .ref (B + a0)), (1, .int vp1), (2, .int v1), (3, .int v7)] → loopF (fun x => F_X10_deathBelow_L8 a0 vp1 v1 x.1 x.2) n (v7, h8) = some r3 → W p l e (rmM 5 115 0 0) s m args below meth c H locs 0 0 Q (F0 m 8 ls []) := by
    intro n
    induction n with
    | zero => intro v7 h8 H locs ls P hl hq; cases hq
    | succ n ih =>
      intro v7 h8 H locs ls P hl hq
      obtain ⟨z3, hS3, hI3, hR3⟩ := loop_some hq
      have hF : F_X10_deathBelow_L8 a0 vp1 v1 v7 h8 = some z3 := hS3
      unfold F_X10_deathBelow_L8 at hF
      refine lv_iload_n (pc := 8) hx hb dX10_deathBelow_8 rfl (lv_at hl 3 rfl) ?_
      refine lv_bipush (pc := 9) (v := 16) hx hb dX10_deathBelow_9 (by decide) ?_
      refine lv_icmp_ge (pc := 11) (tgt := 45) hx hb dX10_deathBelow_11 (by decide) (fun hc => ?_) (fun hc => ?_)
      · rw [if_pos hc] at hF
        exact hX3 _ _ _ _ P (lv_sub hl [2] rfl) (hR3 _ (Option.some.inj hF).symm)
      · rw [if_neg hc] at hF
        refine lv_iload_n (pc := 14) hx hb dX10_deathBelow_14 rfl (lv_at hl 2 rfl) ?_
        refine lv_iload_n (pc := 15) hx hb dX10_deathBelow_15 rfl (lv_at hl 3 rfl) ?_
        refine r_cSp (pc := 16) (As := [.int v1, .int v7]) (rest := []) CX P hl.1 hF ks_X10_89 (fun r q => c_X10_has l G B _ _ _ _ q) rfl rfl ⟨Nat.le_of_ble_eq_true rfl, Nat.le_of_ble_eq_true rfl⟩ (Nat.le_of_ble_eq_true rfl) ⟨Nat.le_of_ble_eq_true rfl, Nat.le_of_ble_eq_true rfl⟩ dX10_deathBelow_16 (fun v9 H locs P hF => ?_)
        refine lv_if_ne (pc := 19) (tgt := 25) hx hb dX10_deathBelow_19 (by decide) (fun hc => ?_) (fun hc => ?_)
        · rw [if_neg hc] at hF
          refine lv_aload_n (pc := 25) hx hb dX10_deathBelow_25 rfl (lv_at hl 0 rfl) ?_
          refine lv_iload_n (pc := 26) hx hb dX10_deathBelow_26 rfl (lv_at hl 3 rfl) ?_
          refine r_cVv (pc := 27) (As := [.int v7]) (rest := []) CX P hl.1 hF kv_X10_180 (fun h1 q => c_X10_dies l G B _ _ _ _ q) rfl rfl ⟨Nat.le_of_ble_eq_true rfl, Nat.le_of_ble_eq_true rfl⟩ (Nat.le_of_ble_eq_true rfl) ⟨Nat.le_of_ble_eq_true rfl, Nat.le_of_ble_eq_true rfl⟩ dX10_deathBelow_27 (fun h10 H locs P hF => ?_)
          refine lv_aload_n (pc := 30) hx hb dX10_deathBelow_30 rfl (lv_at hl 0 rfl) ?_
          refine lv_iload_n (pc := 31) hx hb dX10_deathBelow_31 rfl (lv_at hl 1 rfl) ?_
          refine lv_bipush (pc := 32) (v := 14) hx hb dX10_deathBelow_32 (by decide) ?_
          refine lv_iconst (pc := 34) (v := 1) hx hb dX10_deathBelow_34 (by decide) ?_
          refine r_cVi (pc := 35) (As := [.int vp1, .int 14, .int 1]) (rest := []) CX P hl.1 hF kv_X10_99 (fun r h1 q => c_X10_of l G B _ _ _ _ _ _ _ q) rfl rfl ⟨Nat.le_of_ble_eq_true rfl, Nat.le_of_ble_eq_true rfl⟩ (Nat.le_of_ble_eq_true rfl) ⟨Nat.le_of_ble_eq_true rfl, Nat.le_of_ble_eq_true rfl⟩ dX10_deathBelow_35 (fun v11 h12 H locs P hF => ?_)
          replace hF := un_i hF
          refine lv_pop (pc := 38) hx hb dX10_deathBelow_38 rfl ?_
          obtain ⟨v13, ev13, hF⟩ := bl_o hF
          refine lv_iinc (pc := 39) (k := 3) (v := v13) hx hb dX10_deathBelow_39 hl rfl ev13 (by decide) rfl (fun ls hl => ?_)
          replace hl : lv_has ls 4 [(3, .int v13), (0, .ref (B + a0)), (1, .int vp1), (2, .int v1)] := hl
          refine lv_goto (pc := 42) (tgt := 8) hx hb dX10_deathBelow_42 (by decide) ?_
          exact ih _ _ _ _ _ P (lv_sub hl [1, 2, 3, 0] rfl) (hI3 _ (Option.some.inj hF).symm)
        · rw [if_pos hc] at hF
          refine lv_goto (pc := 22) (tgt := 39) hx hb dX10_deathBelow_22 (by decide) ?_
          obtain ⟨v14, ev14, hF⟩ := bl_o hF
          refine lv_iinc (pc := 39) (k := 3) (v := v14) hx hb dX10_deathBelow_39 hl rfl ev14 (by decide) rfl (fun ls hl => ?_)
          replace hl : lv_has ls 4 [(3, .int v14), (0, .ref (B + a0)), (1, .int vp1), (2, .int v1)] := hl
          refine lv_goto (pc := 42) (tgt := 8) hx hb dX10_deathBelow_42 (by decide) ?_
          exact ih _ _ _ _ _ P (lv_sub hl [1, 2, 3, 0] rfl) (hI3 _ (Option.some.inj hF).symm)
  exact hL3 _ _ _ _ _ _ P (lv_sub hl [2, 3, 1, 0] rfl) hLp3
def F_X10_areWithin_L2 (a2 : Nat) (v3 : Int32) (v4 : Int32) (h5 : Hp) : Option ((Int32 × Hp) ⊕ ((Int32 × Hp) ⊕ (Hp))) :=
if v4 = (-1) then (
some (.inr (.inr h5))) else (
(cO h5 a2 10 (F_X10_totalOf h5 a2 v4)).bind (un fun v6 h7 =>
(cO h7 a2 10 (F_X10_of h7 a2 v4 3 0)).bind (un fun v8 h9 =>
if (v6 + v3) ≤ v8 then (
(cO h9 a2 10 (F_X10_parentOf h9 a2 v4)).bind (un fun v10 h11 =>
some (.inl (v10, h11)))) else (
some (.inr (.inl (0, h9)))))))
def F_X10_areWithin (h : Hp) (a0 : Nat) (vp1 : Int32) (vp2 : Int32) : Option (Int32 × Hp) :=
(loopF (fun x => F_X10_areWithin_L2 a0 vp2 x.1 x.2) 6000 (vp1, h)).bind (sE (fun x => some x) (fun h12 =>
some (1, h12)))
set_option maxRecDepth 100000 in
set_option maxHeartbeats 4000000 in
theorem c_X10_areWithin (l : Launch) (G : GG) (B : Nat) (h : Hp) (a0 : Nat) (vp1 : Int32) (vp2 : Int32) (r0 : Int32) (hr : Hp) (hF : F_X10_areWithin h a0 vp1 vp2 = some (r0, hr)) : CI l yX10_areWithin cX10_areWithin 4 .boolean 5 110 0 0 G B h [.ref (B + a0), .int vp1, .int vp2] r0 hr := by
  refine ent_i rfl (Nat.le_of_ble_eq_true rfl) ?_
  intro p e s m args below meth c ls Q CX hnm hret P hl
  have CX : Cxt p m c cX10_areWithin 4 s args RX10 G B := CX
  obtain ⟨⟨hx, hb, hml, hown, hts⟩, -, -⟩ := id CX
  replace hl : lv_has ls 4 [(0, .ref (B + a0)), (1, .int vp1), (2, .int vp2)] := hl
  generalize s.heap = H at P ⊢
  generalize ([] : List Loc) = locs at P ⊢
  unfold F_X10_areWithin at hF
  refine lv_iload_n (pc := 0) hx hb dX10_areWithin_0 rfl (lv_at hl 1 rfl) ?_
  refine lv_istore_n (pc := 1) hx hb dX10_areWithin_1 rfl hl (by decide) rfl (fun ls hl => ?_)
  replace hl : lv_has ls 4 [(3, .int vp1), (0, .ref (B + a0)), (1, .int vp1), (2, .int vp2)] := hl
  obtain ⟨r1, hLp1, hK1⟩ := bd_some hF
  have hX1 : ∀ (h12 : Hp) (H : Heap) (locs : List Loc) (ls : Array Slot), Pic G B h12 s H locs → lv_has ls 4 [] → .inr h12 = r1 → W p l e (rmM 5 110 0 0) s m args below meth c H locs 0 0 Q (F0 m 35 ls []) := by
    intro h12 H locs ls P hl er
    subst er
    have hF := sE_ri hK1
    refine lv_iconst (pc := 35) (v := 1) hx hb dX10_areWithin_35 (by decide) ?_
    cases hF
    exact hret _ _ _ _ P rfl dX10_areWithin_36
  have hL1 : ∀ (n : Nat) (v4 : Int32) (h5 : Hp) (H : Heap) (locs : List Loc) (ls : Array Slot), Pic G B h5 s H locs → lv_has ls 4 [(0, .ref (B + a0)), (2, .int vp2), (3, .int v4)] → loopF (fun x => F_X10_areWithin_L2 a0 vp2 x.1 x.2) n (v4, h5) = some r1 → W p l e (rmM 5 110 0 0) s m args below meth c H locs 0 0 Q (F0 m 2 ls []) := by
    intro n
    induction n with
    | zero => intro v4 h5 H locs ls P hl hq; cases hq
    | succ n ih =>
      intro v4 h5 H locs ls P hl hq
      obtain ⟨z1, hS1, hI1, hR1⟩ := loop_some hq
      have hF : F_X10_areWithin_L2 a0 vp2 v4 h5 = some z1 := hS1
      unfold F_X10_areWithin_L2 at hF
      refine lv_iload_n (pc := 2) hx hb dX10_areWithin_2 rfl (lv_at hl 2 rfl) ?_
      refine lv_iconst (pc := 3) (v := (-1)) hx hb dX10_areWithin_3 (by decide) ?_
      refine lv_icmp_eq (pc := 4) (tgt := 35) hx hb dX10_areWithin_4 (by decide) (fun hc => ?_) (fun hc => ?_)
      · rw [if_pos hc] at hF
        exact hX1 _ _ _ _ P (lv_sub hl [] rfl) (hR1 _ (Option.some.inj hF).symm)
      · rw [if_neg hc] at hF
        refine lv_aload_n (pc := 7) hx hb dX10_areWithin_7 rfl (lv_at hl 0 rfl) ?_
        refine lv_iload_n (pc := 8) hx hb dX10_areWithin_8 rfl (lv_at hl 2 rfl) ?_
        refine r_cVi (pc := 9) (As := [.int v4]) (rest := []) CX P hl.1 hF kv_X10_184 (fun r h1 q => c_X10_totalOf l G B _ _ _ _ _ q) rfl rfl ⟨Nat.le_of_ble_eq_true rfl, Nat.le_of_ble_eq_true rfl⟩ (Nat.le_of_ble_eq_true rfl) ⟨Nat.le_of_ble_eq_true rfl, Nat.le_of_ble_eq_true rfl⟩ dX10_areWithin_9 (fun v6 h7 H locs P hF => ?_)
        replace hF := un_i hF
        refine lv_iload_n (pc := 12) hx hb dX10_areWithin_12 rfl (lv_at hl 1 rfl) ?_
        refine lv_iadd (pc := 13) hx hb dX10_areWithin_13 ?_
        refine lv_aload_n (pc := 14) hx hb dX10_areWithin_14 rfl (lv_at hl 0 rfl) ?_
        refine lv_iload_n (pc := 15) hx hb dX10_areWithin_15 rfl (lv_at hl 2 rfl) ?_
        refine lv_iconst (pc := 16) (v := 3) hx hb dX10_areWithin_16 (by decide) ?_
        refine lv_iconst (pc := 17) (v := 0) hx hb dX10_areWithin_17 (by decide) ?_
        refine r_cVi (pc := 18) (As := [.int v4, .int 3, .int 0]) (rest := [.int (v6 + vp2)]) CX P hl.1 hF kv_X10_99 (fun r h1 q => c_X10_of l G B _ _ _ _ _ _ _ q) rfl rfl ⟨Nat.le_of_ble_eq_true rfl, Nat.le_of_ble_eq_true rfl⟩ (Nat.le_of_ble_eq_true rfl) ⟨Nat.le_of_ble_eq_true rfl, Nat.le_of_ble_eq_true rfl⟩ dX10_areWithin_18 (fun v8 h9 H locs P hF => ?_)
        replace hF := un_i hF
        refine lv_icmp_le (pc := 21) (tgt := 26) hx hb dX10_areWithin_21 (by decide) (fun hc => ?_) (fun hc => ?_)
        · rw [if_pos hc] at hF
          refine lv_aload_n (pc := 26) hx hb dX10_areWithin_26 rfl (lv_at hl 0 rfl) ?_
          refine lv_iload_n (pc := 27) hx hb dX10_areWithin_27 rfl (lv_at hl 2 rfl) ?_
          refine r_cVi (pc := 28) (As := [.int v4]) (rest := []) CX P hl.1 hF kv_X10_103 (fun r h1 q => c_X10_parentOf l G B _ _ _ _ _ q) rfl rfl ⟨Nat.le_of_ble_eq_true rfl, Nat.le_of_ble_eq_true rfl⟩ (Nat.le_of_ble_eq_true rfl) ⟨Nat.le_of_ble_eq_true rfl, Nat.le_of_ble_eq_true rfl⟩ dX10_areWithin_28 (fun v10 h11 H locs P hF => ?_)
          replace hF := un_i hF
          refine lv_istore_n (pc := 31) hx hb dX10_areWithin_31 rfl hl (by decide) rfl (fun ls hl => ?_)
          replace hl : lv_has ls 4 [(3, .int v10), (0, .ref (B + a0)), (2, .int vp2)] := hl
          refine lv_goto (pc := 32) (tgt := 2) hx hb dX10_areWithin_32 (by decide) ?_
          exact ih _ _ _ _ _ P (lv_sub hl [1, 2, 0] rfl) (hI1 _ (Option.some.inj hF).symm)
        · rw [if_neg hc] at hF
          refine lv_iconst (pc := 24) (v := 0) hx hb dX10_areWithin_24 (by decide) ?_
          have hE := hR1 _ (Option.some.inj hF).symm
          subst hE
          replace hF := sE_li hK1
          cases hF
          exact hret _ _ _ _ P rfl dX10_areWithin_25
  exact hL1 _ _ _ _ _ _ P (lv_sub hl [1, 3, 0] rfl) hLp1
def F_X10_firstAbove_L2 (a2 : Nat) (v3 : Int32) (v4 : Int32) (h5 : Hp) : Option ((Int32 × Hp) ⊕ ((Int32 × Hp) ⊕ (Hp))) :=
if v4 = (-1) then (
some (.inr (.inr h5))) else (
(cO h5 a2 10 (F_X10_totalOf h5 a2 v4)).bind (un fun v6 h7 =>
(cO h7 a2 10 (F_X10_of h7 a2 v4 3 0)).bind (un fun v8 h9 =>
if (v6 + v3) ≤ v8 then (
(cO h9 a2 10 (F_X10_parentOf h9 a2 v4)).bind (un fun v10 h11 =>
some (.inl (v10, h11)))) else (
some (.inr (.inl (v4, h9)))))))
def F_X10_firstAbove (h : Hp) (a0 : Nat) (vp1 : Int32) (vp2 : Int32) : Option (Int32 × Hp) :=
(loopF (fun x => F_X10_firstAbove_L2 a0 vp2 x.1 x.2) 6000 (vp1, h)).bind (sE (fun x => some x) (fun h12 =>
some ((-1), h12)))
set_option maxRecDepth 100000 in
set_option maxHeartbeats 4000000 in
theorem c_X10_firstAbove (l : Launch) (G : GG) (B : Nat) (h : Hp) (a0 : Nat) (vp1 : Int32) (vp2 : Int32) (r0 : Int32) (hr : Hp) (hF : F_X10_firstAbove h a0 vp1 vp2 = some (r0, hr)) : CI l yX10_firstAbove cX10_firstAbove 4 .int 5 110 0 0 G B h [.ref (B + a0), .int vp1, .int vp2] r0 hr := by
  refine ent_i rfl (Nat.le_of_ble_eq_true rfl) ?_
  intro p e s m args below meth c ls Q CX hnm hret P hl
  have CX : Cxt p m c cX10_firstAbove 4 s args RX10 G B := CX
  obtain ⟨⟨hx, hb, hml, hown, hts⟩, -, -⟩ := id CX
  replace hl : lv_has ls 4 [(0, .ref (B + a0)), (1, .int vp1), (2, .int vp2)] := hl
  generalize s.heap = H at P ⊢
  generalize ([] : List Loc) = locs at P ⊢
  unfold F_X10_firstAbove at hF
  refine lv_iload_n (pc := 0) hx hb dX10_firstAbove_0 rfl (lv_at hl 1 rfl) ?_
  refine lv_istore_n (pc := 1) hx hb dX10_firstAbove_1 rfl hl (by decide) rfl (fun ls hl => ?_)
  replace hl : lv_has ls 4 [(3, .int vp1), (0, .ref (B + a0)), (1, .int vp1), (2, .int vp2)] := hl
  obtain ⟨r1, hLp1, hK1⟩ := bd_some hF
  have hX1 : ∀ (h12 : Hp) (H : Heap) (locs : List Loc) (ls : Array Slot), Pic G B h12 s H locs → lv_has ls 4 [] → .inr h12 = r1 → W p l e (rmM 5 110 0 0) s m args below meth c H locs 0 0 Q (F0 m 35 ls []) := by
    intro h12 H locs ls P hl er
    subst er
    have hF := sE_ri hK1
    refine lv_iconst (pc := 35) (v := (-1)) hx hb dX10_firstAbove_35 (by decide) ?_
    cases hF
    exact hret _ _ _ _ P rfl dX10_firstAbove_36
  have hL1 : ∀ (n : Nat) (v4 : Int32) (h5 : Hp) (H : Heap) (locs : List Loc) (ls : Array Slot), Pic G B h5 s H locs → lv_has ls 4 [(0, .ref (B + a0)), (2, .int vp2), (3, .int v4)] → loopF (fun x => F_X10_firstAbove_L2 a0 vp2 x.1 x.2) n (v4, h5) = some r1 → W p l e (rmM 5 110 0 0) s m args below meth c H locs 0 0 Q (F0 m 2 ls []) := by
    intro n
    induction n with
    | zero => intro v4 h5 H locs ls P hl hq; cases hq
    | succ n ih =>
      intro v4 h5 H locs ls P hl hq
      obtain ⟨z1, hS1, hI1, hR1⟩ := loop_some hq
      have hF : F_X10_firstAbove_L2 a0 vp2 v4 h5 = some z1 := hS1
      unfold F_X10_firstAbove_L2 at hF
      refine lv_iload_n (pc := 2) hx hb dX10_firstAbove_2 rfl (lv_at hl 2 rfl) ?_
      refine lv_iconst (pc := 3) (v := (-1)) hx hb dX10_firstAbove_3 (by decide) ?_
      refine lv_icmp_eq (pc := 4) (tgt := 35) hx hb dX10_firstAbove_4 (by decide) (fun hc => ?_) (fun hc => ?_)
      · rw [if_pos hc] at hF
        exact hX1 _ _ _ _ P (lv_sub hl [] rfl) (hR1 _ (Option.some.inj hF).symm)
      · rw [if_neg hc] at hF
        refine lv_aload_n (pc := 7) hx hb dX10_firstAbove_7 rfl (lv_at hl 0 rfl) ?_
        refine lv_iload_n (pc := 8) hx hb dX10_firstAbove_8 rfl (lv_at hl 2 rfl) ?_
        refine r_cVi (pc := 9) (As := [.int v4]) (rest := []) CX P hl.1 hF kv_X10_184 (fun r h1 q => c_X10_totalOf l G B _ _ _ _ _ q) rfl rfl ⟨Nat.le_of_ble_eq_true rfl, Nat.le_of_ble_eq_true rfl⟩ (Nat.le_of_ble_eq_true rfl) ⟨Nat.le_of_ble_eq_true rfl, Nat.le_of_ble_eq_true rfl⟩ dX10_firstAbove_9 (fun v6 h7 H locs P hF => ?_)
        replace hF := un_i hF
        refine lv_iload_n (pc := 12) hx hb dX10_firstAbove_12 rfl (lv_at hl 1 rfl) ?_
        refine lv_iadd (pc := 13) hx hb dX10_firstAbove_13 ?_
        refine lv_aload_n (pc := 14) hx hb dX10_firstAbove_14 rfl (lv_at hl 0 rfl) ?_
        refine lv_iload_n (pc := 15) hx hb dX10_firstAbove_15 rfl (lv_at hl 2 rfl) ?_
        refine lv_iconst (pc := 16) (v := 3) hx hb dX10_firstAbove_16 (by decide) ?_
        refine lv_iconst (pc := 17) (v := 0) hx hb dX10_firstAbove_17 (by decide) ?_
        refine r_cVi (pc := 18) (As := [.int v4, .int 3, .int 0]) (rest := [.int (v6 + vp2)]) CX P hl.1 hF kv_X10_99 (fun r h1 q => c_X10_of l G B _ _ _ _ _ _ _ q) rfl rfl ⟨Nat.le_of_ble_eq_true rfl, Nat.le_of_ble_eq_true rfl⟩ (Nat.le_of_ble_eq_true rfl) ⟨Nat.le_of_ble_eq_true rfl, Nat.le_of_ble_eq_true rfl⟩ dX10_firstAbove_18 (fun v8 h9 H locs P hF => ?_)
        replace hF := un_i hF
        refine lv_icmp_le (pc := 21) (tgt := 26) hx hb dX10_firstAbove_21 (by decide) (fun hc => ?_) (fun hc => ?_)
        · rw [if_pos hc] at hF
          refine lv_aload_n (pc := 26) hx hb dX10_firstAbove_26 rfl (lv_at hl 0 rfl) ?_
          refine lv_iload_n (pc := 27) hx hb dX10_firstAbove_27 rfl (lv_at hl 2 rfl) ?_
          refine r_cVi (pc := 28) (As := [.int v4]) (rest := []) CX P hl.1 hF kv_X10_103 (fun r h1 q => c_X10_parentOf l G B _ _ _ _ _ q) rfl rfl ⟨Nat.le_of_ble_eq_true rfl, Nat.le_of_ble_eq_true rfl⟩ (Nat.le_of_ble_eq_true rfl) ⟨Nat.le_of_ble_eq_true rfl, Nat.le_of_ble_eq_true rfl⟩ dX10_firstAbove_28 (fun v10 h11 H locs P hF => ?_)
          replace hF := un_i hF
          refine lv_istore_n (pc := 31) hx hb dX10_firstAbove_31 rfl hl (by decide) rfl (fun ls hl => ?_)
          replace hl : lv_has ls 4 [(3, .int v10), (0, .ref (B + a0)), (2, .int vp2)] := hl
          refine lv_goto (pc := 32) (tgt := 2) hx hb dX10_firstAbove_32 (by decide) ?_
          exact ih _ _ _ _ _ P (lv_sub hl [1, 2, 0] rfl) (hI1 _ (Option.some.inj hF).symm)
        · rw [if_neg hc] at hF
          refine lv_iload_n (pc := 24) hx hb dX10_firstAbove_24 rfl (lv_at hl 2 rfl) ?_
          have hE := hR1 _ (Option.some.inj hF).symm
          subst hE
          replace hF := sE_li hK1
          cases hF
          exact hret _ _ _ _ P rfl dX10_firstAbove_25
  exact hL1 _ _ _ _ _ _ P (lv_sub hl [1, 3, 0] rfl) hLp1
