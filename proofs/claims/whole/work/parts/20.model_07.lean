def F_X10_fork (h : Hp) (a0 : Nat) (vp1 : Int32) : Option (Int32 × Hp) :=
(pI h a0 10 0 0).bind fun h1 =>
(cO h1 a0 10 (F_X10_isProcess h1 a0 vp1)).bind fun v2 =>
if v2 = 0 then (
some ((-2), h1)) else (
(cO h1 a0 10 (F_X10_groupOf h1 a0 vp1)).bind (un fun v3 h4 =>
(cO h4 a0 10 (F_X10_ofProcess h4 a0 vp1 1 0)).bind (un fun v5 h6 =>
(cO h6 a0 10 (F_X10_comes h6 a0 v3 v5)).bind (un fun v7 h8 =>
some (v7, h8)))))
set_option maxRecDepth 100000 in
set_option maxHeartbeats 4000000 in
theorem c_X10_fork (l : Launch) (G : GG) (B : Nat) (h : Hp) (a0 : Nat) (vp1 : Int32) (r0 : Int32) (hr : Hp) (hF : F_X10_fork h a0 vp1 = some (r0, hr)) : CI l yX10_fork cX10_fork 2 .int 6 136 0 0 G B h [.ref (B + a0), .int vp1] r0 hr := by
  refine ent_i rfl (Nat.le_of_ble_eq_true rfl) ?_
  intro p e s m args below meth c ls Q CX hnm hret P hl
  have CX : Cxt p m c cX10_fork 2 s args RX10 G B := CX
  obtain ⟨⟨hx, hb, hml, hown, hts⟩, -, -⟩ := id CX
  replace hl : lv_has ls 2 [(0, .ref (B + a0)), (1, .int vp1)] := hl
  generalize s.heap = H at P ⊢
  generalize ([] : List Loc) = locs at P ⊢
  unfold F_X10_fork at hF
  refine lv_aload_n (pc := 0) hx hb dX10_fork_0 rfl (lv_at hl 0 rfl) ?_
  refine lv_iconst (pc := 1) (v := 0) hx hb dX10_fork_1 (by decide) ?_
  refine r_pI (pc := 2) CX P hF fl_X10_1 dX10_fork_2 (fun h1 H locs P hF => ?_)
  refine lv_aload_n (pc := 5) hx hb dX10_fork_5 rfl (lv_at hl 0 rfl) ?_
  refine lv_iload_n (pc := 6) hx hb dX10_fork_6 rfl (lv_at hl 1 rfl) ?_
  refine r_cVp (pc := 7) (As := [.int vp1]) (rest := []) CX P hl.1 hF kv_X10_117 (fun r q => c_X10_isProcess l G B _ _ _ _ q) rfl rfl ⟨Nat.le_of_ble_eq_true rfl, Nat.le_of_ble_eq_true rfl⟩ (Nat.le_of_ble_eq_true rfl) ⟨Nat.le_of_ble_eq_true rfl, Nat.le_of_ble_eq_true rfl⟩ dX10_fork_7 (fun v2 H locs P hF => ?_)
  refine lv_if_eq (pc := 10) (tgt := 32) hx hb dX10_fork_10 (by decide) (fun hc => ?_) (fun hc => ?_)
  · rw [if_pos hc] at hF
    refine lv_bipush (pc := 32) (v := (-2)) hx hb dX10_fork_32 (by decide) ?_
    cases hF
    exact hret _ _ _ _ P rfl dX10_fork_34
  · rw [if_neg hc] at hF
    refine lv_aload_n (pc := 13) hx hb dX10_fork_13 rfl (lv_at hl 0 rfl) ?_
    refine lv_aload_n (pc := 14) hx hb dX10_fork_14 rfl (lv_at hl 0 rfl) ?_
    refine lv_iload_n (pc := 15) hx hb dX10_fork_15 rfl (lv_at hl 1 rfl) ?_
    refine r_cVi (pc := 16) (As := [.int vp1]) (rest := [.ref (B + a0)]) CX P hl.1 hF kv_X10_120 (fun r h1 q => c_X10_groupOf l G B _ _ _ _ _ q) rfl rfl ⟨Nat.le_of_ble_eq_true rfl, Nat.le_of_ble_eq_true rfl⟩ (Nat.le_of_ble_eq_true rfl) ⟨Nat.le_of_ble_eq_true rfl, Nat.le_of_ble_eq_true rfl⟩ dX10_fork_16 (fun v3 h4 H locs P hF => ?_)
    replace hF := un_i hF
    refine lv_aload_n (pc := 19) hx hb dX10_fork_19 rfl (lv_at hl 0 rfl) ?_
    refine lv_iload_n (pc := 20) hx hb dX10_fork_20 rfl (lv_at hl 1 rfl) ?_
    refine lv_iconst (pc := 21) (v := 1) hx hb dX10_fork_21 (by decide) ?_
    refine lv_iconst (pc := 22) (v := 0) hx hb dX10_fork_22 (by decide) ?_
    refine r_cVi (pc := 23) (As := [.int vp1, .int 1, .int 0]) (rest := [.int v3, .ref (B + a0)]) CX P hl.1 hF kv_X10_114 (fun r h1 q => c_X10_ofProcess l G B _ _ _ _ _ _ _ q) rfl rfl ⟨Nat.le_of_ble_eq_true rfl, Nat.le_of_ble_eq_true rfl⟩ (Nat.le_of_ble_eq_true rfl) ⟨Nat.le_of_ble_eq_true rfl, Nat.le_of_ble_eq_true rfl⟩ dX10_fork_23 (fun v5 h6 H locs P hF => ?_)
    replace hF := un_i hF
    refine r_cVi (pc := 26) (As := [.int v3, .int v5]) (rest := []) CX P hl.1 hF kv_X10_231 (fun r h1 q => c_X10_comes l G B _ _ _ _ _ _ q) rfl rfl ⟨Nat.le_of_ble_eq_true rfl, Nat.le_of_ble_eq_true rfl⟩ (Nat.le_of_ble_eq_true rfl) ⟨Nat.le_of_ble_eq_true rfl, Nat.le_of_ble_eq_true rfl⟩ dX10_fork_26 (fun v7 h8 H locs P hF => ?_)
    replace hF := un_i hF
    refine lv_goto (pc := 29) (tgt := 34) hx hb dX10_fork_29 (by decide) ?_
    cases hF
    exact hret _ _ _ _ P rfl dX10_fork_34
def F_X10_refusedBy (h : Hp) (a0 : Nat) (vp1 : Int32) (vp2 : Int32) (vp3 : Int32) : Option (Int32) :=
(cO h a0 10 (F_X10_isProcess h a0 vp1)).bind fun v1 =>
if v1 = 0 then (
some (-2)) else (
(F_X10_within h (Int32.toInt64 vp2) 0 1).bind fun v2 =>
if v2 = 0 then (
some (-3)) else (
(F_X10_within h (Int32.toInt64 vp3) 1 99).bind fun v3 =>
if v3 = 0 then (
some (-3)) else (
some 0)))
set_option maxRecDepth 100000 in
set_option maxHeartbeats 4000000 in
theorem c_X10_refusedBy (l : Launch) (G : GG) (B : Nat) (h : Hp) (a0 : Nat) (vp1 : Int32) (vp2 : Int32) (vp3 : Int32) (r0 : Int32) (hF : F_X10_refusedBy h a0 vp1 vp2 vp3 = some r0) : CI l yX10_refusedBy cX10_refusedBy 4 .int 2 46 0 0 G B h [.ref (B + a0), .int vp1, .int vp2, .int vp3] r0 h := by
  refine ent_i rfl (Nat.le_of_ble_eq_true rfl) ?_
  intro p e s m args below meth c ls Q CX hnm hret P hl
  have CX : Cxt p m c cX10_refusedBy 4 s args RX10 G B := CX
  obtain ⟨⟨hx, hb, hml, hown, hts⟩, -, -⟩ := id CX
  replace hl : lv_has ls 4 [(0, .ref (B + a0)), (1, .int vp1), (2, .int vp2), (3, .int vp3)] := hl
  generalize s.heap = H at P ⊢
  generalize ([] : List Loc) = locs at P ⊢
  unfold F_X10_refusedBy at hF
  refine lv_aload_n (pc := 0) hx hb dX10_refusedBy_0 rfl (lv_at hl 0 rfl) ?_
  refine lv_iload_n (pc := 1) hx hb dX10_refusedBy_1 rfl (lv_at hl 1 rfl) ?_
  refine r_cVp (pc := 2) (As := [.int vp1]) (rest := []) CX P hl.1 hF kv_X10_117 (fun r q => c_X10_isProcess l G B _ _ _ _ q) rfl rfl ⟨Nat.le_of_ble_eq_true rfl, Nat.le_of_ble_eq_true rfl⟩ (Nat.le_of_ble_eq_true rfl) ⟨Nat.le_of_ble_eq_true rfl, Nat.le_of_ble_eq_true rfl⟩ dX10_refusedBy_2 (fun v1 H locs P hF => ?_)
  refine lv_if_ne (pc := 5) (tgt := 11) hx hb dX10_refusedBy_5 (by decide) (fun hc => ?_) (fun hc => ?_)
  · rw [if_neg hc] at hF
    refine lv_iload_n (pc := 11) hx hb dX10_refusedBy_11 rfl (lv_at hl 2 rfl) ?_
    refine lv_i2l (pc := 12) hx hb dX10_refusedBy_12 rfl ?_
    refine lv_lconst (pc := 13) (v := 0) hx hb dX10_refusedBy_13 (by decide) ?_
    refine lv_lconst (pc := 14) (v := 1) hx hb dX10_refusedBy_14 (by decide) ?_
    refine r_cSp (pc := 15) (As := [.long (Int32.toInt64 vp2), .long 0, .long 1]) (rest := []) CX P hl.1 hF ks_X10_85 (fun r q => c_X10_within l G B _ _ _ _ _ q) rfl rfl ⟨Nat.le_of_ble_eq_true rfl, Nat.le_of_ble_eq_true rfl⟩ (Nat.le_of_ble_eq_true rfl) ⟨Nat.le_of_ble_eq_true rfl, Nat.le_of_ble_eq_true rfl⟩ dX10_refusedBy_15 (fun v2 H locs P hF => ?_)
    refine lv_if_eq (pc := 18) (tgt := 37) hx hb dX10_refusedBy_18 (by decide) (fun hc => ?_) (fun hc => ?_)
    · rw [if_pos hc] at hF
      refine lv_bipush (pc := 37) (v := (-3)) hx hb dX10_refusedBy_37 (by decide) ?_
      cases hF
      exact hret _ _ _ _ P rfl dX10_refusedBy_39
    · rw [if_neg hc] at hF
      refine lv_iload_n (pc := 21) hx hb dX10_refusedBy_21 rfl (lv_at hl 3 rfl) ?_
      refine lv_i2l (pc := 22) hx hb dX10_refusedBy_22 rfl ?_
      refine lv_lconst (pc := 23) (v := 1) hx hb dX10_refusedBy_23 (by decide) ?_
      refine lv_ldc2 (pc := 24) (v := 99) hx hb hown (hts _ tw_1213) dX10_refusedBy_24 ?_
      refine r_cSp (pc := 27) (As := [.long (Int32.toInt64 vp3), .long 1, .long 99]) (rest := []) CX P hl.1 hF ks_X10_85 (fun r q => c_X10_within l G B _ _ _ _ _ q) rfl rfl ⟨Nat.le_of_ble_eq_true rfl, Nat.le_of_ble_eq_true rfl⟩ (Nat.le_of_ble_eq_true rfl) ⟨Nat.le_of_ble_eq_true rfl, Nat.le_of_ble_eq_true rfl⟩ dX10_refusedBy_27 (fun v3 H locs P hF => ?_)
      refine lv_if_eq (pc := 30) (tgt := 37) hx hb dX10_refusedBy_30 (by decide) (fun hc => ?_) (fun hc => ?_)
      · rw [if_pos hc] at hF
        refine lv_bipush (pc := 37) (v := (-3)) hx hb dX10_refusedBy_37 (by decide) ?_
        cases hF
        exact hret _ _ _ _ P rfl dX10_refusedBy_39
      · rw [if_neg hc] at hF
        refine lv_iconst (pc := 33) (v := 0) hx hb dX10_refusedBy_33 (by decide) ?_
        refine lv_goto (pc := 34) (tgt := 39) hx hb dX10_refusedBy_34 (by decide) ?_
        cases hF
        exact hret _ _ _ _ P rfl dX10_refusedBy_39
  · rw [if_pos hc] at hF
    refine lv_bipush (pc := 8) (v := (-2)) hx hb dX10_refusedBy_8 (by decide) ?_
    cases hF
    exact hret _ _ _ _ P rfl dX10_refusedBy_10
def F_X10_charge (h : Hp) (a0 : Nat) (vp1 : Int32) (vp2 : Int32) (vp3 : Int32) : Option (Int32 × Hp) :=
(pI h a0 10 0 0).bind fun h1 =>
(cO h1 a0 10 (F_X10_refusedBy h1 a0 vp1 vp2 vp3)).bind fun v2 =>
if v2 = 0 then (
(cO h1 a0 10 (F_X10_begins h1 a0)).bind fun h3 =>
(cO h3 a0 10 (F_X10_charges h3 a0 vp1 vp2 vp3)).bind (un fun v4 h5 =>
(if v4 < 0 then (
some (0 : Int32)) else (
some (1 : Int32))).bind fun v7 =>
(cO h5 a0 10 (F_X10_ends h5 a0 v4 v7)).bind (un fun v8 h9 =>
some (v8, h9)))) else (
some (v2, h1))
set_option maxRecDepth 100000 in
set_option maxHeartbeats 4000000 in
theorem c_X10_charge (l : Launch) (G : GG) (B : Nat) (h : Hp) (a0 : Nat) (vp1 : Int32) (vp2 : Int32) (vp3 : Int32) (r0 : Int32) (hr : Hp) (hF : F_X10_charge h a0 vp1 vp2 vp3 = some (r0, hr)) : CI l yX10_charge cX10_charge 6 .int 10 243 0 0 G B h [.ref (B + a0), .int vp1, .int vp2, .int vp3] r0 hr := by
  refine ent_i rfl (Nat.le_of_ble_eq_true rfl) ?_
  intro p e s m args below meth c ls Q CX hnm hret P hl
  have CX : Cxt p m c cX10_charge 6 s args RX10 G B := CX
  obtain ⟨⟨hx, hb, hml, hown, hts⟩, -, -⟩ := id CX
  replace hl : lv_has ls 6 [(0, .ref (B + a0)), (1, .int vp1), (2, .int vp2), (3, .int vp3)] := hl
  generalize s.heap = H at P ⊢
  generalize ([] : List Loc) = locs at P ⊢
  unfold F_X10_charge at hF
  refine lv_aload_n (pc := 0) hx hb dX10_charge_0 rfl (lv_at hl 0 rfl) ?_
  refine lv_iconst (pc := 1) (v := 0) hx hb dX10_charge_1 (by decide) ?_
  refine r_pI (pc := 2) CX P hF fl_X10_1 dX10_charge_2 (fun h1 H locs P hF => ?_)
  refine lv_aload_n (pc := 5) hx hb dX10_charge_5 rfl (lv_at hl 0 rfl) ?_
  refine lv_iload_n (pc := 6) hx hb dX10_charge_6 rfl (lv_at hl 1 rfl) ?_
  refine lv_iload_n (pc := 7) hx hb dX10_charge_7 rfl (lv_at hl 2 rfl) ?_
  refine lv_iload_n (pc := 8) hx hb dX10_charge_8 rfl (lv_at hl 3 rfl) ?_
  refine r_cVp (pc := 9) (As := [.int vp1, .int vp2, .int vp3]) (rest := []) CX P hl.1 hF kv_X10_242 (fun r q => c_X10_refusedBy l G B _ _ _ _ _ _ q) rfl rfl ⟨Nat.le_of_ble_eq_true rfl, Nat.le_of_ble_eq_true rfl⟩ (Nat.le_of_ble_eq_true rfl) ⟨Nat.le_of_ble_eq_true rfl, Nat.le_of_ble_eq_true rfl⟩ dX10_charge_9 (fun v2 H locs P hF => ?_)
  refine lv_istore (pc := 12) hx hb dX10_charge_12 hl (by decide) rfl (fun ls hl => ?_)
  replace hl : lv_has ls 6 [(4, .int v2), (0, .ref (B + a0)), (1, .int vp1), (2, .int vp2), (3, .int vp3)] := hl
  refine lv_iload (pc := 14) hx hb dX10_charge_14 (lv_at hl 0 rfl) ?_
  refine lv_if_eq (pc := 16) (tgt := 22) hx hb dX10_charge_16 (by decide) (fun hc => ?_) (fun hc => ?_)
  · rw [if_pos hc] at hF
    refine lv_aload_n (pc := 22) hx hb dX10_charge_22 rfl (lv_at hl 1 rfl) ?_
    refine r_cVv (pc := 23) (As := []) (rest := []) CX P hl.1 hF kv_X10_211 (fun h1 q => c_X10_begins l G B _ _ _ q) rfl rfl ⟨Nat.le_of_ble_eq_true rfl, Nat.le_of_ble_eq_true rfl⟩ (Nat.le_of_ble_eq_true rfl) ⟨Nat.le_of_ble_eq_true rfl, Nat.le_of_ble_eq_true rfl⟩ dX10_charge_23 (fun h3 H locs P hF => ?_)
    refine lv_aload_n (pc := 26) hx hb dX10_charge_26 rfl (lv_at hl 1 rfl) ?_
    refine lv_iload_n (pc := 27) hx hb dX10_charge_27 rfl (lv_at hl 2 rfl) ?_
    refine lv_iload_n (pc := 28) hx hb dX10_charge_28 rfl (lv_at hl 3 rfl) ?_
    refine lv_iload_n (pc := 29) hx hb dX10_charge_29 rfl (lv_at hl 4 rfl) ?_
    refine r_cVi (pc := 30) (As := [.int vp1, .int vp2, .int vp3]) (rest := []) CX P hl.1 hF kv_X10_245 (fun r h1 q => c_X10_charges l G B _ _ _ _ _ _ _ q) rfl rfl ⟨Nat.le_of_ble_eq_true rfl, Nat.le_of_ble_eq_true rfl⟩ (Nat.le_of_ble_eq_true rfl) ⟨Nat.le_of_ble_eq_true rfl, Nat.le_of_ble_eq_true rfl⟩ dX10_charge_30 (fun v4 h5 H locs P hF => ?_)
    replace hF := un_i hF
    refine lv_istore (pc := 33) hx hb dX10_charge_33 hl (by decide) rfl (fun ls hl => ?_)
    replace hl : lv_has ls 6 [(5, .int v4), (4, .int v2), (0, .ref (B + a0)), (1, .int vp1), (2, .int vp2), (3, .int vp3)] := hl
    refine lv_aload_n (pc := 35) hx hb dX10_charge_35 rfl (lv_at hl 2 rfl) ?_
    refine lv_iload (pc := 36) hx hb dX10_charge_36 (lv_at hl 0 rfl) ?_
    refine lv_iload (pc := 38) hx hb dX10_charge_38 (lv_at hl 0 rfl) ?_
    obtain ⟨j6, hA6, hK6⟩ := bd_some hF
    have hJ6 : ∀ (v7 : Int32) (H : Heap) (locs : List Loc) (ls : Array Slot), Pic G B h5 s H locs → lv_has ls 6 [] → v7 = j6 → W p l e (rmM 10 243 0 0) s m args below meth c H locs 0 0 Q (F0 m 48 ls [.int v7, .int v4, .ref (B + a0)]) := by
      intro v7 H locs ls P hl ej
      subst ej
      have hF := hK6
      refine r_cVi (pc := 48) (As := [.int v4, .int v7]) (rest := []) CX P hl.1 hF kv_X10_214 (fun r h1 q => c_X10_ends l G B _ _ _ _ _ _ q) rfl rfl ⟨Nat.le_of_ble_eq_true rfl, Nat.le_of_ble_eq_true rfl⟩ (Nat.le_of_ble_eq_true rfl) ⟨Nat.le_of_ble_eq_true rfl, Nat.le_of_ble_eq_true rfl⟩ dX10_charge_48 (fun v8 h9 H locs P hF => ?_)
      replace hF := un_i hF
      cases hF
      exact hret _ _ _ _ P rfl dX10_charge_51
    replace hF := hA6
    refine lv_if_lt (pc := 40) (tgt := 47) hx hb dX10_charge_40 (by decide) (fun hc => ?_) (fun hc => ?_)
    · rw [if_pos hc] at hF
      refine lv_iconst (pc := 47) (v := 0) hx hb dX10_charge_47 (by decide) ?_
      exact hJ6 _ _ _ _ P (lv_sub hl [] rfl) (Option.some.inj hF)
    · rw [if_neg hc] at hF
      refine lv_iconst (pc := 43) (v := 1) hx hb dX10_charge_43 (by decide) ?_
      refine lv_goto (pc := 44) (tgt := 48) hx hb dX10_charge_44 (by decide) ?_
      exact hJ6 _ _ _ _ P (lv_sub hl [] rfl) (Option.some.inj hF)
  · rw [if_neg hc] at hF
    refine lv_iload (pc := 19) hx hb dX10_charge_19 (lv_at hl 0 rfl) ?_
    cases hF
    exact hret _ _ _ _ P rfl dX10_charge_21
def F_X10_uncharge (h : Hp) (a0 : Nat) (vp1 : Int32) (vp2 : Int32) (vp3 : Int32) : Option (Int32 × Hp) :=
(pI h a0 10 0 0).bind fun h1 =>
(cO h1 a0 10 (F_X10_refusedBy h1 a0 vp1 vp2 vp3)).bind fun v2 =>
if v2 = 0 then (
(cO h1 a0 10 (F_X10_ofProcess h1 a0 vp1 (2 + vp2) 0)).bind (un fun v3 h4 =>
if vp3 ≤ v3 then (
(cO h4 a0 10 (F_X10_begins h4 a0)).bind fun h5 =>
(cO h5 a0 10 (F_X10_ofProcess h5 a0 vp1 (2 + vp2) (-vp3))).bind (un fun v6 h7 =>
(cO h7 a0 10 (F_X10_groupOf h7 a0 vp1)).bind (un fun v8 h9 =>
(cO h9 a0 10 (F_X10_givesBack h9 a0 v8 vp3)).bind fun h10 =>
(cO h10 a0 10 (F_X10_ends h10 a0 v6 1)).bind (un fun v11 h12 =>
some (v11, h12))))) else (
some ((-4), h4)))) else (
some (v2, h1))
set_option maxRecDepth 100000 in
set_option maxHeartbeats 4000000 in
theorem c_X10_uncharge (l : Launch) (G : GG) (B : Nat) (h : Hp) (a0 : Nat) (vp1 : Int32) (vp2 : Int32) (vp3 : Int32) (r0 : Int32) (hr : Hp) (hF : F_X10_uncharge h a0 vp1 vp2 vp3 = some (r0, hr)) : CI l yX10_uncharge cX10_uncharge 6 .int 3 69 0 0 G B h [.ref (B + a0), .int vp1, .int vp2, .int vp3] r0 hr := by
  refine ent_i rfl (Nat.le_of_ble_eq_true rfl) ?_
  intro p e s m args below meth c ls Q CX hnm hret P hl
  have CX : Cxt p m c cX10_uncharge 6 s args RX10 G B := CX
  obtain ⟨⟨hx, hb, hml, hown, hts⟩, -, -⟩ := id CX
  replace hl : lv_has ls 6 [(0, .ref (B + a0)), (1, .int vp1), (2, .int vp2), (3, .int vp3)] := hl
  generalize s.heap = H at P ⊢
  generalize ([] : List Loc) = locs at P ⊢
  unfold F_X10_uncharge at hF
  refine lv_aload_n (pc := 0) hx hb dX10_uncharge_0 rfl (lv_at hl 0 rfl) ?_
  refine lv_iconst (pc := 1) (v := 0) hx hb dX10_uncharge_1 (by decide) ?_
  refine r_pI (pc := 2) CX P hF fl_X10_1 dX10_uncharge_2 (fun h1 H locs P hF => ?_)
  refine lv_aload_n (pc := 5) hx hb dX10_uncharge_5 rfl (lv_at hl 0 rfl) ?_
  refine lv_iload_n (pc := 6) hx hb dX10_uncharge_6 rfl (lv_at hl 1 rfl) ?_
  refine lv_iload_n (pc := 7) hx hb dX10_uncharge_7 rfl (lv_at hl 2 rfl) ?_
  refine lv_iload_n (pc := 8) hx hb dX10_uncharge_8 rfl (lv_at hl 3 rfl) ?_
  refine r_cVp (pc := 9) (As := [.int vp1, .int vp2, .int vp3]) (rest := []) CX P hl.1 hF kv_X10_242 (fun r q => c_X10_refusedBy l G B _ _ _ _ _ _ q) rfl rfl ⟨Nat.le_of_ble_eq_true rfl, Nat.le_of_ble_eq_true rfl⟩ (Nat.le_of_ble_eq_true rfl) ⟨Nat.le_of_ble_eq_true rfl, Nat.le_of_ble_eq_true rfl⟩ dX10_uncharge_9 (fun v2 H locs P hF => ?_)
  refine lv_istore (pc := 12) hx hb dX10_uncharge_12 hl (by decide) rfl (fun ls hl => ?_)
  replace hl : lv_has ls 6 [(4, .int v2), (0, .ref (B + a0)), (1, .int vp1), (2, .int vp2), (3, .int vp3)] := hl
  refine lv_iload (pc := 14) hx hb dX10_uncharge_14 (lv_at hl 0 rfl) ?_
  refine lv_if_eq (pc := 16) (tgt := 22) hx hb dX10_uncharge_16 (by decide) (fun hc => ?_) (fun hc => ?_)
  · rw [if_pos hc] at hF
    refine lv_aload_n (pc := 22) hx hb dX10_uncharge_22 rfl (lv_at hl 1 rfl) ?_
    refine lv_iload_n (pc := 23) hx hb dX10_uncharge_23 rfl (lv_at hl 2 rfl) ?_
    refine lv_iconst (pc := 24) (v := 2) hx hb dX10_uncharge_24 (by decide) ?_
    refine lv_iload_n (pc := 25) hx hb dX10_uncharge_25 rfl (lv_at hl 3 rfl) ?_
    refine lv_iadd (pc := 26) hx hb dX10_uncharge_26 ?_
    refine lv_iconst (pc := 27) (v := 0) hx hb dX10_uncharge_27 (by decide) ?_
    refine r_cVi (pc := 28) (As := [.int vp1, .int (2 + vp2), .int 0]) (rest := []) CX P hl.1 hF kv_X10_114 (fun r h1 q => c_X10_ofProcess l G B _ _ _ _ _ _ _ q) rfl rfl ⟨Nat.le_of_ble_eq_true rfl, Nat.le_of_ble_eq_true rfl⟩ (Nat.le_of_ble_eq_true rfl) ⟨Nat.le_of_ble_eq_true rfl, Nat.le_of_ble_eq_true rfl⟩ dX10_uncharge_28 (fun v3 h4 H locs P hF => ?_)
    replace hF := un_i hF
    refine lv_iload_n (pc := 31) hx hb dX10_uncharge_31 rfl (lv_at hl 4 rfl) ?_
    refine lv_icmp_ge (pc := 32) (tgt := 38) hx hb dX10_uncharge_32 (by decide) (fun hc => ?_) (fun hc => ?_)
    · rw [if_pos hc] at hF
      refine lv_aload_n (pc := 38) hx hb dX10_uncharge_38 rfl (lv_at hl 1 rfl) ?_
      refine r_cVv (pc := 39) (As := []) (rest := []) CX P hl.1 hF kv_X10_211 (fun h1 q => c_X10_begins l G B _ _ _ q) rfl rfl ⟨Nat.le_of_ble_eq_true rfl, Nat.le_of_ble_eq_true rfl⟩ (Nat.le_of_ble_eq_true rfl) ⟨Nat.le_of_ble_eq_true rfl, Nat.le_of_ble_eq_true rfl⟩ dX10_uncharge_39 (fun h5 H locs P hF => ?_)
      refine lv_aload_n (pc := 42) hx hb dX10_uncharge_42 rfl (lv_at hl 1 rfl) ?_
      refine lv_iload_n (pc := 43) hx hb dX10_uncharge_43 rfl (lv_at hl 2 rfl) ?_
      refine lv_iconst (pc := 44) (v := 2) hx hb dX10_uncharge_44 (by decide) ?_
      refine lv_iload_n (pc := 45) hx hb dX10_uncharge_45 rfl (lv_at hl 3 rfl) ?_
      refine lv_iadd (pc := 46) hx hb dX10_uncharge_46 ?_
      refine lv_iload_n (pc := 47) hx hb dX10_uncharge_47 rfl (lv_at hl 4 rfl) ?_
      refine lv_ineg (pc := 48) hx hb dX10_uncharge_48 ?_
      refine r_cVi (pc := 49) (As := [.int vp1, .int (2 + vp2), .int (-vp3)]) (rest := []) CX P hl.1 hF kv_X10_114 (fun r h1 q => c_X10_ofProcess l G B _ _ _ _ _ _ _ q) rfl rfl ⟨Nat.le_of_ble_eq_true rfl, Nat.le_of_ble_eq_true rfl⟩ (Nat.le_of_ble_eq_true rfl) ⟨Nat.le_of_ble_eq_true rfl, Nat.le_of_ble_eq_true rfl⟩ dX10_uncharge_49 (fun v6 h7 H locs P hF => ?_)
      replace hF := un_i hF
      refine lv_istore (pc := 52) hx hb dX10_uncharge_52 hl (by decide) rfl (fun ls hl => ?_)
      replace hl : lv_has ls 6 [(5, .int v6), (4, .int v2), (0, .ref (B + a0)), (1, .int vp1), (2, .int vp2), (3, .int vp3)] := hl
      refine lv_aload_n (pc := 54) hx hb dX10_uncharge_54 rfl (lv_at hl 2 rfl) ?_
      refine lv_aload_n (pc := 55) hx hb dX10_uncharge_55 rfl (lv_at hl 2 rfl) ?_
      refine lv_iload_n (pc := 56) hx hb dX10_uncharge_56 rfl (lv_at hl 3 rfl) ?_
      refine r_cVi (pc := 57) (As := [.int vp1]) (rest := [.ref (B + a0)]) CX P hl.1 hF kv_X10_120 (fun r h1 q => c_X10_groupOf l G B _ _ _ _ _ q) rfl rfl ⟨Nat.le_of_ble_eq_true rfl, Nat.le_of_ble_eq_true rfl⟩ (Nat.le_of_ble_eq_true rfl) ⟨Nat.le_of_ble_eq_true rfl, Nat.le_of_ble_eq_true rfl⟩ dX10_uncharge_57 (fun v8 h9 H locs P hF => ?_)
      replace hF := un_i hF
      refine lv_iload_n (pc := 60) hx hb dX10_uncharge_60 rfl (lv_at hl 5 rfl) ?_
      refine r_cVv (pc := 61) (As := [.int v8, .int vp3]) (rest := []) CX P hl.1 hF kv_X10_248 (fun h1 q => c_X10_givesBack l G B _ _ _ _ _ q) rfl rfl ⟨Nat.le_of_ble_eq_true rfl, Nat.le_of_ble_eq_true rfl⟩ (Nat.le_of_ble_eq_true rfl) ⟨Nat.le_of_ble_eq_true rfl, Nat.le_of_ble_eq_true rfl⟩ dX10_uncharge_61 (fun h10 H locs P hF => ?_)
      refine lv_aload_n (pc := 64) hx hb dX10_uncharge_64 rfl (lv_at hl 2 rfl) ?_
      refine lv_iload (pc := 65) hx hb dX10_uncharge_65 (lv_at hl 0 rfl) ?_
      refine lv_iconst (pc := 67) (v := 1) hx hb dX10_uncharge_67 (by decide) ?_
      refine r_cVi (pc := 68) (As := [.int v6, .int 1]) (rest := []) CX P hl.1 hF kv_X10_214 (fun r h1 q => c_X10_ends l G B _ _ _ _ _ _ q) rfl rfl ⟨Nat.le_of_ble_eq_true rfl, Nat.le_of_ble_eq_true rfl⟩ (Nat.le_of_ble_eq_true rfl) ⟨Nat.le_of_ble_eq_true rfl, Nat.le_of_ble_eq_true rfl⟩ dX10_uncharge_68 (fun v11 h12 H locs P hF => ?_)
      replace hF := un_i hF
      cases hF
      exact hret _ _ _ _ P rfl dX10_uncharge_71
    · rw [if_neg hc] at hF
      refine lv_bipush (pc := 35) (v := (-4)) hx hb dX10_uncharge_35 (by decide) ?_
      cases hF
      exact hret _ _ _ _ P rfl dX10_uncharge_37
  · rw [if_neg hc] at hF
    refine lv_iload (pc := 19) hx hb dX10_uncharge_19 (lv_at hl 0 rfl) ?_
    cases hF
    exact hret _ _ _ _ P rfl dX10_uncharge_21
def F_X10_use (h : Hp) (a0 : Nat) (vp1 : Int32) (vp2 : Int32) : Option (Int32 × Hp) :=
(pI h a0 10 0 0).bind fun h1 =>
(cO h1 a0 10 (F_X10_refusedBy h1 a0 vp1 0 vp2)).bind fun v2 =>
if v2 = 0 then (
(cO h1 a0 10 (F_X10_ofProcess h1 a0 vp1 5 0)).bind (un fun v3 h4 =>
if vp2 ≤ v3 then (
(cO h4 a0 10 (F_X10_begins h4 a0)).bind fun h5 =>
(cO h5 a0 10 (F_X10_charges h5 a0 vp1 0 vp2)).bind (un fun v6 h7 =>
(F_X10_within h7 (Int32.toInt64 v6) 0 2).bind fun v8 =>
(if v8 = 0 then (
some h7) else (
(cO h7 a0 10 (F_X10_ofProcess h7 a0 vp1 5 (-vp2))).bind (un fun v10 h11 =>
(cO h11 a0 10 (F_X10_stallsMore h11 a0 vp1 vp2)).bind fun h12 =>
some h12))).bind fun h13 =>
(if v6 < 0 then (
some (0 : Int32)) else (
some (1 : Int32))).bind fun v15 =>
(cO h13 a0 10 (F_X10_ends h13 a0 v6 v15)).bind (un fun v16 h17 =>
some (v16, h17)))) else (
some ((-3), h4)))) else (
some (v2, h1))
set_option maxRecDepth 100000 in
set_option maxHeartbeats 4000000 in
theorem c_X10_use (l : Launch) (G : GG) (B : Nat) (h : Hp) (a0 : Nat) (vp1 : Int32) (vp2 : Int32) (r0 : Int32) (hr : Hp) (hF : F_X10_use h a0 vp1 vp2 = some (r0, hr)) : CI l yX10_use cX10_use 5 .int 10 243 0 0 G B h [.ref (B + a0), .int vp1, .int vp2] r0 hr := by
  refine ent_i rfl (Nat.le_of_ble_eq_true rfl) ?_
  intro p e s m args below meth c ls Q CX hnm hret P hl
  have CX : Cxt p m c cX10_use 5 s args RX10 G B := CX
  obtain ⟨⟨hx, hb, hml, hown, hts⟩, -, -⟩ := id CX
  replace hl : lv_has ls 5 [(0, .ref (B + a0)), (1, .int vp1), (2, .int vp2)] := hl
  generalize s.heap = H at P ⊢
  generalize ([] : List Loc) = locs at P ⊢
  unfold F_X10_use at hF
  refine lv_aload_n (pc := 0) hx hb dX10_use_0 rfl (lv_at hl 0 rfl) ?_
  refine lv_iconst (pc := 1) (v := 0) hx hb dX10_use_1 (by decide) ?_
  refine r_pI (pc := 2) CX P hF fl_X10_1 dX10_use_2 (fun h1 H locs P hF => ?_)
  refine lv_aload_n (pc := 5) hx hb dX10_use_5 rfl (lv_at hl 0 rfl) ?_
  refine lv_iload_n (pc := 6) hx hb dX10_use_6 rfl (lv_at hl 1 rfl) ?_
  refine lv_iconst (pc := 7) (v := 0) hx hb dX10_use_7 (by decide) ?_
  refine lv_iload_n (pc := 8) hx hb dX10_use_8 rfl (lv_at hl 2 rfl) ?_
  refine r_cVp (pc := 9) (As := [.int vp1, .int 0, .int vp2]) (rest := []) CX P hl.1 hF kv_X10_242 (fun r q => c_X10_refusedBy l G B _ _ _ _ _ _ q) rfl rfl ⟨Nat.le_of_ble_eq_true rfl, Nat.le_of_ble_eq_true rfl⟩ (Nat.le_of_ble_eq_true rfl) ⟨Nat.le_of_ble_eq_true rfl, Nat.le_of_ble_eq_true rfl⟩ dX10_use_9 (fun v2 H locs P hF => ?_)
  refine lv_istore_n (pc := 12) hx hb dX10_use_12 rfl hl (by decide) rfl (fun ls hl => ?_)
  replace hl : lv_has ls 5 [(3, .int v2), (0, .ref (B + a0)), (1, .int vp1), (2, .int vp2)] := hl
  refine lv_iload_n (pc := 13) hx hb dX10_use_13 rfl (lv_at hl 0 rfl) ?_
  refine lv_if_eq (pc := 14) (tgt := 19) hx hb dX10_use_14 (by decide) (fun hc => ?_) (fun hc => ?_)
  · rw [if_pos hc] at hF
    refine lv_aload_n (pc := 19) hx hb dX10_use_19 rfl (lv_at hl 1 rfl) ?_
    refine lv_iload_n (pc := 20) hx hb dX10_use_20 rfl (lv_at hl 2 rfl) ?_
    refine lv_iconst (pc := 21) (v := 5) hx hb dX10_use_21 (by decide) ?_
    refine lv_iconst (pc := 22) (v := 0) hx hb dX10_use_22 (by decide) ?_
    refine r_cVi (pc := 23) (As := [.int vp1, .int 5, .int 0]) (rest := []) CX P hl.1 hF kv_X10_114 (fun r h1 q => c_X10_ofProcess l G B _ _ _ _ _ _ _ q) rfl rfl ⟨Nat.le_of_ble_eq_true rfl, Nat.le_of_ble_eq_true rfl⟩ (Nat.le_of_ble_eq_true rfl) ⟨Nat.le_of_ble_eq_true rfl, Nat.le_of_ble_eq_true rfl⟩ dX10_use_23 (fun v3 h4 H locs P hF => ?_)
    replace hF := un_i hF
    refine lv_iload_n (pc := 26) hx hb dX10_use_26 rfl (lv_at hl 3 rfl) ?_
    refine lv_icmp_ge (pc := 27) (tgt := 33) hx hb dX10_use_27 (by decide) (fun hc => ?_) (fun hc => ?_)
    · rw [if_pos hc] at hF
      refine lv_aload_n (pc := 33) hx hb dX10_use_33 rfl (lv_at hl 1 rfl) ?_
      refine r_cVv (pc := 34) (As := []) (rest := []) CX P hl.1 hF kv_X10_211 (fun h1 q => c_X10_begins l G B _ _ _ q) rfl rfl ⟨Nat.le_of_ble_eq_true rfl, Nat.le_of_ble_eq_true rfl⟩ (Nat.le_of_ble_eq_true rfl) ⟨Nat.le_of_ble_eq_true rfl, Nat.le_of_ble_eq_true rfl⟩ dX10_use_34 (fun h5 H locs P hF => ?_)
      refine lv_aload_n (pc := 37) hx hb dX10_use_37 rfl (lv_at hl 1 rfl) ?_
      refine lv_iload_n (pc := 38) hx hb dX10_use_38 rfl (lv_at hl 2 rfl) ?_
      refine lv_iconst (pc := 39) (v := 0) hx hb dX10_use_39 (by decide) ?_
      refine lv_iload_n (pc := 40) hx hb dX10_use_40 rfl (lv_at hl 3 rfl) ?_
      refine r_cVi (pc := 41) (As := [.int vp1, .int 0, .int vp2]) (rest := []) CX P hl.1 hF kv_X10_245 (fun r h1 q => c_X10_charges l G B _ _ _ _ _ _ _ q) rfl rfl ⟨Nat.le_of_ble_eq_true rfl, Nat.le_of_ble_eq_true rfl⟩ (Nat.le_of_ble_eq_true rfl) ⟨Nat.le_of_ble_eq_true rfl, Nat.le_of_ble_eq_true rfl⟩ dX10_use_41 (fun v6 h7 H locs P hF => ?_)
      replace hF := un_i hF
      refine lv_istore (pc := 44) hx hb dX10_use_44 hl (by decide) rfl (fun ls hl => ?_)
      replace hl : lv_has ls 5 [(4, .int v6), (3, .int v2), (0, .ref (B + a0)), (1, .int vp1), (2, .int vp2)] := hl
      refine lv_iload (pc := 46) hx hb dX10_use_46 (lv_at hl 0 rfl) ?_
      refine lv_i2l (pc := 48) hx hb dX10_use_48 rfl ?_
      refine lv_lconst (pc := 49) (v := 0) hx hb dX10_use_49 (by decide) ?_
      refine lv_ldc2 (pc := 50) (v := 2) hx hb hown (hts _ tw_1250) dX10_use_50 ?_
      refine r_cSp (pc := 53) (As := [.long (Int32.toInt64 v6), .long 0, .long 2]) (rest := []) CX P hl.1 hF ks_X10_85 (fun r q => c_X10_within l G B _ _ _ _ _ q) rfl rfl ⟨Nat.le_of_ble_eq_true rfl, Nat.le_of_ble_eq_true rfl⟩ (Nat.le_of_ble_eq_true rfl) ⟨Nat.le_of_ble_eq_true rfl, Nat.le_of_ble_eq_true rfl⟩ dX10_use_53 (fun v8 H locs P hF => ?_)
      obtain ⟨j9, hA9, hK9⟩ := bd_some hF
      have hJ9 : ∀ (h13 : Hp) (H : Heap) (locs : List Loc) (ls : Array Slot), Pic G B h13 s H locs → lv_has ls 5 [(0, .ref (B + a0)), (4, .int v6)] → h13 = j9 → W p l e (rmM 10 243 0 0) s m args below meth c H locs 0 0 Q (F0 m 74 ls []) := by
        intro h13 H locs ls P hl ej
        subst ej
        have hF := hK9
        refine lv_aload_n (pc := 74) hx hb dX10_use_74 rfl (lv_at hl 0 rfl) ?_
        refine lv_iload (pc := 75) hx hb dX10_use_75 (lv_at hl 1 rfl) ?_
        refine lv_iload (pc := 77) hx hb dX10_use_77 (lv_at hl 1 rfl) ?_
        obtain ⟨j14, hA14, hK14⟩ := bd_some hF
        have hJ14 : ∀ (v15 : Int32) (H : Heap) (locs : List Loc) (ls : Array Slot), Pic G B h13 s H locs → lv_has ls 5 [] → v15 = j14 → W p l e (rmM 10 243 0 0) s m args below meth c H locs 0 0 Q (F0 m 87 ls [.int v15, .int v6, .ref (B + a0)]) := by
          intro v15 H locs ls P hl ej
          subst ej
          have hF := hK14
          refine r_cVi (pc := 87) (As := [.int v6, .int v15]) (rest := []) CX P hl.1 hF kv_X10_214 (fun r h1 q => c_X10_ends l G B _ _ _ _ _ _ q) rfl rfl ⟨Nat.le_of_ble_eq_true rfl, Nat.le_of_ble_eq_true rfl⟩ (Nat.le_of_ble_eq_true rfl) ⟨Nat.le_of_ble_eq_true rfl, Nat.le_of_ble_eq_true rfl⟩ dX10_use_87 (fun v16 h17 H locs P hF => ?_)
          replace hF := un_i hF
          cases hF
          exact hret _ _ _ _ P rfl dX10_use_90
        replace hF := hA14
        refine lv_if_lt (pc := 79) (tgt := 86) hx hb dX10_use_79 (by decide) (fun hc => ?_) (fun hc => ?_)
        · rw [if_pos hc] at hF
          refine lv_iconst (pc := 86) (v := 0) hx hb dX10_use_86 (by decide) ?_
          exact hJ14 _ _ _ _ P (lv_sub hl [] rfl) (Option.some.inj hF)
        · rw [if_neg hc] at hF
          refine lv_iconst (pc := 82) (v := 1) hx hb dX10_use_82 (by decide) ?_
          refine lv_goto (pc := 83) (tgt := 87) hx hb dX10_use_83 (by decide) ?_
          exact hJ14 _ _ _ _ P (lv_sub hl [] rfl) (Option.some.inj hF)
      replace hF := hA9
      refine lv_if_eq (pc := 56) (tgt := 74) hx hb dX10_use_56 (by decide) (fun hc => ?_) (fun hc => ?_)
      · rw [if_pos hc] at hF
        exact hJ9 _ _ _ _ P (lv_sub hl [2, 0] rfl) (Option.some.inj hF)
      · rw [if_neg hc] at hF
        refine lv_aload_n (pc := 59) hx hb dX10_use_59 rfl (lv_at hl 2 rfl) ?_
        refine lv_iload_n (pc := 60) hx hb dX10_use_60 rfl (lv_at hl 3 rfl) ?_
        refine lv_iconst (pc := 61) (v := 5) hx hb dX10_use_61 (by decide) ?_
        refine lv_iload_n (pc := 62) hx hb dX10_use_62 rfl (lv_at hl 4 rfl) ?_
        refine lv_ineg (pc := 63) hx hb dX10_use_63 ?_
        refine r_cVi (pc := 64) (As := [.int vp1, .int 5, .int (-vp2)]) (rest := []) CX P hl.1 hF kv_X10_114 (fun r h1 q => c_X10_ofProcess l G B _ _ _ _ _ _ _ q) rfl rfl ⟨Nat.le_of_ble_eq_true rfl, Nat.le_of_ble_eq_true rfl⟩ (Nat.le_of_ble_eq_true rfl) ⟨Nat.le_of_ble_eq_true rfl, Nat.le_of_ble_eq_true rfl⟩ dX10_use_64 (fun v10 h11 H locs P hF => ?_)
        replace hF := un_i hF
        refine lv_pop (pc := 67) hx hb dX10_use_67 rfl ?_
        refine lv_aload_n (pc := 68) hx hb dX10_use_68 rfl (lv_at hl 2 rfl) ?_
        refine lv_iload_n (pc := 69) hx hb dX10_use_69 rfl (lv_at hl 3 rfl) ?_
        refine lv_iload_n (pc := 70) hx hb dX10_use_70 rfl (lv_at hl 4 rfl) ?_
        refine r_cVv (pc := 71) (As := [.int vp1, .int vp2]) (rest := []) CX P hl.1 hF kv_X10_196 (fun h1 q => c_X10_stallsMore l G B _ _ _ _ _ q) rfl rfl ⟨Nat.le_of_ble_eq_true rfl, Nat.le_of_ble_eq_true rfl⟩ (Nat.le_of_ble_eq_true rfl) ⟨Nat.le_of_ble_eq_true rfl, Nat.le_of_ble_eq_true rfl⟩ dX10_use_71 (fun h12 H locs P hF => ?_)
        exact hJ9 _ _ _ _ P (lv_sub hl [2, 0] rfl) (Option.some.inj hF)
    · rw [if_neg hc] at hF
      refine lv_bipush (pc := 30) (v := (-3)) hx hb dX10_use_30 (by decide) ?_
      cases hF
      exact hret _ _ _ _ P rfl dX10_use_32
  · rw [if_neg hc] at hF
    refine lv_iload_n (pc := 17) hx hb dX10_use_17 rfl (lv_at hl 0 rfl) ?_
    cases hF
    exact hret _ _ _ _ P rfl dX10_use_18
def F_X10_work (h : Hp) (a0 : Nat) (vp1 : Int32) (vp2 : Int32) : Option (Int32 × Hp) :=
(pI h a0 10 0 0).bind fun h1 =>
(cO h1 a0 10 (F_X10_isProcess h1 a0 vp1)).bind fun v2 =>
if v2 = 0 then (
some ((-2), h1)) else (
(F_X10_within h1 (Int32.toInt64 vp2) 1 999).bind fun v3 =>
if v3 = 0 then (
some ((-3), h1)) else (
(cO h1 a0 10 (F_X10_begins h1 a0)).bind fun h4 =>
(cO h4 a0 10 (F_X10_ofProcess h4 a0 vp1 6 0)).bind (un fun v5 h6 =>
(F_X10_lesser h6 999 (v5 + vp2)).bind fun v7 =>
(cO h6 a0 10 (F_X10_laysProcess h6 a0 vp1 6 v7)).bind fun h8 =>
(cO h8 a0 10 (F_X10_ofProcess h8 a0 vp1 6 0)).bind (un fun v9 h10 =>
(cO h10 a0 10 (F_X10_ends h10 a0 v9 1)).bind (un fun v11 h12 =>
some (v11, h12))))))
set_option maxRecDepth 100000 in
set_option maxHeartbeats 4000000 in
theorem c_X10_work (l : Launch) (G : GG) (B : Nat) (h : Hp) (a0 : Nat) (vp1 : Int32) (vp2 : Int32) (r0 : Int32) (hr : Hp) (hF : F_X10_work h a0 vp1 vp2 = some (r0, hr)) : CI l yX10_work cX10_work 3 .int 3 67 0 0 G B h [.ref (B + a0), .int vp1, .int vp2] r0 hr := by
  refine ent_i rfl (Nat.le_of_ble_eq_true rfl) ?_
  intro p e s m args below meth c ls Q CX hnm hret P hl
  have CX : Cxt p m c cX10_work 3 s args RX10 G B := CX
  obtain ⟨⟨hx, hb, hml, hown, hts⟩, -, -⟩ := id CX
  replace hl : lv_has ls 3 [(0, .ref (B + a0)), (1, .int vp1), (2, .int vp2)] := hl
  generalize s.heap = H at P ⊢
  generalize ([] : List Loc) = locs at P ⊢
  unfold F_X10_work at hF
  refine lv_aload_n (pc := 0) hx hb dX10_work_0 rfl (lv_at hl 0 rfl) ?_
  refine lv_iconst (pc := 1) (v := 0) hx hb dX10_work_1 (by decide) ?_
  refine r_pI (pc := 2) CX P hF fl_X10_1 dX10_work_2 (fun h1 H locs P hF => ?_)
  refine lv_aload_n (pc := 5) hx hb dX10_work_5 rfl (lv_at hl 0 rfl) ?_
  refine lv_iload_n (pc := 6) hx hb dX10_work_6 rfl (lv_at hl 1 rfl) ?_
  refine r_cVp (pc := 7) (As := [.int vp1]) (rest := []) CX P hl.1 hF kv_X10_117 (fun r q => c_X10_isProcess l G B _ _ _ _ q) rfl rfl ⟨Nat.le_of_ble_eq_true rfl, Nat.le_of_ble_eq_true rfl⟩ (Nat.le_of_ble_eq_true rfl) ⟨Nat.le_of_ble_eq_true rfl, Nat.le_of_ble_eq_true rfl⟩ dX10_work_7 (fun v2 H locs P hF => ?_)
  refine lv_if_ne (pc := 10) (tgt := 16) hx hb dX10_work_10 (by decide) (fun hc => ?_) (fun hc => ?_)
  · rw [if_neg hc] at hF
    refine lv_iload_n (pc := 16) hx hb dX10_work_16 rfl (lv_at hl 2 rfl) ?_
    refine lv_i2l (pc := 17) hx hb dX10_work_17 rfl ?_
    refine lv_lconst (pc := 18) (v := 1) hx hb dX10_work_18 (by decide) ?_
    refine lv_ldc2 (pc := 19) (v := 999) hx hb hown (hts _ tw_1255) dX10_work_19 ?_
    refine r_cSp (pc := 22) (As := [.long (Int32.toInt64 vp2), .long 1, .long 999]) (rest := []) CX P hl.1 hF ks_X10_85 (fun r q => c_X10_within l G B _ _ _ _ _ q) rfl rfl ⟨Nat.le_of_ble_eq_true rfl, Nat.le_of_ble_eq_true rfl⟩ (Nat.le_of_ble_eq_true rfl) ⟨Nat.le_of_ble_eq_true rfl, Nat.le_of_ble_eq_true rfl⟩ dX10_work_22 (fun v3 H locs P hF => ?_)
    refine lv_if_ne (pc := 25) (tgt := 31) hx hb dX10_work_25 (by decide) (fun hc => ?_) (fun hc => ?_)
    · rw [if_neg hc] at hF
      refine lv_aload_n (pc := 31) hx hb dX10_work_31 rfl (lv_at hl 0 rfl) ?_
      refine r_cVv (pc := 32) (As := []) (rest := []) CX P hl.1 hF kv_X10_211 (fun h1 q => c_X10_begins l G B _ _ _ q) rfl rfl ⟨Nat.le_of_ble_eq_true rfl, Nat.le_of_ble_eq_true rfl⟩ (Nat.le_of_ble_eq_true rfl) ⟨Nat.le_of_ble_eq_true rfl, Nat.le_of_ble_eq_true rfl⟩ dX10_work_32 (fun h4 H locs P hF => ?_)
      refine lv_aload_n (pc := 35) hx hb dX10_work_35 rfl (lv_at hl 0 rfl) ?_
      refine lv_iload_n (pc := 36) hx hb dX10_work_36 rfl (lv_at hl 1 rfl) ?_
      refine lv_bipush (pc := 37) (v := 6) hx hb dX10_work_37 (by decide) ?_
      refine lv_sipush (pc := 39) (v := 999) hx hb dX10_work_39 (by decide) ?_
      refine lv_aload_n (pc := 42) hx hb dX10_work_42 rfl (lv_at hl 0 rfl) ?_
      refine lv_iload_n (pc := 43) hx hb dX10_work_43 rfl (lv_at hl 1 rfl) ?_
      refine lv_bipush (pc := 44) (v := 6) hx hb dX10_work_44 (by decide) ?_
      refine lv_iconst (pc := 46) (v := 0) hx hb dX10_work_46 (by decide) ?_
      refine r_cVi (pc := 47) (As := [.int vp1, .int 6, .int 0]) (rest := [.int 999, .int 6, .int vp1, .ref (B + a0)]) CX P hl.1 hF kv_X10_114 (fun r h1 q => c_X10_ofProcess l G B _ _ _ _ _ _ _ q) rfl rfl ⟨Nat.le_of_ble_eq_true rfl, Nat.le_of_ble_eq_true rfl⟩ (Nat.le_of_ble_eq_true rfl) ⟨Nat.le_of_ble_eq_true rfl, Nat.le_of_ble_eq_true rfl⟩ dX10_work_47 (fun v5 h6 H locs P hF => ?_)
      replace hF := un_i hF
      refine lv_iload_n (pc := 50) hx hb dX10_work_50 rfl (lv_at hl 2 rfl) ?_
      refine lv_iadd (pc := 51) hx hb dX10_work_51 ?_
      refine r_cSp (pc := 52) (As := [.int 999, .int (v5 + vp2)]) (rest := [.int 6, .int vp1, .ref (B + a0)]) CX P hl.1 hF ks_X10_137 (fun r q => c_X10_lesser l G B _ _ _ _ q) rfl rfl ⟨Nat.le_of_ble_eq_true rfl, Nat.le_of_ble_eq_true rfl⟩ (Nat.le_of_ble_eq_true rfl) ⟨Nat.le_of_ble_eq_true rfl, Nat.le_of_ble_eq_true rfl⟩ dX10_work_52 (fun v7 H locs P hF => ?_)
      refine r_cVv (pc := 55) (As := [.int vp1, .int 6, .int v7]) (rest := []) CX P hl.1 hF kv_X10_174 (fun h1 q => c_X10_laysProcess l G B _ _ _ _ _ _ q) rfl rfl ⟨Nat.le_of_ble_eq_true rfl, Nat.le_of_ble_eq_true rfl⟩ (Nat.le_of_ble_eq_true rfl) ⟨Nat.le_of_ble_eq_true rfl, Nat.le_of_ble_eq_true rfl⟩ dX10_work_55 (fun h8 H locs P hF => ?_)
      refine lv_aload_n (pc := 58) hx hb dX10_work_58 rfl (lv_at hl 0 rfl) ?_
      refine lv_aload_n (pc := 59) hx hb dX10_work_59 rfl (lv_at hl 0 rfl) ?_
      refine lv_iload_n (pc := 60) hx hb dX10_work_60 rfl (lv_at hl 1 rfl) ?_
      refine lv_bipush (pc := 61) (v := 6) hx hb dX10_work_61 (by decide) ?_
      refine lv_iconst (pc := 63) (v := 0) hx hb dX10_work_63 (by decide) ?_
      refine r_cVi (pc := 64) (As := [.int vp1, .int 6, .int 0]) (rest := [.ref (B + a0)]) CX P hl.1 hF kv_X10_114 (fun r h1 q => c_X10_ofProcess l G B _ _ _ _ _ _ _ q) rfl rfl ⟨Nat.le_of_ble_eq_true rfl, Nat.le_of_ble_eq_true rfl⟩ (Nat.le_of_ble_eq_true rfl) ⟨Nat.le_of_ble_eq_true rfl, Nat.le_of_ble_eq_true rfl⟩ dX10_work_64 (fun v9 h10 H locs P hF => ?_)
      replace hF := un_i hF
      refine lv_iconst (pc := 67) (v := 1) hx hb dX10_work_67 (by decide) ?_
      refine r_cVi (pc := 68) (As := [.int v9, .int 1]) (rest := []) CX P hl.1 hF kv_X10_214 (fun r h1 q => c_X10_ends l G B _ _ _ _ _ _ q) rfl rfl ⟨Nat.le_of_ble_eq_true rfl, Nat.le_of_ble_eq_true rfl⟩ (Nat.le_of_ble_eq_true rfl) ⟨Nat.le_of_ble_eq_true rfl, Nat.le_of_ble_eq_true rfl⟩ dX10_work_68 (fun v11 h12 H locs P hF => ?_)
      replace hF := un_i hF
      cases hF
      exact hret _ _ _ _ P rfl dX10_work_71
    · rw [if_pos hc] at hF
      refine lv_bipush (pc := 28) (v := (-3)) hx hb dX10_work_28 (by decide) ?_
      cases hF
      exact hret _ _ _ _ P rfl dX10_work_30
  · rw [if_pos hc] at hF
    refine lv_bipush (pc := 13) (v := (-2)) hx hb dX10_work_13 (by decide) ?_
    cases hF
    exact hret _ _ _ _ P rfl dX10_work_15
def F_X10_hasRoomFor (h : Hp) (a0 : Nat) (vp1 : Int32) (vp2 : Int32) : Option (Int32 × Hp) :=
(cO h a0 10 (F_X10_ofProcess h a0 vp2 5 0)).bind (un fun v1 h2 =>
(cO h2 a0 10 (F_X10_laysTotals h2 a0)).bind fun h3 =>
(cO h3 a0 10 (F_X10_isFull h3 a0 vp1)).bind (un fun v4 h5 =>
if v4 = 0 then (
if v1 = 0 then (
some (1, h5)) else (
(gR h5 a0 10 13).bind fun a6 =>
(aI h5 a6 vp1).bind fun v7 =>
(cO h5 a0 10 (F_X10_of h5 a0 vp1 5 0)).bind (un fun v8 h9 =>
if v8 < (v7 + v1) then (
some (0, h9)) else (
some (1, h9))))) else (
some (0, h5))))
set_option maxRecDepth 100000 in
set_option maxHeartbeats 4000000 in
theorem c_X10_hasRoomFor (l : Launch) (G : GG) (B : Nat) (h : Hp) (a0 : Nat) (vp1 : Int32) (vp2 : Int32) (r0 : Int32) (hr : Hp) (hF : F_X10_hasRoomFor h a0 vp1 vp2 = some (r0, hr)) : CI l yX10_hasRoomFor cX10_hasRoomFor 4 .boolean 5 111 0 0 G B h [.ref (B + a0), .int vp1, .int vp2] r0 hr := by
  refine ent_i rfl (Nat.le_of_ble_eq_true rfl) ?_
  intro p e s m args below meth c ls Q CX hnm hret P hl
  have CX : Cxt p m c cX10_hasRoomFor 4 s args RX10 G B := CX
  obtain ⟨⟨hx, hb, hml, hown, hts⟩, -, -⟩ := id CX
  replace hl : lv_has ls 4 [(0, .ref (B + a0)), (1, .int vp1), (2, .int vp2)] := hl
  generalize s.heap = H at P ⊢
  generalize ([] : List Loc) = locs at P ⊢
  unfold F_X10_hasRoomFor at hF
  refine lv_aload_n (pc := 0) hx hb dX10_hasRoomFor_0 rfl (lv_at hl 0 rfl) ?_
  refine lv_iload_n (pc := 1) hx hb dX10_hasRoomFor_1 rfl (lv_at hl 2 rfl) ?_
  refine lv_iconst (pc := 2) (v := 5) hx hb dX10_hasRoomFor_2 (by decide) ?_
  refine lv_iconst (pc := 3) (v := 0) hx hb dX10_hasRoomFor_3 (by decide) ?_
  refine r_cVi (pc := 4) (As := [.int vp2, .int 5, .int 0]) (rest := []) CX P hl.1 hF kv_X10_114 (fun r h1 q => c_X10_ofProcess l G B _ _ _ _ _ _ _ q) rfl rfl ⟨Nat.le_of_ble_eq_true rfl, Nat.le_of_ble_eq_true rfl⟩ (Nat.le_of_ble_eq_true rfl) ⟨Nat.le_of_ble_eq_true rfl, Nat.le_of_ble_eq_true rfl⟩ dX10_hasRoomFor_4 (fun v1 h2 H locs P hF => ?_)
  replace hF := un_i hF
  refine lv_istore_n (pc := 7) hx hb dX10_hasRoomFor_7 rfl hl (by decide) rfl (fun ls hl => ?_)
  replace hl : lv_has ls 4 [(3, .int v1), (0, .ref (B + a0)), (1, .int vp1), (2, .int vp2)] := hl
  refine lv_aload_n (pc := 8) hx hb dX10_hasRoomFor_8 rfl (lv_at hl 1 rfl) ?_
  refine r_cVv (pc := 9) (As := []) (rest := []) CX P hl.1 hF kv_X10_127 (fun h1 q => c_X10_laysTotals l G B _ _ _ q) rfl rfl ⟨Nat.le_of_ble_eq_true rfl, Nat.le_of_ble_eq_true rfl⟩ (Nat.le_of_ble_eq_true rfl) ⟨Nat.le_of_ble_eq_true rfl, Nat.le_of_ble_eq_true rfl⟩ dX10_hasRoomFor_9 (fun h3 H locs P hF => ?_)
  refine lv_aload_n (pc := 12) hx hb dX10_hasRoomFor_12 rfl (lv_at hl 1 rfl) ?_
  refine lv_iload_n (pc := 13) hx hb dX10_hasRoomFor_13 rfl (lv_at hl 2 rfl) ?_
  refine r_cVi (pc := 14) (As := [.int vp1]) (rest := []) CX P hl.1 hF kv_X10_237 (fun r h1 q => c_X10_isFull l G B _ _ _ _ _ q) rfl rfl ⟨Nat.le_of_ble_eq_true rfl, Nat.le_of_ble_eq_true rfl⟩ (Nat.le_of_ble_eq_true rfl) ⟨Nat.le_of_ble_eq_true rfl, Nat.le_of_ble_eq_true rfl⟩ dX10_hasRoomFor_14 (fun v4 h5 H locs P hF => ?_)
  replace hF := un_i hF
  refine lv_if_ne (pc := 17) (tgt := 46) hx hb dX10_hasRoomFor_17 (by decide) (fun hc => ?_) (fun hc => ?_)
  · rw [if_neg hc] at hF
    refine lv_iconst (pc := 46) (v := 0) hx hb dX10_hasRoomFor_46 (by decide) ?_
    cases hF
    exact hret _ _ _ _ P rfl dX10_hasRoomFor_47
  · rw [if_pos hc] at hF
    refine lv_iload_n (pc := 20) hx hb dX10_hasRoomFor_20 rfl (lv_at hl 0 rfl) ?_
    refine lv_if_eq (pc := 21) (tgt := 42) hx hb dX10_hasRoomFor_21 (by decide) (fun hc => ?_) (fun hc => ?_)
    · rw [if_pos hc] at hF
      refine lv_iconst (pc := 42) (v := 1) hx hb dX10_hasRoomFor_42 (by decide) ?_
      refine lv_goto (pc := 43) (tgt := 47) hx hb dX10_hasRoomFor_43 (by decide) ?_
      cases hF
      exact hret _ _ _ _ P rfl dX10_hasRoomFor_47
    · rw [if_neg hc] at hF
      refine lv_aload_n (pc := 24) hx hb dX10_hasRoomFor_24 rfl (lv_at hl 1 rfl) ?_
      refine r_gR (pc := 25) CX P hF fl_X10_48 dX10_hasRoomFor_25 (fun a6 hF => ?_)
      refine lv_iload_n (pc := 28) hx hb dX10_hasRoomFor_28 rfl (lv_at hl 2 rfl) ?_
      refine r_aI (pc := 29) CX P hF dX10_hasRoomFor_29 (fun v7 hF => ?_)
      refine lv_iload_n (pc := 30) hx hb dX10_hasRoomFor_30 rfl (lv_at hl 0 rfl) ?_
      refine lv_iadd (pc := 31) hx hb dX10_hasRoomFor_31 ?_
      refine lv_aload_n (pc := 32) hx hb dX10_hasRoomFor_32 rfl (lv_at hl 1 rfl) ?_
      refine lv_iload_n (pc := 33) hx hb dX10_hasRoomFor_33 rfl (lv_at hl 2 rfl) ?_
      refine lv_iconst (pc := 34) (v := 5) hx hb dX10_hasRoomFor_34 (by decide) ?_
      refine lv_iconst (pc := 35) (v := 0) hx hb dX10_hasRoomFor_35 (by decide) ?_
      refine r_cVi (pc := 36) (As := [.int vp1, .int 5, .int 0]) (rest := [.int (v7 + v1)]) CX P hl.1 hF kv_X10_99 (fun r h1 q => c_X10_of l G B _ _ _ _ _ _ _ q) rfl rfl ⟨Nat.le_of_ble_eq_true rfl, Nat.le_of_ble_eq_true rfl⟩ (Nat.le_of_ble_eq_true rfl) ⟨Nat.le_of_ble_eq_true rfl, Nat.le_of_ble_eq_true rfl⟩ dX10_hasRoomFor_36 (fun v8 h9 H locs P hF => ?_)
      replace hF := un_i hF
      refine lv_icmp_gt (pc := 39) (tgt := 46) hx hb dX10_hasRoomFor_39 (by decide) (fun hc => ?_) (fun hc => ?_)
      · rw [if_pos hc] at hF
        refine lv_iconst (pc := 46) (v := 0) hx hb dX10_hasRoomFor_46 (by decide) ?_
        cases hF
        exact hret _ _ _ _ P rfl dX10_hasRoomFor_47
      · rw [if_neg hc] at hF
        refine lv_iconst (pc := 42) (v := 1) hx hb dX10_hasRoomFor_42 (by decide) ?_
        refine lv_goto (pc := 43) (tgt := 47) hx hb dX10_hasRoomFor_43 (by decide) ?_
        cases hF
        exact hret _ _ _ _ P rfl dX10_hasRoomFor_47
def F_X10_move_L44 (a7 : Nat) (v8 : Int32) (v9 : Int32) (v10 : Int32) (v11 : Int32) (v12 : Int32) (h13 : Hp) : Option ((Int32 × Int32 × Hp) ⊕ (Int32 × Hp)) :=
if v12 = (-1) then (
some (.inr (v11, h13))) else (
(cO h13 a7 10 (F_X10_isBelow h13 a7 v10 v12)).bind (un fun v14 h15 =>
if v14 = 0 then (
(cO h15 a7 10 (F_X10_hasRoomFor h15 a7 v12 v8)).bind (un fun v16 h17 =>
bl (v11 &&& v16) fun v18 =>
(cO h17 a7 10 (F_X10_parentOf h17 a7 v12)).bind (un fun v19 h20 =>
some (.inl (v18, v19, h20))))) else (
some (.inr (v11, h15)))))
def F_X10_move_L105 (a27 : Nat) (v28 : Int32) (v29 : Int32) (v30 : Int32) (v31 : Int32) (v32 : Int32) (v33 : Int32) (h34 : Hp) : Option ((Int32 × Int32 × Hp) ⊕ (Int32 × Hp)) :=
if v33 = (-1) then (
some (.inr (v32, h34))) else (
(cO h34 a27 10 (F_X10_isBelow h34 a27 v30 v33)).bind (un fun v35 h36 =>
if v35 = 0 then (
(cO h36 a27 10 (F_X10_totalOf h36 a27 v33)).bind (un fun v37 h38 =>
(cO h38 a27 10 (F_X10_of h38 a27 v33 3 0)).bind (un fun v39 h40 =>
bl ((v37 + v31) - v39) fun v41 =>
(if 0 < v41 then (
(cO h40 a27 10 (F_X10_of h40 a27 v33 13 1)).bind (un fun v43 h44 =>
(cO h44 a27 10 (F_X10_takes h44 a27 v33 v41)).bind (un fun v45 h46 =>
(cO h46 a27 10 (F_X10_totalOf h46 a27 v33)).bind (un fun v47 h48 =>
(cO h48 a27 10 (F_X10_of h48 a27 v33 3 0)).bind (un fun v49 h50 =>
if v49 < (v47 + v31) then (
bl (v32 &&& 0) fun v51 =>
some ((v51 : Int32), h50)) else (
bl (v32 &&& 1) fun v52 =>
some ((v52 : Int32), h50))))))) else (
some ((v32 : Int32), h40))).bind fun q42 =>
bl q42.1 fun v53 =>
bl q42.2 fun h54 =>
(cO h54 a27 10 (F_X10_parentOf h54 a27 v33)).bind (un fun v55 h56 =>
some (.inl (v53, v55, h56)))))) else (
some (.inr (v32, h36)))))
def F_X10_move (h : Hp) (a0 : Nat) (vp1 : Int32) (vp2 : Int32) : Option (Int32 × Hp) :=
(pI h a0 10 0 0).bind fun h1 =>
(cO h1 a0 10 (F_X10_isProcess h1 a0 vp1)).bind fun v2 =>
if v2 = 0 then (
some ((-2), h1)) else (
(cO h1 a0 10 (F_X10_isGroup h1 a0 vp2)).bind fun v3 =>
if v3 = 0 then (
some ((-2), h1)) else (
(cO h1 a0 10 (F_X10_groupOf h1 a0 vp1)).bind (un fun v4 h5 =>
if v4 = vp2 then (
some ((-5), h5)) else (
(loopF (fun x => F_X10_move_L44 a0 vp1 vp2 v4 x.1 x.2.1 x.2.2) 6000 (1, vp2, h5)).bind fun q6 =>
bl q6.1 fun v21 =>
bl q6.2 fun h22 =>
if v21 = 0 then (
some ((-4), h22)) else (
(cO h22 a0 10 (F_X10_begins h22 a0)).bind fun h23 =>
(cO h23 a0 10 (F_X10_pagesOf h23 a0 vp1)).bind (un fun v24 h25 =>
(loopF (fun x => F_X10_move_L105 a0 vp1 vp2 v4 v24 x.1 x.2.1 x.2.2) 6000 (v21, vp2, h25)).bind fun q26 =>
bl q26.1 fun v57 =>
bl q26.2 fun h58 =>
if v57 = 0 then (
(cO h58 a0 10 (F_X10_ends h58 a0 (-4) 0)).bind (un fun v62 h63 =>
some (v62, h63))) else (
(cO h58 a0 10 (F_X10_laysProcess h58 a0 vp1 0 vp2)).bind fun h59 =>
(cO h59 a0 10 (F_X10_ends h59 a0 v4 1)).bind (un fun v60 h61 =>
some (v60, h61)))))))))
set_option maxRecDepth 100000 in
set_option maxHeartbeats 4000000 in
theorem c_X10_move (l : Launch) (G : GG) (B : Nat) (h : Hp) (a0 : Nat) (vp1 : Int32) (vp2 : Int32) (r0 : Int32) (hr : Hp) (hF : F_X10_move h a0 vp1 vp2 = some (r0, hr)) : CI l yX10_move cX10_move 9 .int 8 191 0 0 G B h [.ref (B + a0), .int vp1, .int vp2] r0 hr := by
  refine ent_i rfl (Nat.le_of_ble_eq_true rfl) ?_
  intro p e s m args below meth c ls Q CX hnm hret P hl
  have CX : Cxt p m c cX10_move 9 s args RX10 G B := CX
  obtain ⟨⟨hx, hb, hml, hown, hts⟩, -, -⟩ := id CX
  replace hl : lv_has ls 9 [(0, .ref (B + a0)), (1, .int vp1), (2, .int vp2)] := hl
  generalize s.heap = H at P ⊢
  generalize ([] : List Loc) = locs at P ⊢
  unfold F_X10_move at hF
  refine lv_aload_n (pc := 0) hx hb dX10_move_0 rfl (lv_at hl 0 rfl) ?_
  refine lv_iconst (pc := 1) (v := 0) hx hb dX10_move_1 (by decide) ?_
  refine r_pI (pc := 2) CX P hF fl_X10_1 dX10_move_2 (fun h1 H locs P hF => ?_)
  refine lv_aload_n (pc := 5) hx hb dX10_move_5 rfl (lv_at hl 0 rfl) ?_
  refine lv_iload_n (pc := 6) hx hb dX10_move_6 rfl (lv_at hl 1 rfl) ?_
  refine r_cVp (pc := 7) (As := [.int vp1]) (rest := []) CX P hl.1 hF kv_X10_117 (fun r q => c_X10_isProcess l G B _ _ _ _ q) rfl rfl ⟨Nat.le_of_ble_eq_true rfl, Nat.le_of_ble_eq_true rfl⟩ (Nat.le_of_ble_eq_true rfl) ⟨Nat.le_of_ble_eq_true rfl, Nat.le_of_ble_eq_true rfl⟩ dX10_move_7 (fun v2 H locs P hF => ?_)
  refine lv_if_eq (pc := 10) (tgt := 21) hx hb dX10_move_10 (by decide) (fun hc => ?_) (fun hc => ?_)
  · rw [if_pos hc] at hF
    refine lv_bipush (pc := 21) (v := (-2)) hx hb dX10_move_21 (by decide) ?_
    cases hF
    exact hret _ _ _ _ P rfl dX10_move_23
  · rw [if_neg hc] at hF
    refine lv_aload_n (pc := 13) hx hb dX10_move_13 rfl (lv_at hl 0 rfl) ?_
    refine lv_iload_n (pc := 14) hx hb dX10_move_14 rfl (lv_at hl 2 rfl) ?_
    refine r_cVp (pc := 15) (As := [.int vp2]) (rest := []) CX P hl.1 hF kv_X10_107 (fun r q => c_X10_isGroup l G B _ _ _ _ q) rfl rfl ⟨Nat.le_of_ble_eq_true rfl, Nat.le_of_ble_eq_true rfl⟩ (Nat.le_of_ble_eq_true rfl) ⟨Nat.le_of_ble_eq_true rfl, Nat.le_of_ble_eq_true rfl⟩ dX10_move_15 (fun v3 H locs P hF => ?_)
    refine lv_if_ne (pc := 18) (tgt := 24) hx hb dX10_move_18 (by decide) (fun hc => ?_) (fun hc => ?_)
    · rw [if_neg hc] at hF
      refine lv_aload_n (pc := 24) hx hb dX10_move_24 rfl (lv_at hl 0 rfl) ?_
      refine lv_iload_n (pc := 25) hx hb dX10_move_25 rfl (lv_at hl 1 rfl) ?_
      refine r_cVi (pc := 26) (As := [.int vp1]) (rest := []) CX P hl.1 hF kv_X10_120 (fun r h1 q => c_X10_groupOf l G B _ _ _ _ _ q) rfl rfl ⟨Nat.le_of_ble_eq_true rfl, Nat.le_of_ble_eq_true rfl⟩ (Nat.le_of_ble_eq_true rfl) ⟨Nat.le_of_ble_eq_true rfl, Nat.le_of_ble_eq_true rfl⟩ dX10_move_26 (fun v4 h5 H locs P hF => ?_)
      replace hF := un_i hF
      refine lv_istore_n (pc := 29) hx hb dX10_move_29 rfl hl (by decide) rfl (fun ls hl => ?_)
      replace hl : lv_has ls 9 [(3, .int v4), (0, .ref (B + a0)), (1, .int vp1), (2, .int vp2)] := hl
      refine lv_iload_n (pc := 30) hx hb dX10_move_30 rfl (lv_at hl 0 rfl) ?_
      refine lv_iload_n (pc := 31) hx hb dX10_move_31 rfl (lv_at hl 3 rfl) ?_
      refine lv_icmp_ne (pc := 32) (tgt := 38) hx hb dX10_move_32 (by decide) (fun hc => ?_) (fun hc => ?_)
      · rw [if_neg hc] at hF
        refine lv_iconst (pc := 38) (v := 1) hx hb dX10_move_38 (by decide) ?_
        refine lv_istore (pc := 39) hx hb dX10_move_39 hl (by decide) rfl (fun ls hl => ?_)
        replace hl : lv_has ls 9 [(4, .int 1), (3, .int v4), (0, .ref (B + a0)), (1, .int vp1), (2, .int vp2)] := hl
        refine lv_iload_n (pc := 41) hx hb dX10_move_41 rfl (lv_at hl 4 rfl) ?_
        refine lv_istore (pc := 42) hx hb dX10_move_42 hl (by decide) rfl (fun ls hl => ?_)
        replace hl : lv_has ls 9 [(5, .int vp2), (4, .int 1), (3, .int v4), (0, .ref (B + a0)), (1, .int vp1), (2, .int vp2)] := hl
        obtain ⟨r6, hLp6, hK6⟩ := bd_some hF
        have hX6 : ∀ (v21 : Int32) (h22 : Hp) (H : Heap) (locs : List Loc) (ls : Array Slot), Pic G B h22 s H locs → lv_has ls 9 [(0, .ref (B + a0)), (1, .int vp1), (2, .int vp2), (3, .int v4), (4, .int v21)] → (v21, h22) = r6 → W p l e (rmM 8 191 0 0) s m args below meth c H locs 0 0 Q (F0 m 83 ls []) := by
          intro v21 h22 H locs ls P hl er
          subst er
          have hF := hK6
          replace hF := bl_i hF
          replace hF := bl_i hF
          try dsimp only at hF
          refine lv_iload (pc := 83) hx hb dX10_move_83 (lv_at hl 4 rfl) ?_
          refine lv_if_ne (pc := 85) (tgt := 91) hx hb dX10_move_85 (by decide) (fun hc => ?_) (fun hc => ?_)
          · rw [if_neg hc] at hF
            refine lv_aload_n (pc := 91) hx hb dX10_move_91 rfl (lv_at hl 0 rfl) ?_
            refine r_cVv (pc := 92) (As := []) (rest := []) CX P hl.1 hF kv_X10_211 (fun h1 q => c_X10_begins l G B _ _ _ q) rfl rfl ⟨Nat.le_of_ble_eq_true rfl, Nat.le_of_ble_eq_true rfl⟩ (Nat.le_of_ble_eq_true rfl) ⟨Nat.le_of_ble_eq_true rfl, Nat.le_of_ble_eq_true rfl⟩ dX10_move_92 (fun h23 H locs P hF => ?_)
            refine lv_aload_n (pc := 95) hx hb dX10_move_95 rfl (lv_at hl 0 rfl) ?_
            refine lv_iload_n (pc := 96) hx hb dX10_move_96 rfl (lv_at hl 1 rfl) ?_
            refine r_cVi (pc := 97) (As := [.int vp1]) (rest := []) CX P hl.1 hF kv_X10_134 (fun r h1 q => c_X10_pagesOf l G B _ _ _ _ _ q) rfl rfl ⟨Nat.le_of_ble_eq_true rfl, Nat.le_of_ble_eq_true rfl⟩ (Nat.le_of_ble_eq_true rfl) ⟨Nat.le_of_ble_eq_true rfl, Nat.le_of_ble_eq_true rfl⟩ dX10_move_97 (fun v24 h25 H locs P hF => ?_)
            replace hF := un_i hF
            refine lv_istore (pc := 100) hx hb dX10_move_100 hl (by decide) rfl (fun ls hl => ?_)
            replace hl : lv_has ls 9 [(5, .int v24), (0, .ref (B + a0)), (1, .int vp1), (2, .int vp2), (3, .int v4), (4, .int v21)] := hl
            refine lv_iload_n (pc := 102) hx hb dX10_move_102 rfl (lv_at hl 3 rfl) ?_
            refine lv_istore (pc := 103) hx hb dX10_move_103 hl (by decide) rfl (fun ls hl => ?_)
            replace hl : lv_has ls 9 [(6, .int vp2), (5, .int v24), (0, .ref (B + a0)), (1, .int vp1), (2, .int vp2), (3, .int v4), (4, .int v21)] := hl
            obtain ⟨r26, hLp26, hK26⟩ := bd_some hF
            have hX26 : ∀ (v57 : Int32) (h58 : Hp) (H : Heap) (locs : List Loc) (ls : Array Slot), Pic G B h58 s H locs → lv_has ls 9 [(0, .ref (B + a0)), (1, .int vp1), (2, .int vp2), (3, .int v4), (4, .int v57)] → (v57, h58) = r26 → W p l e (rmM 8 191 0 0) s m args below meth c H locs 0 0 Q (F0 m 210 ls []) := by
              intro v57 h58 H locs ls P hl er
              subst er
              have hF := hK26
              replace hF := bl_i hF
              replace hF := bl_i hF
              try dsimp only at hF
              refine lv_iload (pc := 210) hx hb dX10_move_210 (lv_at hl 4 rfl) ?_
              refine lv_if_ne (pc := 212) (tgt := 223) hx hb dX10_move_212 (by decide) (fun hc => ?_) (fun hc => ?_)
              · rw [if_neg hc] at hF
                refine lv_aload_n (pc := 223) hx hb dX10_move_223 rfl (lv_at hl 0 rfl) ?_
                refine lv_iload_n (pc := 224) hx hb dX10_move_224 rfl (lv_at hl 1 rfl) ?_
                refine lv_iconst (pc := 225) (v := 0) hx hb dX10_move_225 (by decide) ?_
                refine lv_iload_n (pc := 226) hx hb dX10_move_226 rfl (lv_at hl 2 rfl) ?_
                refine r_cVv (pc := 227) (As := [.int vp1, .int 0, .int vp2]) (rest := []) CX P hl.1 hF kv_X10_174 (fun h1 q => c_X10_laysProcess l G B _ _ _ _ _ _ q) rfl rfl ⟨Nat.le_of_ble_eq_true rfl, Nat.le_of_ble_eq_true rfl⟩ (Nat.le_of_ble_eq_true rfl) ⟨Nat.le_of_ble_eq_true rfl, Nat.le_of_ble_eq_true rfl⟩ dX10_move_227 (fun h59 H locs P hF => ?_)
                refine lv_aload_n (pc := 230) hx hb dX10_move_230 rfl (lv_at hl 0 rfl) ?_
                refine lv_iload_n (pc := 231) hx hb dX10_move_231 rfl (lv_at hl 3 rfl) ?_
                refine lv_iconst (pc := 232) (v := 1) hx hb dX10_move_232 (by decide) ?_
                refine r_cVi (pc := 233) (As := [.int v4, .int 1]) (rest := []) CX P hl.1 hF kv_X10_214 (fun r h1 q => c_X10_ends l G B _ _ _ _ _ _ q) rfl rfl ⟨Nat.le_of_ble_eq_true rfl, Nat.le_of_ble_eq_true rfl⟩ (Nat.le_of_ble_eq_true rfl) ⟨Nat.le_of_ble_eq_true rfl, Nat.le_of_ble_eq_true rfl⟩ dX10_move_233 (fun v60 h61 H locs P hF => ?_)
                replace hF := un_i hF
                cases hF
                exact hret _ _ _ _ P rfl dX10_move_236
              · rw [if_pos hc] at hF
                refine lv_aload_n (pc := 215) hx hb dX10_move_215 rfl (lv_at hl 0 rfl) ?_
                refine lv_bipush (pc := 216) (v := (-4)) hx hb dX10_move_216 (by decide) ?_
                refine lv_iconst (pc := 218) (v := 0) hx hb dX10_move_218 (by decide) ?_
                refine r_cVi (pc := 219) (As := [.int (-4), .int 0]) (rest := []) CX P hl.1 hF kv_X10_214 (fun r h1 q => c_X10_ends l G B _ _ _ _ _ _ q) rfl rfl ⟨Nat.le_of_ble_eq_true rfl, Nat.le_of_ble_eq_true rfl⟩ (Nat.le_of_ble_eq_true rfl) ⟨Nat.le_of_ble_eq_true rfl, Nat.le_of_ble_eq_true rfl⟩ dX10_move_219 (fun v62 h63 H locs P hF => ?_)
                replace hF := un_i hF
                cases hF
                exact hret _ _ _ _ P rfl dX10_move_222
            have hL26 : ∀ (n : Nat) (v32 : Int32) (v33 : Int32) (h34 : Hp) (H : Heap) (locs : List Loc) (ls : Array Slot), Pic G B h34 s H locs → lv_has ls 9 [(0, .ref (B + a0)), (1, .int vp1), (2, .int vp2), (3, .int v4), (4, .int v32), (5, .int v24), (6, .int v33)] → loopF (fun x => F_X10_move_L105 a0 vp1 vp2 v4 v24 x.1 x.2.1 x.2.2) n (v32, v33, h34) = some r26 → W p l e (rmM 8 191 0 0) s m args below meth c H locs 0 0 Q (F0 m 105 ls []) := by
              intro n
              induction n with
              | zero => intro v32 v33 h34 H locs ls P hl hq; cases hq
              | succ n ih =>
                intro v32 v33 h34 H locs ls P hl hq
                obtain ⟨z26, hS26, hI26, hR26⟩ := loop_some hq
                have hF : F_X10_move_L105 a0 vp1 vp2 v4 v24 v32 v33 h34 = some z26 := hS26
                unfold F_X10_move_L105 at hF
                refine lv_iload (pc := 105) hx hb dX10_move_105 (lv_at hl 6 rfl) ?_
                refine lv_iconst (pc := 107) (v := (-1)) hx hb dX10_move_107 (by decide) ?_
                refine lv_icmp_eq (pc := 108) (tgt := 210) hx hb dX10_move_108 (by decide) (fun hc => ?_) (fun hc => ?_)
                · rw [if_pos hc] at hF
                  exact hX26 _ _ _ _ _ P (lv_sub hl [0, 1, 2, 3, 4] rfl) (hR26 _ (Option.some.inj hF).symm)
                · rw [if_neg hc] at hF
                  refine lv_aload_n (pc := 111) hx hb dX10_move_111 rfl (lv_at hl 0 rfl) ?_
                  refine lv_iload_n (pc := 112) hx hb dX10_move_112 rfl (lv_at hl 3 rfl) ?_
                  refine lv_iload (pc := 113) hx hb dX10_move_113 (lv_at hl 6 rfl) ?_
                  refine r_cVi (pc := 115) (As := [.int v4, .int v33]) (rest := []) CX P hl.1 hF kv_X10_111 (fun r h1 q => c_X10_isBelow l G B _ _ _ _ _ _ q) rfl rfl ⟨Nat.le_of_ble_eq_true rfl, Nat.le_of_ble_eq_true rfl⟩ (Nat.le_of_ble_eq_true rfl) ⟨Nat.le_of_ble_eq_true rfl, Nat.le_of_ble_eq_true rfl⟩ dX10_move_115 (fun v35 h36 H locs P hF => ?_)
                  replace hF := un_i hF
                  refine lv_if_ne (pc := 118) (tgt := 210) hx hb dX10_move_118 (by decide) (fun hc => ?_) (fun hc => ?_)
                  · rw [if_neg hc] at hF
                    exact hX26 _ _ _ _ _ P (lv_sub hl [0, 1, 2, 3, 4] rfl) (hR26 _ (Option.some.inj hF).symm)
                  · rw [if_pos hc] at hF
                    refine lv_aload_n (pc := 121) hx hb dX10_move_121 rfl (lv_at hl 0 rfl) ?_
                    refine lv_iload (pc := 122) hx hb dX10_move_122 (lv_at hl 6 rfl) ?_
                    refine r_cVi (pc := 124) (As := [.int v33]) (rest := []) CX P hl.1 hF kv_X10_184 (fun r h1 q => c_X10_totalOf l G B _ _ _ _ _ q) rfl rfl ⟨Nat.le_of_ble_eq_true rfl, Nat.le_of_ble_eq_true rfl⟩ (Nat.le_of_ble_eq_true rfl) ⟨Nat.le_of_ble_eq_true rfl, Nat.le_of_ble_eq_true rfl⟩ dX10_move_124 (fun v37 h38 H locs P hF => ?_)
                    replace hF := un_i hF
                    refine lv_iload (pc := 127) hx hb dX10_move_127 (lv_at hl 5 rfl) ?_
                    refine lv_iadd (pc := 129) hx hb dX10_move_129 ?_
                    refine lv_aload_n (pc := 130) hx hb dX10_move_130 rfl (lv_at hl 0 rfl) ?_
                    refine lv_iload (pc := 131) hx hb dX10_move_131 (lv_at hl 6 rfl) ?_
                    refine lv_iconst (pc := 133) (v := 3) hx hb dX10_move_133 (by decide) ?_
                    refine lv_iconst (pc := 134) (v := 0) hx hb dX10_move_134 (by decide) ?_
                    refine r_cVi (pc := 135) (As := [.int v33, .int 3, .int 0]) (rest := [.int (v37 + v24)]) CX P hl.1 hF kv_X10_99 (fun r h1 q => c_X10_of l G B _ _ _ _ _ _ _ q) rfl rfl ⟨Nat.le_of_ble_eq_true rfl, Nat.le_of_ble_eq_true rfl⟩ (Nat.le_of_ble_eq_true rfl) ⟨Nat.le_of_ble_eq_true rfl, Nat.le_of_ble_eq_true rfl⟩ dX10_move_135 (fun v39 h40 H locs P hF => ?_)
                    replace hF := un_i hF
                    refine lv_isub (pc := 138) hx hb dX10_move_138 ?_
                    refine lv_topi (fun v41 ev41 => ?_)
                    replace hF := bl_e hF ev41
                    refine lv_istore (pc := 139) hx hb dX10_move_139 hl (by decide) rfl (fun ls hl => ?_)
                    replace hl : lv_has ls 9 [(7, .int v41), (0, .ref (B + a0)), (1, .int vp1), (2, .int vp2), (3, .int v4), (4, .int v32), (5, .int v24), (6, .int v33)] := hl
                    refine lv_iload (pc := 141) hx hb dX10_move_141 (lv_at hl 0 rfl) ?_
                    obtain ⟨j42, hA42, hK42⟩ := bd_some hF
                    have hJ42 : ∀ (v53 : Int32) (h54 : Hp) (H : Heap) (locs : List Loc) (ls : Array Slot), Pic G B h54 s H locs → lv_has ls 9 [(0, .ref (B + a0)), (1, .int vp1), (2, .int vp2), (3, .int v4), (4, .int v53), (5, .int v24), (6, .int v33)] → (v53, h54) = j42 → W p l e (rmM 8 191 0 0) s m args below meth c H locs 0 0 Q (F0 m 199 ls []) := by
                      intro v53 h54 H locs ls P hl ej
                      subst ej
                      have hF := hK42
                      replace hF := bl_i hF
                      replace hF := bl_i hF
                      try dsimp only at hF
                      refine lv_aload_n (pc := 199) hx hb dX10_move_199 rfl (lv_at hl 0 rfl) ?_
                      refine lv_iload (pc := 200) hx hb dX10_move_200 (lv_at hl 6 rfl) ?_
                      refine r_cVi (pc := 202) (As := [.int v33]) (rest := []) CX P hl.1 hF kv_X10_103 (fun r h1 q => c_X10_parentOf l G B _ _ _ _ _ q) rfl rfl ⟨Nat.le_of_ble_eq_true rfl, Nat.le_of_ble_eq_true rfl⟩ (Nat.le_of_ble_eq_true rfl) ⟨Nat.le_of_ble_eq_true rfl, Nat.le_of_ble_eq_true rfl⟩ dX10_move_202 (fun v55 h56 H locs P hF => ?_)
                      replace hF := un_i hF
                      refine lv_istore (pc := 205) hx hb dX10_move_205 hl (by decide) rfl (fun ls hl => ?_)
                      replace hl : lv_has ls 9 [(6, .int v55), (0, .ref (B + a0)), (1, .int vp1), (2, .int vp2), (3, .int v4), (4, .int v53), (5, .int v24)] := hl
                      refine lv_goto (pc := 207) (tgt := 105) hx hb dX10_move_207 (by decide) ?_
                      exact ih _ _ _ _ _ _ P (lv_sub hl [1, 2, 3, 4, 5, 6, 0] rfl) (hI26 _ (Option.some.inj hF).symm)
                    replace hF := hA42
                    refine lv_if_gt (pc := 143) (tgt := 149) hx hb dX10_move_143 (by decide) (fun hc => ?_) (fun hc => ?_)
                    · rw [if_pos hc] at hF
                      refine lv_aload_n (pc := 149) hx hb dX10_move_149 rfl (lv_at hl 1 rfl) ?_
                      refine lv_iload (pc := 150) hx hb dX10_move_150 (lv_at hl 7 rfl) ?_
                      refine lv_bipush (pc := 152) (v := 13) hx hb dX10_move_152 (by decide) ?_
                      refine lv_iconst (pc := 154) (v := 1) hx hb dX10_move_154 (by decide) ?_
                      refine r_cVi (pc := 155) (As := [.int v33, .int 13, .int 1]) (rest := []) CX P hl.1 hF kv_X10_99 (fun r h1 q => c_X10_of l G B _ _ _ _ _ _ _ q) rfl rfl ⟨Nat.le_of_ble_eq_true rfl, Nat.le_of_ble_eq_true rfl⟩ (Nat.le_of_ble_eq_true rfl) ⟨Nat.le_of_ble_eq_true rfl, Nat.le_of_ble_eq_true rfl⟩ dX10_move_155 (fun v43 h44 H locs P hF => ?_)
                      replace hF := un_i hF
                      refine lv_pop (pc := 158) hx hb dX10_move_158 rfl ?_
                      refine lv_aload_n (pc := 159) hx hb dX10_move_159 rfl (lv_at hl 1 rfl) ?_
                      refine lv_iload (pc := 160) hx hb dX10_move_160 (lv_at hl 7 rfl) ?_
                      refine lv_iload (pc := 162) hx hb dX10_move_162 (lv_at hl 0 rfl) ?_
                      refine r_cVi (pc := 164) (As := [.int v33, .int v41]) (rest := []) CX P hl.1 hF kv_X10_190 (fun r h1 q => c_X10_takes l G B _ _ _ _ _ _ q) rfl rfl ⟨Nat.le_of_ble_eq_true rfl, Nat.le_of_ble_eq_true rfl⟩ (Nat.le_of_ble_eq_true rfl) ⟨Nat.le_of_ble_eq_true rfl, Nat.le_of_ble_eq_true rfl⟩ dX10_move_164 (fun v45 h46 H locs P hF => ?_)
                      replace hF := un_i hF
                      refine lv_istore (pc := 167) hx hb dX10_move_167 hl (by decide) rfl (fun ls hl => ?_)
                      replace hl : lv_has ls 9 [(8, .int v45), (7, .int v41), (0, .ref (B + a0)), (1, .int vp1), (2, .int vp2), (3, .int v4), (4, .int v32), (5, .int v24), (6, .int v33)] := hl
                      refine lv_iload (pc := 169) hx hb dX10_move_169 (lv_at hl 6 rfl) ?_
                      refine lv_aload_n (pc := 171) hx hb dX10_move_171 rfl (lv_at hl 2 rfl) ?_
                      refine lv_iload (pc := 172) hx hb dX10_move_172 (lv_at hl 8 rfl) ?_
                      refine r_cVi (pc := 174) (As := [.int v33]) (rest := [.int v32]) CX P hl.1 hF kv_X10_184 (fun r h1 q => c_X10_totalOf l G B _ _ _ _ _ q) rfl rfl ⟨Nat.le_of_ble_eq_true rfl, Nat.le_of_ble_eq_true rfl⟩ (Nat.le_of_ble_eq_true rfl) ⟨Nat.le_of_ble_eq_true rfl, Nat.le_of_ble_eq_true rfl⟩ dX10_move_174 (fun v47 h48 H locs P hF => ?_)
                      replace hF := un_i hF
                      refine lv_iload (pc := 177) hx hb dX10_move_177 (lv_at hl 7 rfl) ?_
                      refine lv_iadd (pc := 179) hx hb dX10_move_179 ?_
                      refine lv_aload_n (pc := 180) hx hb dX10_move_180 rfl (lv_at hl 2 rfl) ?_
                      refine lv_iload (pc := 181) hx hb dX10_move_181 (lv_at hl 8 rfl) ?_
                      refine lv_iconst (pc := 183) (v := 3) hx hb dX10_move_183 (by decide) ?_
                      refine lv_iconst (pc := 184) (v := 0) hx hb dX10_move_184 (by decide) ?_
                      refine r_cVi (pc := 185) (As := [.int v33, .int 3, .int 0]) (rest := [.int (v47 + v24), .int v32]) CX P hl.1 hF kv_X10_99 (fun r h1 q => c_X10_of l G B _ _ _ _ _ _ _ q) rfl rfl ⟨Nat.le_of_ble_eq_true rfl, Nat.le_of_ble_eq_true rfl⟩ (Nat.le_of_ble_eq_true rfl) ⟨Nat.le_of_ble_eq_true rfl, Nat.le_of_ble_eq_true rfl⟩ dX10_move_185 (fun v49 h50 H locs P hF => ?_)
                      replace hF := un_i hF
                      refine lv_icmp_gt (pc := 188) (tgt := 195) hx hb dX10_move_188 (by decide) (fun hc => ?_) (fun hc => ?_)
                      · rw [if_pos hc] at hF
                        refine lv_iconst (pc := 195) (v := 0) hx hb dX10_move_195 (by decide) ?_
                        refine lv_iand (pc := 196) hx hb dX10_move_196 ?_
                        refine lv_topi (fun v51 ev51 => ?_)
                        replace hF := bl_e hF ev51
                        refine lv_istore (pc := 197) hx hb dX10_move_197 hl (by decide) rfl (fun ls hl => ?_)
                        replace hl : lv_has ls 9 [(4, .int v51), (8, .int v45), (7, .int v41), (0, .ref (B + a0)), (1, .int vp1), (2, .int vp2), (3, .int v4), (5, .int v24), (6, .int v33)] := hl
                        exact hJ42 _ _ _ _ _ P (lv_sub hl [3, 4, 5, 6, 0, 7, 8] rfl) (Option.some.inj hF)
                      · rw [if_neg hc] at hF
                        refine lv_iconst (pc := 191) (v := 1) hx hb dX10_move_191 (by decide) ?_
                        refine lv_goto (pc := 192) (tgt := 196) hx hb dX10_move_192 (by decide) ?_
                        refine lv_iand (pc := 196) hx hb dX10_move_196 ?_
                        refine lv_topi (fun v52 ev52 => ?_)
                        replace hF := bl_e hF ev52
                        refine lv_istore (pc := 197) hx hb dX10_move_197 hl (by decide) rfl (fun ls hl => ?_)
                        replace hl : lv_has ls 9 [(4, .int v52), (8, .int v45), (7, .int v41), (0, .ref (B + a0)), (1, .int vp1), (2, .int vp2), (3, .int v4), (5, .int v24), (6, .int v33)] := hl
                        exact hJ42 _ _ _ _ _ P (lv_sub hl [3, 4, 5, 6, 0, 7, 8] rfl) (Option.some.inj hF)
                    · rw [if_neg hc] at hF
                      refine lv_goto (pc := 146) (tgt := 199) hx hb dX10_move_146 (by decide) ?_
                      exact hJ42 _ _ _ _ _ P (lv_sub hl [1, 2, 3, 4, 5, 6, 7] rfl) (Option.some.inj hF)
            exact hL26 _ _ _ _ _ _ _ P (lv_sub hl [2, 3, 4, 5, 6, 1, 0] rfl) hLp26
          · rw [if_pos hc] at hF
            refine lv_bipush (pc := 88) (v := (-4)) hx hb dX10_move_88 (by decide) ?_
            cases hF
            exact hret _ _ _ _ P rfl dX10_move_90
        have hL6 : ∀ (n : Nat) (v11 : Int32) (v12 : Int32) (h13 : Hp) (H : Heap) (locs : List Loc) (ls : Array Slot), Pic G B h13 s H locs → lv_has ls 9 [(0, .ref (B + a0)), (1, .int vp1), (2, .int vp2), (3, .int v4), (4, .int v11), (5, .int v12)] → loopF (fun x => F_X10_move_L44 a0 vp1 vp2 v4 x.1 x.2.1 x.2.2) n (v11, v12, h13) = some r6 → W p l e (rmM 8 191 0 0) s m args below meth c H locs 0 0 Q (F0 m 44 ls []) := by
          intro n
          induction n with
          | zero => intro v11 v12 h13 H locs ls P hl hq; cases hq
          | succ n ih =>
            intro v11 v12 h13 H locs ls P hl hq
            obtain ⟨z6, hS6, hI6, hR6⟩ := loop_some hq
            have hF : F_X10_move_L44 a0 vp1 vp2 v4 v11 v12 h13 = some z6 := hS6
            unfold F_X10_move_L44 at hF
            refine lv_iload (pc := 44) hx hb dX10_move_44 (lv_at hl 5 rfl) ?_
            refine lv_iconst (pc := 46) (v := (-1)) hx hb dX10_move_46 (by decide) ?_
            refine lv_icmp_eq (pc := 47) (tgt := 83) hx hb dX10_move_47 (by decide) (fun hc => ?_) (fun hc => ?_)
            · rw [if_pos hc] at hF
              exact hX6 _ _ _ _ _ P (lv_sub hl [0, 1, 2, 3, 4] rfl) (hR6 _ (Option.some.inj hF).symm)
            · rw [if_neg hc] at hF
              refine lv_aload_n (pc := 50) hx hb dX10_move_50 rfl (lv_at hl 0 rfl) ?_
              refine lv_iload_n (pc := 51) hx hb dX10_move_51 rfl (lv_at hl 3 rfl) ?_
              refine lv_iload (pc := 52) hx hb dX10_move_52 (lv_at hl 5 rfl) ?_
              refine r_cVi (pc := 54) (As := [.int v4, .int v12]) (rest := []) CX P hl.1 hF kv_X10_111 (fun r h1 q => c_X10_isBelow l G B _ _ _ _ _ _ q) rfl rfl ⟨Nat.le_of_ble_eq_true rfl, Nat.le_of_ble_eq_true rfl⟩ (Nat.le_of_ble_eq_true rfl) ⟨Nat.le_of_ble_eq_true rfl, Nat.le_of_ble_eq_true rfl⟩ dX10_move_54 (fun v14 h15 H locs P hF => ?_)
              replace hF := un_i hF
              refine lv_if_ne (pc := 57) (tgt := 83) hx hb dX10_move_57 (by decide) (fun hc => ?_) (fun hc => ?_)
              · rw [if_neg hc] at hF
                exact hX6 _ _ _ _ _ P (lv_sub hl [0, 1, 2, 3, 4] rfl) (hR6 _ (Option.some.inj hF).symm)
              · rw [if_pos hc] at hF
                refine lv_iload (pc := 60) hx hb dX10_move_60 (lv_at hl 4 rfl) ?_
                refine lv_aload_n (pc := 62) hx hb dX10_move_62 rfl (lv_at hl 0 rfl) ?_
                refine lv_iload (pc := 63) hx hb dX10_move_63 (lv_at hl 5 rfl) ?_
                refine lv_iload_n (pc := 65) hx hb dX10_move_65 rfl (lv_at hl 1 rfl) ?_
                refine r_cVi (pc := 66) (As := [.int v12, .int vp1]) (rest := [.int v11]) CX P hl.1 hF kv_X10_255 (fun r h1 q => c_X10_hasRoomFor l G B _ _ _ _ _ _ q) rfl rfl ⟨Nat.le_of_ble_eq_true rfl, Nat.le_of_ble_eq_true rfl⟩ (Nat.le_of_ble_eq_true rfl) ⟨Nat.le_of_ble_eq_true rfl, Nat.le_of_ble_eq_true rfl⟩ dX10_move_66 (fun v16 h17 H locs P hF => ?_)
                replace hF := un_i hF
                refine lv_iand (pc := 69) hx hb dX10_move_69 ?_
                refine lv_topi (fun v18 ev18 => ?_)
                replace hF := bl_e hF ev18
                refine lv_istore (pc := 70) hx hb dX10_move_70 hl (by decide) rfl (fun ls hl => ?_)
                replace hl : lv_has ls 9 [(4, .int v18), (0, .ref (B + a0)), (1, .int vp1), (2, .int vp2), (3, .int v4), (5, .int v12)] := hl
                refine lv_aload_n (pc := 72) hx hb dX10_move_72 rfl (lv_at hl 1 rfl) ?_
                refine lv_iload (pc := 73) hx hb dX10_move_73 (lv_at hl 5 rfl) ?_
                refine r_cVi (pc := 75) (As := [.int v12]) (rest := []) CX P hl.1 hF kv_X10_103 (fun r h1 q => c_X10_parentOf l G B _ _ _ _ _ q) rfl rfl ⟨Nat.le_of_ble_eq_true rfl, Nat.le_of_ble_eq_true rfl⟩ (Nat.le_of_ble_eq_true rfl) ⟨Nat.le_of_ble_eq_true rfl, Nat.le_of_ble_eq_true rfl⟩ dX10_move_75 (fun v19 h20 H locs P hF => ?_)
                replace hF := un_i hF
                refine lv_istore (pc := 78) hx hb dX10_move_78 hl (by decide) rfl (fun ls hl => ?_)
                replace hl : lv_has ls 9 [(5, .int v19), (4, .int v18), (0, .ref (B + a0)), (1, .int vp1), (2, .int vp2), (3, .int v4)] := hl
                refine lv_goto (pc := 80) (tgt := 44) hx hb dX10_move_80 (by decide) ?_
                exact ih _ _ _ _ _ _ P (lv_sub hl [2, 3, 4, 5, 1, 0] rfl) (hI6 _ (Option.some.inj hF).symm)
        exact hL6 _ _ _ _ _ _ _ P (lv_sub hl [3, 4, 5, 2, 1, 0] rfl) hLp6
      · rw [if_pos hc] at hF
        refine lv_bipush (pc := 35) (v := (-5)) hx hb dX10_move_35 (by decide) ?_
        cases hF
        exact hret _ _ _ _ P rfl dX10_move_37
    · rw [if_pos hc] at hF
      refine lv_bipush (pc := 21) (v := (-2)) hx hb dX10_move_21 (by decide) ?_
      cases hF
      exact hret _ _ _ _ P rfl dX10_move_23
