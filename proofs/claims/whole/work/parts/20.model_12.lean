def F_X10_proc (h : Hp) (a0 : Nat) (vp1 : Int32) (vp2 : Int32) : Option (Int32 × Hp) :=
(pI h a0 10 0 0).bind fun h1 =>
(cO h1 a0 10 (F_X10_isProcess h1 a0 vp1)).bind fun v2 =>
if v2 = 0 then (
some ((-99), h1)) else (
(F_X10_within h1 (Int32.toInt64 vp2) 0 8).bind fun v3 =>
if v3 = 0 then (
some ((-99), h1)) else (
if vp2 = 5 then (
(cO h1 a0 10 (F_X10_badnessOf h1 a0 vp1)).bind (un fun v8 h9 =>
some (v8, h9))) else (
(if 5 ≤ vp2 then (
some (vp2 - 1 : Int32)) else (
some (vp2 : Int32))).bind fun v5 =>
(cO h1 a0 10 (F_X10_ofProcess h1 a0 vp1 v5 0)).bind (un fun v6 h7 =>
some (v6, h7)))))
set_option maxRecDepth 100000 in
set_option maxHeartbeats 4000000 in
theorem c_X10_proc (l : Launch) (G : GG) (B : Nat) (h : Hp) (a0 : Nat) (vp1 : Int32) (vp2 : Int32) (r0 : Int32) (hr : Hp) (hF : F_X10_proc h a0 vp1 vp2 = some (r0, hr)) : CI l yX10_proc cX10_proc 3 .int 3 65 0 0 G B h [.ref (B + a0), .int vp1, .int vp2] r0 hr := by
  refine ent_i rfl (Nat.le_of_ble_eq_true rfl) ?_
  intro p e s m args below meth c ls Q CX hnm hret P hl
  have CX : Cxt p m c cX10_proc 3 s args RX10 G B := CX
  obtain ⟨⟨hx, hb, hml, hown, hts⟩, -, -⟩ := id CX
  replace hl : lv_has ls 3 [(0, .ref (B + a0)), (1, .int vp1), (2, .int vp2)] := hl
  generalize s.heap = H at P ⊢
  generalize ([] : List Loc) = locs at P ⊢
  unfold F_X10_proc at hF
  refine lv_aload_n (pc := 0) hx hb dX10_proc_0 rfl (lv_at hl 0 rfl) ?_
  refine lv_iconst (pc := 1) (v := 0) hx hb dX10_proc_1 (by decide) ?_
  refine r_pI (pc := 2) CX P hF fl_X10_1 dX10_proc_2 (fun h1 H locs P hF => ?_)
  refine lv_aload_n (pc := 5) hx hb dX10_proc_5 rfl (lv_at hl 0 rfl) ?_
  refine lv_iload_n (pc := 6) hx hb dX10_proc_6 rfl (lv_at hl 1 rfl) ?_
  refine r_cVp (pc := 7) (As := [.int vp1]) (rest := []) CX P hl.1 hF kv_X10_117 (fun r q => c_X10_isProcess l G B _ _ _ _ q) rfl rfl ⟨Nat.le_of_ble_eq_true rfl, Nat.le_of_ble_eq_true rfl⟩ (Nat.le_of_ble_eq_true rfl) ⟨Nat.le_of_ble_eq_true rfl, Nat.le_of_ble_eq_true rfl⟩ dX10_proc_7 (fun v2 H locs P hF => ?_)
  refine lv_if_eq (pc := 10) (tgt := 25) hx hb dX10_proc_10 (by decide) (fun hc => ?_) (fun hc => ?_)
  · rw [if_pos hc] at hF
    refine lv_bipush (pc := 25) (v := (-99)) hx hb dX10_proc_25 (by decide) ?_
    cases hF
    exact hret _ _ _ _ P rfl dX10_proc_27
  · rw [if_neg hc] at hF
    refine lv_iload_n (pc := 13) hx hb dX10_proc_13 rfl (lv_at hl 2 rfl) ?_
    refine lv_i2l (pc := 14) hx hb dX10_proc_14 rfl ?_
    refine lv_lconst (pc := 15) (v := 0) hx hb dX10_proc_15 (by decide) ?_
    refine lv_ldc2 (pc := 16) (v := 8) hx hb hown (hts _ tw_1093) dX10_proc_16 ?_
    refine r_cSp (pc := 19) (As := [.long (Int32.toInt64 vp2), .long 0, .long 8]) (rest := []) CX P hl.1 hF ks_X10_85 (fun r q => c_X10_within l G B _ _ _ _ _ q) rfl rfl ⟨Nat.le_of_ble_eq_true rfl, Nat.le_of_ble_eq_true rfl⟩ (Nat.le_of_ble_eq_true rfl) ⟨Nat.le_of_ble_eq_true rfl, Nat.le_of_ble_eq_true rfl⟩ dX10_proc_19 (fun v3 H locs P hF => ?_)
    refine lv_if_ne (pc := 22) (tgt := 28) hx hb dX10_proc_22 (by decide) (fun hc => ?_) (fun hc => ?_)
    · rw [if_neg hc] at hF
      refine lv_iload_n (pc := 28) hx hb dX10_proc_28 rfl (lv_at hl 2 rfl) ?_
      refine lv_iconst (pc := 29) (v := 5) hx hb dX10_proc_29 (by decide) ?_
      refine lv_icmp_ne (pc := 30) (tgt := 41) hx hb dX10_proc_30 (by decide) (fun hc => ?_) (fun hc => ?_)
      · rw [if_neg hc] at hF
        refine lv_aload_n (pc := 41) hx hb dX10_proc_41 rfl (lv_at hl 0 rfl) ?_
        refine lv_iload_n (pc := 42) hx hb dX10_proc_42 rfl (lv_at hl 1 rfl) ?_
        refine lv_iload_n (pc := 43) hx hb dX10_proc_43 rfl (lv_at hl 2 rfl) ?_
        refine lv_iconst (pc := 44) (v := 5) hx hb dX10_proc_44 (by decide) ?_
        obtain ⟨j4, hA4, hK4⟩ := bd_some hF
        have hJ4 : ∀ (v5 : Int32) (H : Heap) (locs : List Loc) (ls : Array Slot), Pic G B h1 s H locs → lv_has ls 3 [] → v5 = j4 → W p l e (rmM 3 65 0 0) s m args below meth c H locs 0 0 Q (F0 m 55 ls [.int v5, .int vp1, .ref (B + a0)]) := by
          intro v5 H locs ls P hl ej
          subst ej
          have hF := hK4
          refine lv_iconst (pc := 55) (v := 0) hx hb dX10_proc_55 (by decide) ?_
          refine r_cVi (pc := 56) (As := [.int vp1, .int v5, .int 0]) (rest := []) CX P hl.1 hF kv_X10_114 (fun r h1 q => c_X10_ofProcess l G B _ _ _ _ _ _ _ q) rfl rfl ⟨Nat.le_of_ble_eq_true rfl, Nat.le_of_ble_eq_true rfl⟩ (Nat.le_of_ble_eq_true rfl) ⟨Nat.le_of_ble_eq_true rfl, Nat.le_of_ble_eq_true rfl⟩ dX10_proc_56 (fun v6 h7 H locs P hF => ?_)
          replace hF := un_i hF
          cases hF
          exact hret _ _ _ _ P rfl dX10_proc_59
        replace hF := hA4
        refine lv_icmp_ge (pc := 45) (tgt := 52) hx hb dX10_proc_45 (by decide) (fun hc => ?_) (fun hc => ?_)
        · rw [if_pos hc] at hF
          refine lv_iload_n (pc := 52) hx hb dX10_proc_52 rfl (lv_at hl 2 rfl) ?_
          refine lv_iconst (pc := 53) (v := 1) hx hb dX10_proc_53 (by decide) ?_
          refine lv_isub (pc := 54) hx hb dX10_proc_54 ?_
          exact hJ4 _ _ _ _ P (lv_sub hl [] rfl) (Option.some.inj hF)
        · rw [if_neg hc] at hF
          refine lv_iload_n (pc := 48) hx hb dX10_proc_48 rfl (lv_at hl 2 rfl) ?_
          refine lv_goto (pc := 49) (tgt := 55) hx hb dX10_proc_49 (by decide) ?_
          exact hJ4 _ _ _ _ P (lv_sub hl [] rfl) (Option.some.inj hF)
      · rw [if_pos hc] at hF
        refine lv_aload_n (pc := 33) hx hb dX10_proc_33 rfl (lv_at hl 0 rfl) ?_
        refine lv_iload_n (pc := 34) hx hb dX10_proc_34 rfl (lv_at hl 1 rfl) ?_
        refine r_cVi (pc := 35) (As := [.int vp1]) (rest := []) CX P hl.1 hF kv_X10_165 (fun r h1 q => c_X10_badnessOf l G B _ _ _ _ _ q) rfl rfl ⟨Nat.le_of_ble_eq_true rfl, Nat.le_of_ble_eq_true rfl⟩ (Nat.le_of_ble_eq_true rfl) ⟨Nat.le_of_ble_eq_true rfl, Nat.le_of_ble_eq_true rfl⟩ dX10_proc_35 (fun v8 h9 H locs P hF => ?_)
        replace hF := un_i hF
        refine lv_goto (pc := 38) (tgt := 59) hx hb dX10_proc_38 (by decide) ?_
        cases hF
        exact hret _ _ _ _ P rfl dX10_proc_59
    · rw [if_pos hc] at hF
      refine lv_bipush (pc := 25) (v := (-99)) hx hb dX10_proc_25 (by decide) ?_
      cases hF
      exact hret _ _ _ _ P rfl dX10_proc_27
def F_X10_isPair (h : Hp) (a0 : Nat) (vp1 : Int32) (vp2 : Int32) : Option (Int32 × Hp) :=
(cO h a0 10 (F_X10_isGroup h a0 vp1)).bind fun v1 =>
if v1 = 0 then (
some (0, h)) else (
(cO h a0 10 (F_X10_isGroup h a0 vp2)).bind fun v2 =>
if v2 = 0 then (
some (0, h)) else (
(cO h a0 10 (F_X10_isBelow h a0 vp1 vp2)).bind (un fun v3 h4 =>
if v3 = 0 then (
some (0, h4)) else (
some (1, h4)))))
set_option maxRecDepth 100000 in
set_option maxHeartbeats 4000000 in
theorem c_X10_isPair (l : Launch) (G : GG) (B : Nat) (h : Hp) (a0 : Nat) (vp1 : Int32) (vp2 : Int32) (r0 : Int32) (hr : Hp) (hF : F_X10_isPair h a0 vp1 vp2 = some (r0, hr)) : CI l yX10_isPair cX10_isPair 3 .boolean 3 67 0 0 G B h [.ref (B + a0), .int vp1, .int vp2] r0 hr := by
  refine ent_i rfl (Nat.le_of_ble_eq_true rfl) ?_
  intro p e s m args below meth c ls Q CX hnm hret P hl
  have CX : Cxt p m c cX10_isPair 3 s args RX10 G B := CX
  obtain ⟨⟨hx, hb, hml, hown, hts⟩, -, -⟩ := id CX
  replace hl : lv_has ls 3 [(0, .ref (B + a0)), (1, .int vp1), (2, .int vp2)] := hl
  generalize s.heap = H at P ⊢
  generalize ([] : List Loc) = locs at P ⊢
  unfold F_X10_isPair at hF
  refine lv_aload_n (pc := 0) hx hb dX10_isPair_0 rfl (lv_at hl 0 rfl) ?_
  refine lv_iload_n (pc := 1) hx hb dX10_isPair_1 rfl (lv_at hl 1 rfl) ?_
  refine r_cVp (pc := 2) (As := [.int vp1]) (rest := []) CX P hl.1 hF kv_X10_107 (fun r q => c_X10_isGroup l G B _ _ _ _ q) rfl rfl ⟨Nat.le_of_ble_eq_true rfl, Nat.le_of_ble_eq_true rfl⟩ (Nat.le_of_ble_eq_true rfl) ⟨Nat.le_of_ble_eq_true rfl, Nat.le_of_ble_eq_true rfl⟩ dX10_isPair_2 (fun v1 H locs P hF => ?_)
  refine lv_if_eq (pc := 5) (tgt := 29) hx hb dX10_isPair_5 (by decide) (fun hc => ?_) (fun hc => ?_)
  · rw [if_pos hc] at hF
    refine lv_iconst (pc := 29) (v := 0) hx hb dX10_isPair_29 (by decide) ?_
    cases hF
    exact hret _ _ _ _ P rfl dX10_isPair_30
  · rw [if_neg hc] at hF
    refine lv_aload_n (pc := 8) hx hb dX10_isPair_8 rfl (lv_at hl 0 rfl) ?_
    refine lv_iload_n (pc := 9) hx hb dX10_isPair_9 rfl (lv_at hl 2 rfl) ?_
    refine r_cVp (pc := 10) (As := [.int vp2]) (rest := []) CX P hl.1 hF kv_X10_107 (fun r q => c_X10_isGroup l G B _ _ _ _ q) rfl rfl ⟨Nat.le_of_ble_eq_true rfl, Nat.le_of_ble_eq_true rfl⟩ (Nat.le_of_ble_eq_true rfl) ⟨Nat.le_of_ble_eq_true rfl, Nat.le_of_ble_eq_true rfl⟩ dX10_isPair_10 (fun v2 H locs P hF => ?_)
    refine lv_if_eq (pc := 13) (tgt := 29) hx hb dX10_isPair_13 (by decide) (fun hc => ?_) (fun hc => ?_)
    · rw [if_pos hc] at hF
      refine lv_iconst (pc := 29) (v := 0) hx hb dX10_isPair_29 (by decide) ?_
      cases hF
      exact hret _ _ _ _ P rfl dX10_isPair_30
    · rw [if_neg hc] at hF
      refine lv_aload_n (pc := 16) hx hb dX10_isPair_16 rfl (lv_at hl 0 rfl) ?_
      refine lv_iload_n (pc := 17) hx hb dX10_isPair_17 rfl (lv_at hl 1 rfl) ?_
      refine lv_iload_n (pc := 18) hx hb dX10_isPair_18 rfl (lv_at hl 2 rfl) ?_
      refine r_cVi (pc := 19) (As := [.int vp1, .int vp2]) (rest := []) CX P hl.1 hF kv_X10_111 (fun r h1 q => c_X10_isBelow l G B _ _ _ _ _ _ q) rfl rfl ⟨Nat.le_of_ble_eq_true rfl, Nat.le_of_ble_eq_true rfl⟩ (Nat.le_of_ble_eq_true rfl) ⟨Nat.le_of_ble_eq_true rfl, Nat.le_of_ble_eq_true rfl⟩ dX10_isPair_19 (fun v3 h4 H locs P hF => ?_)
      replace hF := un_i hF
      refine lv_if_eq (pc := 22) (tgt := 29) hx hb dX10_isPair_22 (by decide) (fun hc => ?_) (fun hc => ?_)
      · rw [if_pos hc] at hF
        refine lv_iconst (pc := 29) (v := 0) hx hb dX10_isPair_29 (by decide) ?_
        cases hF
        exact hret _ _ _ _ P rfl dX10_isPair_30
      · rw [if_neg hc] at hF
        refine lv_iconst (pc := 25) (v := 1) hx hb dX10_isPair_25 (by decide) ?_
        refine lv_goto (pc := 26) (tgt := 30) hx hb dX10_isPair_26 (by decide) ?_
        cases hF
        exact hret _ _ _ _ P rfl dX10_isPair_30
def F_X10_share (h : Hp) (a0 : Nat) (vp1 : Int32) (vp2 : Int32) (vp3 : Int32) : Option (Int32 × Hp) :=
(pI h a0 10 0 0).bind fun h1 =>
(cO h1 a0 10 (F_X10_isPair h1 a0 vp1 vp2)).bind (un fun v2 h3 =>
if v2 = 0 then (
some ((-2), h3)) else (
if vp1 = vp2 then (
some ((-2), h3)) else (
(F_X10_within h3 (Int32.toInt64 vp3) 0 1).bind fun v4 =>
if v4 = 0 then (
some ((-3), h3)) else (
(cO h3 a0 10 (F_X10_laysShares h3 a0 vp2 vp3)).bind fun h5 =>
(gR h5 a0 10 16).bind fun a6 =>
(aI h5 a6 vp1).bind fun v7 =>
some (v7, h5)))))
set_option maxRecDepth 100000 in
set_option maxHeartbeats 4000000 in
theorem c_X10_share (l : Launch) (G : GG) (B : Nat) (h : Hp) (a0 : Nat) (vp1 : Int32) (vp2 : Int32) (vp3 : Int32) (r0 : Int32) (hr : Hp) (hF : F_X10_share h a0 vp1 vp2 vp3 = some (r0, hr)) : CI l yX10_share cX10_share 4 .int 5 113 0 0 G B h [.ref (B + a0), .int vp1, .int vp2, .int vp3] r0 hr := by
  refine ent_i rfl (Nat.le_of_ble_eq_true rfl) ?_
  intro p e s m args below meth c ls Q CX hnm hret P hl
  have CX : Cxt p m c cX10_share 4 s args RX10 G B := CX
  obtain ⟨⟨hx, hb, hml, hown, hts⟩, -, -⟩ := id CX
  replace hl : lv_has ls 4 [(0, .ref (B + a0)), (1, .int vp1), (2, .int vp2), (3, .int vp3)] := hl
  generalize s.heap = H at P ⊢
  generalize ([] : List Loc) = locs at P ⊢
  unfold F_X10_share at hF
  refine lv_aload_n (pc := 0) hx hb dX10_share_0 rfl (lv_at hl 0 rfl) ?_
  refine lv_iconst (pc := 1) (v := 0) hx hb dX10_share_1 (by decide) ?_
  refine r_pI (pc := 2) CX P hF fl_X10_1 dX10_share_2 (fun h1 H locs P hF => ?_)
  refine lv_aload_n (pc := 5) hx hb dX10_share_5 rfl (lv_at hl 0 rfl) ?_
  refine lv_iload_n (pc := 6) hx hb dX10_share_6 rfl (lv_at hl 1 rfl) ?_
  refine lv_iload_n (pc := 7) hx hb dX10_share_7 rfl (lv_at hl 2 rfl) ?_
  refine r_cVi (pc := 8) (As := [.int vp1, .int vp2]) (rest := []) CX P hl.1 hF kv_X10_315 (fun r h1 q => c_X10_isPair l G B _ _ _ _ _ _ q) rfl rfl ⟨Nat.le_of_ble_eq_true rfl, Nat.le_of_ble_eq_true rfl⟩ (Nat.le_of_ble_eq_true rfl) ⟨Nat.le_of_ble_eq_true rfl, Nat.le_of_ble_eq_true rfl⟩ dX10_share_8 (fun v2 h3 H locs P hF => ?_)
  replace hF := un_i hF
  refine lv_if_eq (pc := 11) (tgt := 19) hx hb dX10_share_11 (by decide) (fun hc => ?_) (fun hc => ?_)
  · rw [if_pos hc] at hF
    refine lv_bipush (pc := 19) (v := (-2)) hx hb dX10_share_19 (by decide) ?_
    cases hF
    exact hret _ _ _ _ P rfl dX10_share_21
  · rw [if_neg hc] at hF
    refine lv_iload_n (pc := 14) hx hb dX10_share_14 rfl (lv_at hl 1 rfl) ?_
    refine lv_iload_n (pc := 15) hx hb dX10_share_15 rfl (lv_at hl 2 rfl) ?_
    refine lv_icmp_ne (pc := 16) (tgt := 22) hx hb dX10_share_16 (by decide) (fun hc => ?_) (fun hc => ?_)
    · rw [if_neg hc] at hF
      refine lv_iload_n (pc := 22) hx hb dX10_share_22 rfl (lv_at hl 3 rfl) ?_
      refine lv_i2l (pc := 23) hx hb dX10_share_23 rfl ?_
      refine lv_lconst (pc := 24) (v := 0) hx hb dX10_share_24 (by decide) ?_
      refine lv_lconst (pc := 25) (v := 1) hx hb dX10_share_25 (by decide) ?_
      refine r_cSp (pc := 26) (As := [.long (Int32.toInt64 vp3), .long 0, .long 1]) (rest := []) CX P hl.1 hF ks_X10_85 (fun r q => c_X10_within l G B _ _ _ _ _ q) rfl rfl ⟨Nat.le_of_ble_eq_true rfl, Nat.le_of_ble_eq_true rfl⟩ (Nat.le_of_ble_eq_true rfl) ⟨Nat.le_of_ble_eq_true rfl, Nat.le_of_ble_eq_true rfl⟩ dX10_share_26 (fun v4 H locs P hF => ?_)
      refine lv_if_ne (pc := 29) (tgt := 35) hx hb dX10_share_29 (by decide) (fun hc => ?_) (fun hc => ?_)
      · rw [if_neg hc] at hF
        refine lv_aload_n (pc := 35) hx hb dX10_share_35 rfl (lv_at hl 0 rfl) ?_
        refine lv_iload_n (pc := 36) hx hb dX10_share_36 rfl (lv_at hl 2 rfl) ?_
        refine lv_iload_n (pc := 37) hx hb dX10_share_37 rfl (lv_at hl 3 rfl) ?_
        refine r_cVv (pc := 38) (As := [.int vp2, .int vp3]) (rest := []) CX P hl.1 hF kv_X10_146 (fun h1 q => c_X10_laysShares l G B _ _ _ _ _ q) rfl rfl ⟨Nat.le_of_ble_eq_true rfl, Nat.le_of_ble_eq_true rfl⟩ (Nat.le_of_ble_eq_true rfl) ⟨Nat.le_of_ble_eq_true rfl, Nat.le_of_ble_eq_true rfl⟩ dX10_share_38 (fun h5 H locs P hF => ?_)
        refine lv_aload_n (pc := 41) hx hb dX10_share_41 rfl (lv_at hl 0 rfl) ?_
        refine r_gR (pc := 42) CX P hF fl_X10_57 dX10_share_42 (fun a6 hF => ?_)
        refine lv_iload_n (pc := 45) hx hb dX10_share_45 rfl (lv_at hl 1 rfl) ?_
        refine r_aI (pc := 46) CX P hF dX10_share_46 (fun v7 hF => ?_)
        cases hF
        exact hret _ _ _ _ P rfl dX10_share_47
      · rw [if_pos hc] at hF
        refine lv_bipush (pc := 32) (v := (-3)) hx hb dX10_share_32 (by decide) ?_
        cases hF
        exact hret _ _ _ _ P rfl dX10_share_34
    · rw [if_pos hc] at hF
      refine lv_bipush (pc := 19) (v := (-2)) hx hb dX10_share_19 (by decide) ?_
      cases hF
      exact hret _ _ _ _ P rfl dX10_share_21
def F_X10_spare (h : Hp) (a0 : Nat) (vp1 : Int32) (vp2 : Int32) (vp3 : Int32) (vp4 : Int32) : Option (Int32 × Hp) :=
(pI h a0 10 0 0).bind fun h1 =>
(cO h1 a0 10 (F_X10_isPair h1 a0 vp1 vp2)).bind (un fun v2 h3 =>
if v2 = 0 then (
some ((-2), h3)) else (
(F_X10_within h3 (Int32.toInt64 vp3) 0 1).bind fun v4 =>
if v4 = 0 then (
some ((-3), h3)) else (
(F_X10_within h3 (Int32.toInt64 vp4) 0 1).bind fun v5 =>
if v5 = 0 then (
some ((-3), h3)) else (
(cO h3 a0 10 (F_X10_laysShares h3 a0 vp2 vp3)).bind fun h6 =>
(cO h6 a0 10 (F_X10_spareOf h6 a0 vp1 vp2 vp4)).bind (un fun v7 h8 =>
some (v7, h8))))))
set_option maxRecDepth 100000 in
set_option maxHeartbeats 4000000 in
theorem c_X10_spare (l : Launch) (G : GG) (B : Nat) (h : Hp) (a0 : Nat) (vp1 : Int32) (vp2 : Int32) (vp3 : Int32) (vp4 : Int32) (r0 : Int32) (hr : Hp) (hF : F_X10_spare h a0 vp1 vp2 vp3 vp4 = some (r0, hr)) : CI l yX10_spare cX10_spare 5 .int 5 113 0 0 G B h [.ref (B + a0), .int vp1, .int vp2, .int vp3, .int vp4] r0 hr := by
  refine ent_i rfl (Nat.le_of_ble_eq_true rfl) ?_
  intro p e s m args below meth c ls Q CX hnm hret P hl
  have CX : Cxt p m c cX10_spare 5 s args RX10 G B := CX
  obtain ⟨⟨hx, hb, hml, hown, hts⟩, -, -⟩ := id CX
  replace hl : lv_has ls 5 [(0, .ref (B + a0)), (1, .int vp1), (2, .int vp2), (3, .int vp3), (4, .int vp4)] := hl
  generalize s.heap = H at P ⊢
  generalize ([] : List Loc) = locs at P ⊢
  unfold F_X10_spare at hF
  refine lv_aload_n (pc := 0) hx hb dX10_spare_0 rfl (lv_at hl 0 rfl) ?_
  refine lv_iconst (pc := 1) (v := 0) hx hb dX10_spare_1 (by decide) ?_
  refine r_pI (pc := 2) CX P hF fl_X10_1 dX10_spare_2 (fun h1 H locs P hF => ?_)
  refine lv_aload_n (pc := 5) hx hb dX10_spare_5 rfl (lv_at hl 0 rfl) ?_
  refine lv_iload_n (pc := 6) hx hb dX10_spare_6 rfl (lv_at hl 1 rfl) ?_
  refine lv_iload_n (pc := 7) hx hb dX10_spare_7 rfl (lv_at hl 2 rfl) ?_
  refine r_cVi (pc := 8) (As := [.int vp1, .int vp2]) (rest := []) CX P hl.1 hF kv_X10_315 (fun r h1 q => c_X10_isPair l G B _ _ _ _ _ _ q) rfl rfl ⟨Nat.le_of_ble_eq_true rfl, Nat.le_of_ble_eq_true rfl⟩ (Nat.le_of_ble_eq_true rfl) ⟨Nat.le_of_ble_eq_true rfl, Nat.le_of_ble_eq_true rfl⟩ dX10_spare_8 (fun v2 h3 H locs P hF => ?_)
  replace hF := un_i hF
  refine lv_if_ne (pc := 11) (tgt := 17) hx hb dX10_spare_11 (by decide) (fun hc => ?_) (fun hc => ?_)
  · rw [if_neg hc] at hF
    refine lv_iload_n (pc := 17) hx hb dX10_spare_17 rfl (lv_at hl 3 rfl) ?_
    refine lv_i2l (pc := 18) hx hb dX10_spare_18 rfl ?_
    refine lv_lconst (pc := 19) (v := 0) hx hb dX10_spare_19 (by decide) ?_
    refine lv_lconst (pc := 20) (v := 1) hx hb dX10_spare_20 (by decide) ?_
    refine r_cSp (pc := 21) (As := [.long (Int32.toInt64 vp3), .long 0, .long 1]) (rest := []) CX P hl.1 hF ks_X10_85 (fun r q => c_X10_within l G B _ _ _ _ _ q) rfl rfl ⟨Nat.le_of_ble_eq_true rfl, Nat.le_of_ble_eq_true rfl⟩ (Nat.le_of_ble_eq_true rfl) ⟨Nat.le_of_ble_eq_true rfl, Nat.le_of_ble_eq_true rfl⟩ dX10_spare_21 (fun v4 H locs P hF => ?_)
    refine lv_if_eq (pc := 24) (tgt := 38) hx hb dX10_spare_24 (by decide) (fun hc => ?_) (fun hc => ?_)
    · rw [if_pos hc] at hF
      refine lv_bipush (pc := 38) (v := (-3)) hx hb dX10_spare_38 (by decide) ?_
      cases hF
      exact hret _ _ _ _ P rfl dX10_spare_40
    · rw [if_neg hc] at hF
      refine lv_iload (pc := 27) hx hb dX10_spare_27 (lv_at hl 4 rfl) ?_
      refine lv_i2l (pc := 29) hx hb dX10_spare_29 rfl ?_
      refine lv_lconst (pc := 30) (v := 0) hx hb dX10_spare_30 (by decide) ?_
      refine lv_lconst (pc := 31) (v := 1) hx hb dX10_spare_31 (by decide) ?_
      refine r_cSp (pc := 32) (As := [.long (Int32.toInt64 vp4), .long 0, .long 1]) (rest := []) CX P hl.1 hF ks_X10_85 (fun r q => c_X10_within l G B _ _ _ _ _ q) rfl rfl ⟨Nat.le_of_ble_eq_true rfl, Nat.le_of_ble_eq_true rfl⟩ (Nat.le_of_ble_eq_true rfl) ⟨Nat.le_of_ble_eq_true rfl, Nat.le_of_ble_eq_true rfl⟩ dX10_spare_32 (fun v5 H locs P hF => ?_)
      refine lv_if_ne (pc := 35) (tgt := 41) hx hb dX10_spare_35 (by decide) (fun hc => ?_) (fun hc => ?_)
      · rw [if_neg hc] at hF
        refine lv_aload_n (pc := 41) hx hb dX10_spare_41 rfl (lv_at hl 0 rfl) ?_
        refine lv_iload_n (pc := 42) hx hb dX10_spare_42 rfl (lv_at hl 2 rfl) ?_
        refine lv_iload_n (pc := 43) hx hb dX10_spare_43 rfl (lv_at hl 3 rfl) ?_
        refine r_cVv (pc := 44) (As := [.int vp2, .int vp3]) (rest := []) CX P hl.1 hF kv_X10_146 (fun h1 q => c_X10_laysShares l G B _ _ _ _ _ q) rfl rfl ⟨Nat.le_of_ble_eq_true rfl, Nat.le_of_ble_eq_true rfl⟩ (Nat.le_of_ble_eq_true rfl) ⟨Nat.le_of_ble_eq_true rfl, Nat.le_of_ble_eq_true rfl⟩ dX10_spare_44 (fun h6 H locs P hF => ?_)
        refine lv_aload_n (pc := 47) hx hb dX10_spare_47 rfl (lv_at hl 0 rfl) ?_
        refine lv_iload_n (pc := 48) hx hb dX10_spare_48 rfl (lv_at hl 1 rfl) ?_
        refine lv_iload_n (pc := 49) hx hb dX10_spare_49 rfl (lv_at hl 2 rfl) ?_
        refine lv_iload (pc := 50) hx hb dX10_spare_50 (lv_at hl 4 rfl) ?_
        refine r_cVi (pc := 52) (As := [.int vp1, .int vp2, .int vp4]) (rest := []) CX P hl.1 hF kv_X10_149 (fun r h1 q => c_X10_spareOf l G B _ _ _ _ _ _ _ q) rfl rfl ⟨Nat.le_of_ble_eq_true rfl, Nat.le_of_ble_eq_true rfl⟩ (Nat.le_of_ble_eq_true rfl) ⟨Nat.le_of_ble_eq_true rfl, Nat.le_of_ble_eq_true rfl⟩ dX10_spare_52 (fun v7 h8 H locs P hF => ?_)
        replace hF := un_i hF
        cases hF
        exact hret _ _ _ _ P rfl dX10_spare_55
      · rw [if_pos hc] at hF
        refine lv_bipush (pc := 38) (v := (-3)) hx hb dX10_spare_38 (by decide) ?_
        cases hF
        exact hret _ _ _ _ P rfl dX10_spare_40
  · rw [if_pos hc] at hF
    refine lv_bipush (pc := 14) (v := (-2)) hx hb dX10_spare_14 (by decide) ?_
    cases hF
    exact hret _ _ _ _ P rfl dX10_spare_16
def F_X10_next (h : Hp) (a0 : Nat) (vp1 : Int32) (vp2 : Int32) (vp3 : Int32) : Option (Int32 × Hp) :=
(pI h a0 10 0 0).bind fun h1 =>
(cO h1 a0 10 (F_X10_isGroup h1 a0 vp1)).bind fun v2 =>
if v2 = 0 then (
some ((-2), h1)) else (
(F_X10_within h1 (Int32.toInt64 vp2) 0 1).bind fun v3 =>
if v3 = 0 then (
some ((-3), h1)) else (
(F_X10_within h1 (Int32.toInt64 vp3) 0 1).bind fun v4 =>
if v4 = 0 then (
some ((-3), h1)) else (
(cO h1 a0 10 (F_X10_nextOf h1 a0 vp1 vp2 vp3)).bind (un fun v5 h6 =>
some (v5, h6)))))
set_option maxRecDepth 100000 in
set_option maxHeartbeats 4000000 in
theorem c_X10_next (l : Launch) (G : GG) (B : Nat) (h : Hp) (a0 : Nat) (vp1 : Int32) (vp2 : Int32) (vp3 : Int32) (r0 : Int32) (hr : Hp) (hF : F_X10_next h a0 vp1 vp2 vp3 = some (r0, hr)) : CI l yX10_next cX10_next 4 .int 6 139 0 0 G B h [.ref (B + a0), .int vp1, .int vp2, .int vp3] r0 hr := by
  refine ent_i rfl (Nat.le_of_ble_eq_true rfl) ?_
  intro p e s m args below meth c ls Q CX hnm hret P hl
  have CX : Cxt p m c cX10_next 4 s args RX10 G B := CX
  obtain ⟨⟨hx, hb, hml, hown, hts⟩, -, -⟩ := id CX
  replace hl : lv_has ls 4 [(0, .ref (B + a0)), (1, .int vp1), (2, .int vp2), (3, .int vp3)] := hl
  generalize s.heap = H at P ⊢
  generalize ([] : List Loc) = locs at P ⊢
  unfold F_X10_next at hF
  refine lv_aload_n (pc := 0) hx hb dX10_next_0 rfl (lv_at hl 0 rfl) ?_
  refine lv_iconst (pc := 1) (v := 0) hx hb dX10_next_1 (by decide) ?_
  refine r_pI (pc := 2) CX P hF fl_X10_1 dX10_next_2 (fun h1 H locs P hF => ?_)
  refine lv_aload_n (pc := 5) hx hb dX10_next_5 rfl (lv_at hl 0 rfl) ?_
  refine lv_iload_n (pc := 6) hx hb dX10_next_6 rfl (lv_at hl 1 rfl) ?_
  refine r_cVp (pc := 7) (As := [.int vp1]) (rest := []) CX P hl.1 hF kv_X10_107 (fun r q => c_X10_isGroup l G B _ _ _ _ q) rfl rfl ⟨Nat.le_of_ble_eq_true rfl, Nat.le_of_ble_eq_true rfl⟩ (Nat.le_of_ble_eq_true rfl) ⟨Nat.le_of_ble_eq_true rfl, Nat.le_of_ble_eq_true rfl⟩ dX10_next_7 (fun v2 H locs P hF => ?_)
  refine lv_if_ne (pc := 10) (tgt := 16) hx hb dX10_next_10 (by decide) (fun hc => ?_) (fun hc => ?_)
  · rw [if_neg hc] at hF
    refine lv_iload_n (pc := 16) hx hb dX10_next_16 rfl (lv_at hl 2 rfl) ?_
    refine lv_i2l (pc := 17) hx hb dX10_next_17 rfl ?_
    refine lv_lconst (pc := 18) (v := 0) hx hb dX10_next_18 (by decide) ?_
    refine lv_lconst (pc := 19) (v := 1) hx hb dX10_next_19 (by decide) ?_
    refine r_cSp (pc := 20) (As := [.long (Int32.toInt64 vp2), .long 0, .long 1]) (rest := []) CX P hl.1 hF ks_X10_85 (fun r q => c_X10_within l G B _ _ _ _ _ q) rfl rfl ⟨Nat.le_of_ble_eq_true rfl, Nat.le_of_ble_eq_true rfl⟩ (Nat.le_of_ble_eq_true rfl) ⟨Nat.le_of_ble_eq_true rfl, Nat.le_of_ble_eq_true rfl⟩ dX10_next_20 (fun v3 H locs P hF => ?_)
    refine lv_if_eq (pc := 23) (tgt := 46) hx hb dX10_next_23 (by decide) (fun hc => ?_) (fun hc => ?_)
    · rw [if_pos hc] at hF
      refine lv_bipush (pc := 46) (v := (-3)) hx hb dX10_next_46 (by decide) ?_
      cases hF
      exact hret _ _ _ _ P rfl dX10_next_48
    · rw [if_neg hc] at hF
      refine lv_iload_n (pc := 26) hx hb dX10_next_26 rfl (lv_at hl 3 rfl) ?_
      refine lv_i2l (pc := 27) hx hb dX10_next_27 rfl ?_
      refine lv_lconst (pc := 28) (v := 0) hx hb dX10_next_28 (by decide) ?_
      refine lv_lconst (pc := 29) (v := 1) hx hb dX10_next_29 (by decide) ?_
      refine r_cSp (pc := 30) (As := [.long (Int32.toInt64 vp3), .long 0, .long 1]) (rest := []) CX P hl.1 hF ks_X10_85 (fun r q => c_X10_within l G B _ _ _ _ _ q) rfl rfl ⟨Nat.le_of_ble_eq_true rfl, Nat.le_of_ble_eq_true rfl⟩ (Nat.le_of_ble_eq_true rfl) ⟨Nat.le_of_ble_eq_true rfl, Nat.le_of_ble_eq_true rfl⟩ dX10_next_30 (fun v4 H locs P hF => ?_)
      refine lv_if_eq (pc := 33) (tgt := 46) hx hb dX10_next_33 (by decide) (fun hc => ?_) (fun hc => ?_)
      · rw [if_pos hc] at hF
        refine lv_bipush (pc := 46) (v := (-3)) hx hb dX10_next_46 (by decide) ?_
        cases hF
        exact hret _ _ _ _ P rfl dX10_next_48
      · rw [if_neg hc] at hF
        refine lv_aload_n (pc := 36) hx hb dX10_next_36 rfl (lv_at hl 0 rfl) ?_
        refine lv_iload_n (pc := 37) hx hb dX10_next_37 rfl (lv_at hl 1 rfl) ?_
        refine lv_iload_n (pc := 38) hx hb dX10_next_38 rfl (lv_at hl 2 rfl) ?_
        refine lv_iload_n (pc := 39) hx hb dX10_next_39 rfl (lv_at hl 3 rfl) ?_
        refine r_cVi (pc := 40) (As := [.int vp1, .int vp2, .int vp3]) (rest := []) CX P hl.1 hF kv_X10_159 (fun r h1 q => c_X10_nextOf l G B _ _ _ _ _ _ _ q) rfl rfl ⟨Nat.le_of_ble_eq_true rfl, Nat.le_of_ble_eq_true rfl⟩ (Nat.le_of_ble_eq_true rfl) ⟨Nat.le_of_ble_eq_true rfl, Nat.le_of_ble_eq_true rfl⟩ dX10_next_40 (fun v5 h6 H locs P hF => ?_)
        replace hF := un_i hF
        refine lv_goto (pc := 43) (tgt := 48) hx hb dX10_next_43 (by decide) ?_
        cases hF
        exact hret _ _ _ _ P rfl dX10_next_48
  · rw [if_pos hc] at hF
    refine lv_bipush (pc := 13) (v := (-2)) hx hb dX10_next_13 (by decide) ?_
    cases hF
    exact hret _ _ _ _ P rfl dX10_next_15
def F_X10_below (h : Hp) (a0 : Nat) (vp1 : Int32) : Option (Int32 × Hp) :=
(pI h a0 10 0 0).bind fun h1 =>
(cO h1 a0 10 (F_X10_isGroup h1 a0 vp1)).bind fun v2 =>
if v2 = 0 then (
some ((-2), h1)) else (
(cO h1 a0 10 (F_X10_groupsBelow h1 a0 vp1)).bind (un fun v3 h4 =>
some (v3, h4)))
set_option maxRecDepth 100000 in
set_option maxHeartbeats 4000000 in
theorem c_X10_below (l : Launch) (G : GG) (B : Nat) (h : Hp) (a0 : Nat) (vp1 : Int32) (r0 : Int32) (hr : Hp) (hF : F_X10_below h a0 vp1 = some (r0, hr)) : CI l yX10_below cX10_below 2 .int 4 90 0 0 G B h [.ref (B + a0), .int vp1] r0 hr := by
  refine ent_i rfl (Nat.le_of_ble_eq_true rfl) ?_
  intro p e s m args below meth c ls Q CX hnm hret P hl
  have CX : Cxt p m c cX10_below 2 s args RX10 G B := CX
  obtain ⟨⟨hx, hb, hml, hown, hts⟩, -, -⟩ := id CX
  replace hl : lv_has ls 2 [(0, .ref (B + a0)), (1, .int vp1)] := hl
  generalize s.heap = H at P ⊢
  generalize ([] : List Loc) = locs at P ⊢
  unfold F_X10_below at hF
  refine lv_aload_n (pc := 0) hx hb dX10_below_0 rfl (lv_at hl 0 rfl) ?_
  refine lv_iconst (pc := 1) (v := 0) hx hb dX10_below_1 (by decide) ?_
  refine r_pI (pc := 2) CX P hF fl_X10_1 dX10_below_2 (fun h1 H locs P hF => ?_)
  refine lv_aload_n (pc := 5) hx hb dX10_below_5 rfl (lv_at hl 0 rfl) ?_
  refine lv_iload_n (pc := 6) hx hb dX10_below_6 rfl (lv_at hl 1 rfl) ?_
  refine r_cVp (pc := 7) (As := [.int vp1]) (rest := []) CX P hl.1 hF kv_X10_107 (fun r q => c_X10_isGroup l G B _ _ _ _ q) rfl rfl ⟨Nat.le_of_ble_eq_true rfl, Nat.le_of_ble_eq_true rfl⟩ (Nat.le_of_ble_eq_true rfl) ⟨Nat.le_of_ble_eq_true rfl, Nat.le_of_ble_eq_true rfl⟩ dX10_below_7 (fun v2 H locs P hF => ?_)
  refine lv_if_eq (pc := 10) (tgt := 21) hx hb dX10_below_10 (by decide) (fun hc => ?_) (fun hc => ?_)
  · rw [if_pos hc] at hF
    refine lv_bipush (pc := 21) (v := (-2)) hx hb dX10_below_21 (by decide) ?_
    cases hF
    exact hret _ _ _ _ P rfl dX10_below_23
  · rw [if_neg hc] at hF
    refine lv_aload_n (pc := 13) hx hb dX10_below_13 rfl (lv_at hl 0 rfl) ?_
    refine lv_iload_n (pc := 14) hx hb dX10_below_14 rfl (lv_at hl 1 rfl) ?_
    refine r_cVi (pc := 15) (As := [.int vp1]) (rest := []) CX P hl.1 hF kv_X10_318 (fun r h1 q => c_X10_groupsBelow l G B _ _ _ _ _ q) rfl rfl ⟨Nat.le_of_ble_eq_true rfl, Nat.le_of_ble_eq_true rfl⟩ (Nat.le_of_ble_eq_true rfl) ⟨Nat.le_of_ble_eq_true rfl, Nat.le_of_ble_eq_true rfl⟩ dX10_below_15 (fun v3 h4 H locs P hF => ?_)
    replace hF := un_i hF
    refine lv_goto (pc := 18) (tgt := 23) hx hb dX10_below_18 (by decide) ?_
    cases hF
    exact hret _ _ _ _ P rfl dX10_below_23
def F_X10_procs (h : Hp) (a0 : Nat) (vp1 : Int32) : Option (Int32 × Hp) :=
(pI h a0 10 0 0).bind fun h1 =>
(cO h1 a0 10 (F_X10_isGroup h1 a0 vp1)).bind fun v2 =>
if v2 = 0 then (
some ((-2), h1)) else (
(cO h1 a0 10 (F_X10_processesBelow h1 a0 vp1)).bind (un fun v3 h4 =>
some (v3, h4)))
set_option maxRecDepth 100000 in
set_option maxHeartbeats 4000000 in
theorem c_X10_procs (l : Launch) (G : GG) (B : Nat) (h : Hp) (a0 : Nat) (vp1 : Int32) (r0 : Int32) (hr : Hp) (hF : F_X10_procs h a0 vp1 = some (r0, hr)) : CI l yX10_procs cX10_procs 2 .int 4 90 0 0 G B h [.ref (B + a0), .int vp1] r0 hr := by
  refine ent_i rfl (Nat.le_of_ble_eq_true rfl) ?_
  intro p e s m args below meth c ls Q CX hnm hret P hl
  have CX : Cxt p m c cX10_procs 2 s args RX10 G B := CX
  obtain ⟨⟨hx, hb, hml, hown, hts⟩, -, -⟩ := id CX
  replace hl : lv_has ls 2 [(0, .ref (B + a0)), (1, .int vp1)] := hl
  generalize s.heap = H at P ⊢
  generalize ([] : List Loc) = locs at P ⊢
  unfold F_X10_procs at hF
  refine lv_aload_n (pc := 0) hx hb dX10_procs_0 rfl (lv_at hl 0 rfl) ?_
  refine lv_iconst (pc := 1) (v := 0) hx hb dX10_procs_1 (by decide) ?_
  refine r_pI (pc := 2) CX P hF fl_X10_1 dX10_procs_2 (fun h1 H locs P hF => ?_)
  refine lv_aload_n (pc := 5) hx hb dX10_procs_5 rfl (lv_at hl 0 rfl) ?_
  refine lv_iload_n (pc := 6) hx hb dX10_procs_6 rfl (lv_at hl 1 rfl) ?_
  refine r_cVp (pc := 7) (As := [.int vp1]) (rest := []) CX P hl.1 hF kv_X10_107 (fun r q => c_X10_isGroup l G B _ _ _ _ q) rfl rfl ⟨Nat.le_of_ble_eq_true rfl, Nat.le_of_ble_eq_true rfl⟩ (Nat.le_of_ble_eq_true rfl) ⟨Nat.le_of_ble_eq_true rfl, Nat.le_of_ble_eq_true rfl⟩ dX10_procs_7 (fun v2 H locs P hF => ?_)
  refine lv_if_eq (pc := 10) (tgt := 21) hx hb dX10_procs_10 (by decide) (fun hc => ?_) (fun hc => ?_)
  · rw [if_pos hc] at hF
    refine lv_bipush (pc := 21) (v := (-2)) hx hb dX10_procs_21 (by decide) ?_
    cases hF
    exact hret _ _ _ _ P rfl dX10_procs_23
  · rw [if_neg hc] at hF
    refine lv_aload_n (pc := 13) hx hb dX10_procs_13 rfl (lv_at hl 0 rfl) ?_
    refine lv_iload_n (pc := 14) hx hb dX10_procs_14 rfl (lv_at hl 1 rfl) ?_
    refine r_cVi (pc := 15) (As := [.int vp1]) (rest := []) CX P hl.1 hF kv_X10_171 (fun r h1 q => c_X10_processesBelow l G B _ _ _ _ _ q) rfl rfl ⟨Nat.le_of_ble_eq_true rfl, Nat.le_of_ble_eq_true rfl⟩ (Nat.le_of_ble_eq_true rfl) ⟨Nat.le_of_ble_eq_true rfl, Nat.le_of_ble_eq_true rfl⟩ dX10_procs_15 (fun v3 h4 H locs P hF => ?_)
    replace hF := un_i hF
    refine lv_goto (pc := 18) (tgt := 23) hx hb dX10_procs_18 (by decide) ?_
    cases hF
    exact hret _ _ _ _ P rfl dX10_procs_23
def F_X10_common_L26 (a5 : Nat) (v6 : Int32) (v7 : Int32) (h8 : Hp) : Option ((Int32 × Hp) ⊕ (Int32 × Hp)) :=
(cO h8 a5 10 (F_X10_isBelow h8 a5 v6 v7)).bind (un fun v9 h10 =>
if v9 = 0 then (
(cO h10 a5 10 (F_X10_parentOf h10 a5 v7)).bind (un fun v11 h12 =>
some (.inl (v11, h12)))) else (
some (.inr (v7, h10))))
def F_X10_common (h : Hp) (a0 : Nat) (vp1 : Int32) (vp2 : Int32) : Option (Int32 × Hp) :=
(pI h a0 10 0 0).bind fun h1 =>
(cO h1 a0 10 (F_X10_isGroup h1 a0 vp1)).bind fun v2 =>
if v2 = 0 then (
some ((-2), h1)) else (
(cO h1 a0 10 (F_X10_isGroup h1 a0 vp2)).bind fun v3 =>
if v3 = 0 then (
some ((-2), h1)) else (
(loopF (fun x => F_X10_common_L26 a0 vp2 x.1 x.2) 6000 (vp1, h1)).bind fun q4 =>
bl q4.1 fun v13 =>
bl q4.2 fun h14 =>
some (v13, h14)))
set_option maxRecDepth 100000 in
set_option maxHeartbeats 4000000 in
theorem c_X10_common (l : Launch) (G : GG) (B : Nat) (h : Hp) (a0 : Nat) (vp1 : Int32) (vp2 : Int32) (r0 : Int32) (hr : Hp) (hF : F_X10_common h a0 vp1 vp2 = some (r0, hr)) : CI l yX10_common cX10_common 4 .int 3 67 0 0 G B h [.ref (B + a0), .int vp1, .int vp2] r0 hr := by
  refine ent_i rfl (Nat.le_of_ble_eq_true rfl) ?_
  intro p e s m args below meth c ls Q CX hnm hret P hl
  have CX : Cxt p m c cX10_common 4 s args RX10 G B := CX
  obtain ⟨⟨hx, hb, hml, hown, hts⟩, -, -⟩ := id CX
  replace hl : lv_has ls 4 [(0, .ref (B + a0)), (1, .int vp1), (2, .int vp2)] := hl
  generalize s.heap = H at P ⊢
  generalize ([] : List Loc) = locs at P ⊢
  unfold F_X10_common at hF
  refine lv_aload_n (pc := 0) hx hb dX10_common_0 rfl (lv_at hl 0 rfl) ?_
  refine lv_iconst (pc := 1) (v := 0) hx hb dX10_common_1 (by decide) ?_
  refine r_pI (pc := 2) CX P hF fl_X10_1 dX10_common_2 (fun h1 H locs P hF => ?_)
  refine lv_aload_n (pc := 5) hx hb dX10_common_5 rfl (lv_at hl 0 rfl) ?_
  refine lv_iload_n (pc := 6) hx hb dX10_common_6 rfl (lv_at hl 1 rfl) ?_
  refine r_cVp (pc := 7) (As := [.int vp1]) (rest := []) CX P hl.1 hF kv_X10_107 (fun r q => c_X10_isGroup l G B _ _ _ _ q) rfl rfl ⟨Nat.le_of_ble_eq_true rfl, Nat.le_of_ble_eq_true rfl⟩ (Nat.le_of_ble_eq_true rfl) ⟨Nat.le_of_ble_eq_true rfl, Nat.le_of_ble_eq_true rfl⟩ dX10_common_7 (fun v2 H locs P hF => ?_)
  refine lv_if_eq (pc := 10) (tgt := 21) hx hb dX10_common_10 (by decide) (fun hc => ?_) (fun hc => ?_)
  · rw [if_pos hc] at hF
    refine lv_bipush (pc := 21) (v := (-2)) hx hb dX10_common_21 (by decide) ?_
    cases hF
    exact hret _ _ _ _ P rfl dX10_common_23
  · rw [if_neg hc] at hF
    refine lv_aload_n (pc := 13) hx hb dX10_common_13 rfl (lv_at hl 0 rfl) ?_
    refine lv_iload_n (pc := 14) hx hb dX10_common_14 rfl (lv_at hl 2 rfl) ?_
    refine r_cVp (pc := 15) (As := [.int vp2]) (rest := []) CX P hl.1 hF kv_X10_107 (fun r q => c_X10_isGroup l G B _ _ _ _ q) rfl rfl ⟨Nat.le_of_ble_eq_true rfl, Nat.le_of_ble_eq_true rfl⟩ (Nat.le_of_ble_eq_true rfl) ⟨Nat.le_of_ble_eq_true rfl, Nat.le_of_ble_eq_true rfl⟩ dX10_common_15 (fun v3 H locs P hF => ?_)
    refine lv_if_ne (pc := 18) (tgt := 24) hx hb dX10_common_18 (by decide) (fun hc => ?_) (fun hc => ?_)
    · rw [if_neg hc] at hF
      refine lv_iload_n (pc := 24) hx hb dX10_common_24 rfl (lv_at hl 1 rfl) ?_
      refine lv_istore_n (pc := 25) hx hb dX10_common_25 rfl hl (by decide) rfl (fun ls hl => ?_)
      replace hl : lv_has ls 4 [(3, .int vp1), (0, .ref (B + a0)), (1, .int vp1), (2, .int vp2)] := hl
      obtain ⟨r4, hLp4, hK4⟩ := bd_some hF
      have hX4 : ∀ (v13 : Int32) (h14 : Hp) (H : Heap) (locs : List Loc) (ls : Array Slot), Pic G B h14 s H locs → lv_has ls 4 [(3, .int v13)] → (v13, h14) = r4 → W p l e (rmM 3 67 0 0) s m args below meth c H locs 0 0 Q (F0 m 44 ls []) := by
        intro v13 h14 H locs ls P hl er
        subst er
        have hF := hK4
        replace hF := bl_i hF
        replace hF := bl_i hF
        try dsimp only at hF
        refine lv_iload_n (pc := 44) hx hb dX10_common_44 rfl (lv_at hl 0 rfl) ?_
        cases hF
        exact hret _ _ _ _ P rfl dX10_common_45
      have hL4 : ∀ (n : Nat) (v7 : Int32) (h8 : Hp) (H : Heap) (locs : List Loc) (ls : Array Slot), Pic G B h8 s H locs → lv_has ls 4 [(0, .ref (B + a0)), (2, .int vp2), (3, .int v7)] → loopF (fun x => F_X10_common_L26 a0 vp2 x.1 x.2) n (v7, h8) = some r4 → W p l e (rmM 3 67 0 0) s m args below meth c H locs 0 0 Q (F0 m 26 ls []) := by
        intro n
        induction n with
        | zero => intro v7 h8 H locs ls P hl hq; cases hq
        | succ n ih =>
          intro v7 h8 H locs ls P hl hq
          obtain ⟨z4, hS4, hI4, hR4⟩ := loop_some hq
          have hF : F_X10_common_L26 a0 vp2 v7 h8 = some z4 := hS4
          unfold F_X10_common_L26 at hF
          refine lv_aload_n (pc := 26) hx hb dX10_common_26 rfl (lv_at hl 0 rfl) ?_
          refine lv_iload_n (pc := 27) hx hb dX10_common_27 rfl (lv_at hl 1 rfl) ?_
          refine lv_iload_n (pc := 28) hx hb dX10_common_28 rfl (lv_at hl 2 rfl) ?_
          refine r_cVi (pc := 29) (As := [.int vp2, .int v7]) (rest := []) CX P hl.1 hF kv_X10_111 (fun r h1 q => c_X10_isBelow l G B _ _ _ _ _ _ q) rfl rfl ⟨Nat.le_of_ble_eq_true rfl, Nat.le_of_ble_eq_true rfl⟩ (Nat.le_of_ble_eq_true rfl) ⟨Nat.le_of_ble_eq_true rfl, Nat.le_of_ble_eq_true rfl⟩ dX10_common_29 (fun v9 h10 H locs P hF => ?_)
          replace hF := un_i hF
          refine lv_if_ne (pc := 32) (tgt := 44) hx hb dX10_common_32 (by decide) (fun hc => ?_) (fun hc => ?_)
          · rw [if_neg hc] at hF
            exact hX4 _ _ _ _ _ P (lv_sub hl [2] rfl) (hR4 _ (Option.some.inj hF).symm)
          · rw [if_pos hc] at hF
            refine lv_aload_n (pc := 35) hx hb dX10_common_35 rfl (lv_at hl 0 rfl) ?_
            refine lv_iload_n (pc := 36) hx hb dX10_common_36 rfl (lv_at hl 2 rfl) ?_
            refine r_cVi (pc := 37) (As := [.int v7]) (rest := []) CX P hl.1 hF kv_X10_103 (fun r h1 q => c_X10_parentOf l G B _ _ _ _ _ q) rfl rfl ⟨Nat.le_of_ble_eq_true rfl, Nat.le_of_ble_eq_true rfl⟩ (Nat.le_of_ble_eq_true rfl) ⟨Nat.le_of_ble_eq_true rfl, Nat.le_of_ble_eq_true rfl⟩ dX10_common_37 (fun v11 h12 H locs P hF => ?_)
            replace hF := un_i hF
            refine lv_istore_n (pc := 40) hx hb dX10_common_40 rfl hl (by decide) rfl (fun ls hl => ?_)
            replace hl : lv_has ls 4 [(3, .int v11), (0, .ref (B + a0)), (2, .int vp2)] := hl
            refine lv_goto (pc := 41) (tgt := 26) hx hb dX10_common_41 (by decide) ?_
            exact ih _ _ _ _ _ P (lv_sub hl [1, 2, 0] rfl) (hI4 _ (Option.some.inj hF).symm)
      exact hL4 _ _ _ _ _ _ P (lv_sub hl [1, 3, 0] rfl) hLp4
    · rw [if_pos hc] at hF
      refine lv_bipush (pc := 21) (v := (-2)) hx hb dX10_common_21 (by decide) ?_
      cases hF
      exact hret _ _ _ _ P rfl dX10_common_23
def F_X10_pressure (h : Hp) (a0 : Nat) (vp1 : Int32) (vp2 : Int32) (vp3 : Int32) : Option (Int32 × Hp) :=
(pI h a0 10 0 0).bind fun h1 =>
(cO h1 a0 10 (F_X10_isGroup h1 a0 vp1)).bind fun v2 =>
if v2 = 0 then (
some ((-2), h1)) else (
(F_X10_within h1 (Int32.toInt64 vp2) 0 2).bind fun v3 =>
if v3 = 0 then (
some ((-3), h1)) else (
(F_X10_within h1 (Int32.toInt64 vp3) 1 40).bind fun v4 =>
if v4 = 0 then (
some ((-3), h1)) else (
(cO h1 a0 10 (F_X10_pressureOf h1 a0 vp1 vp2 vp3)).bind (un fun v5 h6 =>
some (v5, h6)))))
set_option maxRecDepth 100000 in
set_option maxHeartbeats 4000000 in
theorem c_X10_pressure (l : Launch) (G : GG) (B : Nat) (h : Hp) (a0 : Nat) (vp1 : Int32) (vp2 : Int32) (vp3 : Int32) (r0 : Int32) (hr : Hp) (hF : F_X10_pressure h a0 vp1 vp2 vp3 = some (r0, hr)) : CI l yX10_pressure cX10_pressure 4 .int 3 72 0 0 G B h [.ref (B + a0), .int vp1, .int vp2, .int vp3] r0 hr := by
  refine ent_i rfl (Nat.le_of_ble_eq_true rfl) ?_
  intro p e s m args below meth c ls Q CX hnm hret P hl
  have CX : Cxt p m c cX10_pressure 4 s args RX10 G B := CX
  obtain ⟨⟨hx, hb, hml, hown, hts⟩, -, -⟩ := id CX
  replace hl : lv_has ls 4 [(0, .ref (B + a0)), (1, .int vp1), (2, .int vp2), (3, .int vp3)] := hl
  generalize s.heap = H at P ⊢
  generalize ([] : List Loc) = locs at P ⊢
  unfold F_X10_pressure at hF
  refine lv_aload_n (pc := 0) hx hb dX10_pressure_0 rfl (lv_at hl 0 rfl) ?_
  refine lv_iconst (pc := 1) (v := 0) hx hb dX10_pressure_1 (by decide) ?_
  refine r_pI (pc := 2) CX P hF fl_X10_1 dX10_pressure_2 (fun h1 H locs P hF => ?_)
  refine lv_aload_n (pc := 5) hx hb dX10_pressure_5 rfl (lv_at hl 0 rfl) ?_
  refine lv_iload_n (pc := 6) hx hb dX10_pressure_6 rfl (lv_at hl 1 rfl) ?_
  refine r_cVp (pc := 7) (As := [.int vp1]) (rest := []) CX P hl.1 hF kv_X10_107 (fun r q => c_X10_isGroup l G B _ _ _ _ q) rfl rfl ⟨Nat.le_of_ble_eq_true rfl, Nat.le_of_ble_eq_true rfl⟩ (Nat.le_of_ble_eq_true rfl) ⟨Nat.le_of_ble_eq_true rfl, Nat.le_of_ble_eq_true rfl⟩ dX10_pressure_7 (fun v2 H locs P hF => ?_)
  refine lv_if_ne (pc := 10) (tgt := 16) hx hb dX10_pressure_10 (by decide) (fun hc => ?_) (fun hc => ?_)
  · rw [if_neg hc] at hF
    refine lv_iload_n (pc := 16) hx hb dX10_pressure_16 rfl (lv_at hl 2 rfl) ?_
    refine lv_i2l (pc := 17) hx hb dX10_pressure_17 rfl ?_
    refine lv_lconst (pc := 18) (v := 0) hx hb dX10_pressure_18 (by decide) ?_
    refine lv_ldc2 (pc := 19) (v := 2) hx hb hown (hts _ tw_1250) dX10_pressure_19 ?_
    refine r_cSp (pc := 22) (As := [.long (Int32.toInt64 vp2), .long 0, .long 2]) (rest := []) CX P hl.1 hF ks_X10_85 (fun r q => c_X10_within l G B _ _ _ _ _ q) rfl rfl ⟨Nat.le_of_ble_eq_true rfl, Nat.le_of_ble_eq_true rfl⟩ (Nat.le_of_ble_eq_true rfl) ⟨Nat.le_of_ble_eq_true rfl, Nat.le_of_ble_eq_true rfl⟩ dX10_pressure_22 (fun v3 H locs P hF => ?_)
    refine lv_if_eq (pc := 25) (tgt := 50) hx hb dX10_pressure_25 (by decide) (fun hc => ?_) (fun hc => ?_)
    · rw [if_pos hc] at hF
      refine lv_bipush (pc := 50) (v := (-3)) hx hb dX10_pressure_50 (by decide) ?_
      cases hF
      exact hret _ _ _ _ P rfl dX10_pressure_52
    · rw [if_neg hc] at hF
      refine lv_iload_n (pc := 28) hx hb dX10_pressure_28 rfl (lv_at hl 3 rfl) ?_
      refine lv_i2l (pc := 29) hx hb dX10_pressure_29 rfl ?_
      refine lv_lconst (pc := 30) (v := 1) hx hb dX10_pressure_30 (by decide) ?_
      refine lv_ldc2 (pc := 31) (v := 40) hx hb hown (hts _ tw_1296) dX10_pressure_31 ?_
      refine r_cSp (pc := 34) (As := [.long (Int32.toInt64 vp3), .long 1, .long 40]) (rest := []) CX P hl.1 hF ks_X10_85 (fun r q => c_X10_within l G B _ _ _ _ _ q) rfl rfl ⟨Nat.le_of_ble_eq_true rfl, Nat.le_of_ble_eq_true rfl⟩ (Nat.le_of_ble_eq_true rfl) ⟨Nat.le_of_ble_eq_true rfl, Nat.le_of_ble_eq_true rfl⟩ dX10_pressure_34 (fun v4 H locs P hF => ?_)
      refine lv_if_eq (pc := 37) (tgt := 50) hx hb dX10_pressure_37 (by decide) (fun hc => ?_) (fun hc => ?_)
      · rw [if_pos hc] at hF
        refine lv_bipush (pc := 50) (v := (-3)) hx hb dX10_pressure_50 (by decide) ?_
        cases hF
        exact hret _ _ _ _ P rfl dX10_pressure_52
      · rw [if_neg hc] at hF
        refine lv_aload_n (pc := 40) hx hb dX10_pressure_40 rfl (lv_at hl 0 rfl) ?_
        refine lv_iload_n (pc := 41) hx hb dX10_pressure_41 rfl (lv_at hl 1 rfl) ?_
        refine lv_iload_n (pc := 42) hx hb dX10_pressure_42 rfl (lv_at hl 2 rfl) ?_
        refine lv_iload_n (pc := 43) hx hb dX10_pressure_43 rfl (lv_at hl 3 rfl) ?_
        refine r_cVi (pc := 44) (As := [.int vp1, .int vp2, .int vp3]) (rest := []) CX P hl.1 hF kv_X10_285 (fun r h1 q => c_X10_pressureOf l G B _ _ _ _ _ _ _ q) rfl rfl ⟨Nat.le_of_ble_eq_true rfl, Nat.le_of_ble_eq_true rfl⟩ (Nat.le_of_ble_eq_true rfl) ⟨Nat.le_of_ble_eq_true rfl, Nat.le_of_ble_eq_true rfl⟩ dX10_pressure_44 (fun v5 h6 H locs P hF => ?_)
        replace hF := un_i hF
        refine lv_goto (pc := 47) (tgt := 52) hx hb dX10_pressure_47 (by decide) ?_
        cases hF
        exact hret _ _ _ _ P rfl dX10_pressure_52
  · rw [if_pos hc] at hF
    refine lv_bipush (pc := 13) (v := (-2)) hx hb dX10_pressure_13 (by decide) ?_
    cases hF
    exact hret _ _ _ _ P rfl dX10_pressure_15
def F_X10_stalls (h : Hp) (a0 : Nat) (vp1 : Int32) (vp2 : Int32) : Option (Int32 × Hp) :=
(pI h a0 10 0 0).bind fun h1 =>
(cO h1 a0 10 (F_X10_isGroup h1 a0 vp1)).bind fun v2 =>
if v2 = 0 then (
some ((-2), h1)) else (
(F_X10_within h1 (Int32.toInt64 vp2) 0 2).bind fun v3 =>
if v3 = 0 then (
some ((-3), h1)) else (
(cO h1 a0 10 (F_X10_of h1 a0 vp1 (15 + vp2) 0)).bind (un fun v4 h5 =>
some (v4, h5))))
set_option maxRecDepth 100000 in
set_option maxHeartbeats 4000000 in
theorem c_X10_stalls (l : Launch) (G : GG) (B : Nat) (h : Hp) (a0 : Nat) (vp1 : Int32) (vp2 : Int32) (r0 : Int32) (hr : Hp) (hF : F_X10_stalls h a0 vp1 vp2 = some (r0, hr)) : CI l yX10_stalls cX10_stalls 3 .int 2 46 0 0 G B h [.ref (B + a0), .int vp1, .int vp2] r0 hr := by
  refine ent_i rfl (Nat.le_of_ble_eq_true rfl) ?_
  intro p e s m args below meth c ls Q CX hnm hret P hl
  have CX : Cxt p m c cX10_stalls 3 s args RX10 G B := CX
  obtain ⟨⟨hx, hb, hml, hown, hts⟩, -, -⟩ := id CX
  replace hl : lv_has ls 3 [(0, .ref (B + a0)), (1, .int vp1), (2, .int vp2)] := hl
  generalize s.heap = H at P ⊢
  generalize ([] : List Loc) = locs at P ⊢
  unfold F_X10_stalls at hF
  refine lv_aload_n (pc := 0) hx hb dX10_stalls_0 rfl (lv_at hl 0 rfl) ?_
  refine lv_iconst (pc := 1) (v := 0) hx hb dX10_stalls_1 (by decide) ?_
  refine r_pI (pc := 2) CX P hF fl_X10_1 dX10_stalls_2 (fun h1 H locs P hF => ?_)
  refine lv_aload_n (pc := 5) hx hb dX10_stalls_5 rfl (lv_at hl 0 rfl) ?_
  refine lv_iload_n (pc := 6) hx hb dX10_stalls_6 rfl (lv_at hl 1 rfl) ?_
  refine r_cVp (pc := 7) (As := [.int vp1]) (rest := []) CX P hl.1 hF kv_X10_107 (fun r q => c_X10_isGroup l G B _ _ _ _ q) rfl rfl ⟨Nat.le_of_ble_eq_true rfl, Nat.le_of_ble_eq_true rfl⟩ (Nat.le_of_ble_eq_true rfl) ⟨Nat.le_of_ble_eq_true rfl, Nat.le_of_ble_eq_true rfl⟩ dX10_stalls_7 (fun v2 H locs P hF => ?_)
  refine lv_if_ne (pc := 10) (tgt := 16) hx hb dX10_stalls_10 (by decide) (fun hc => ?_) (fun hc => ?_)
  · rw [if_neg hc] at hF
    refine lv_iload_n (pc := 16) hx hb dX10_stalls_16 rfl (lv_at hl 2 rfl) ?_
    refine lv_i2l (pc := 17) hx hb dX10_stalls_17 rfl ?_
    refine lv_lconst (pc := 18) (v := 0) hx hb dX10_stalls_18 (by decide) ?_
    refine lv_ldc2 (pc := 19) (v := 2) hx hb hown (hts _ tw_1250) dX10_stalls_19 ?_
    refine r_cSp (pc := 22) (As := [.long (Int32.toInt64 vp2), .long 0, .long 2]) (rest := []) CX P hl.1 hF ks_X10_85 (fun r q => c_X10_within l G B _ _ _ _ _ q) rfl rfl ⟨Nat.le_of_ble_eq_true rfl, Nat.le_of_ble_eq_true rfl⟩ (Nat.le_of_ble_eq_true rfl) ⟨Nat.le_of_ble_eq_true rfl, Nat.le_of_ble_eq_true rfl⟩ dX10_stalls_22 (fun v3 H locs P hF => ?_)
    refine lv_if_eq (pc := 25) (tgt := 41) hx hb dX10_stalls_25 (by decide) (fun hc => ?_) (fun hc => ?_)
    · rw [if_pos hc] at hF
      refine lv_bipush (pc := 41) (v := (-3)) hx hb dX10_stalls_41 (by decide) ?_
      cases hF
      exact hret _ _ _ _ P rfl dX10_stalls_43
    · rw [if_neg hc] at hF
      refine lv_aload_n (pc := 28) hx hb dX10_stalls_28 rfl (lv_at hl 0 rfl) ?_
      refine lv_iload_n (pc := 29) hx hb dX10_stalls_29 rfl (lv_at hl 1 rfl) ?_
      refine lv_bipush (pc := 30) (v := 15) hx hb dX10_stalls_30 (by decide) ?_
      refine lv_iload_n (pc := 32) hx hb dX10_stalls_32 rfl (lv_at hl 2 rfl) ?_
      refine lv_iadd (pc := 33) hx hb dX10_stalls_33 ?_
      refine lv_iconst (pc := 34) (v := 0) hx hb dX10_stalls_34 (by decide) ?_
      refine r_cVi (pc := 35) (As := [.int vp1, .int (15 + vp2), .int 0]) (rest := []) CX P hl.1 hF kv_X10_99 (fun r h1 q => c_X10_of l G B _ _ _ _ _ _ _ q) rfl rfl ⟨Nat.le_of_ble_eq_true rfl, Nat.le_of_ble_eq_true rfl⟩ (Nat.le_of_ble_eq_true rfl) ⟨Nat.le_of_ble_eq_true rfl, Nat.le_of_ble_eq_true rfl⟩ dX10_stalls_35 (fun v4 h5 H locs P hF => ?_)
      replace hF := un_i hF
      refine lv_goto (pc := 38) (tgt := 43) hx hb dX10_stalls_38 (by decide) ?_
      cases hF
      exact hret _ _ _ _ P rfl dX10_stalls_43
  · rw [if_pos hc] at hF
    refine lv_bipush (pc := 13) (v := (-2)) hx hb dX10_stalls_13 (by decide) ?_
    cases hF
    exact hret _ _ _ _ P rfl dX10_stalls_15
def F_X10_average (h : Hp) (a0 : Nat) (vp1 : Int32) (vp2 : Int32) (vp3 : Int32) : Option (Int32 × Hp) :=
(pI h a0 10 0 0).bind fun h1 =>
(cO h1 a0 10 (F_X10_isGroup h1 a0 vp1)).bind fun v2 =>
if v2 = 0 then (
some ((-2), h1)) else (
(F_X10_within h1 (Int32.toInt64 vp2) 0 2).bind fun v3 =>
if v3 = 0 then (
some ((-3), h1)) else (
(F_X10_within h1 (Int32.toInt64 vp3) 0 2).bind fun v4 =>
if v4 = 0 then (
some ((-3), h1)) else (
(cO h1 a0 10 (F_X10_of h1 a0 vp1 ((25 + (3 * vp2)) + vp3) 0)).bind (un fun v5 h6 =>
some (v5, h6)))))
set_option maxRecDepth 100000 in
set_option maxHeartbeats 4000000 in
theorem c_X10_average (l : Launch) (G : GG) (B : Nat) (h : Hp) (a0 : Nat) (vp1 : Int32) (vp2 : Int32) (vp3 : Int32) (r0 : Int32) (hr : Hp) (hF : F_X10_average h a0 vp1 vp2 vp3 = some (r0, hr)) : CI l yX10_average cX10_average 4 .int 2 46 0 0 G B h [.ref (B + a0), .int vp1, .int vp2, .int vp3] r0 hr := by
  refine ent_i rfl (Nat.le_of_ble_eq_true rfl) ?_
  intro p e s m args below meth c ls Q CX hnm hret P hl
  have CX : Cxt p m c cX10_average 4 s args RX10 G B := CX
  obtain ⟨⟨hx, hb, hml, hown, hts⟩, -, -⟩ := id CX
  replace hl : lv_has ls 4 [(0, .ref (B + a0)), (1, .int vp1), (2, .int vp2), (3, .int vp3)] := hl
  generalize s.heap = H at P ⊢
  generalize ([] : List Loc) = locs at P ⊢
  unfold F_X10_average at hF
  refine lv_aload_n (pc := 0) hx hb dX10_average_0 rfl (lv_at hl 0 rfl) ?_
  refine lv_iconst (pc := 1) (v := 0) hx hb dX10_average_1 (by decide) ?_
  refine r_pI (pc := 2) CX P hF fl_X10_1 dX10_average_2 (fun h1 H locs P hF => ?_)
  refine lv_aload_n (pc := 5) hx hb dX10_average_5 rfl (lv_at hl 0 rfl) ?_
  refine lv_iload_n (pc := 6) hx hb dX10_average_6 rfl (lv_at hl 1 rfl) ?_
  refine r_cVp (pc := 7) (As := [.int vp1]) (rest := []) CX P hl.1 hF kv_X10_107 (fun r q => c_X10_isGroup l G B _ _ _ _ q) rfl rfl ⟨Nat.le_of_ble_eq_true rfl, Nat.le_of_ble_eq_true rfl⟩ (Nat.le_of_ble_eq_true rfl) ⟨Nat.le_of_ble_eq_true rfl, Nat.le_of_ble_eq_true rfl⟩ dX10_average_7 (fun v2 H locs P hF => ?_)
  refine lv_if_ne (pc := 10) (tgt := 16) hx hb dX10_average_10 (by decide) (fun hc => ?_) (fun hc => ?_)
  · rw [if_neg hc] at hF
    refine lv_iload_n (pc := 16) hx hb dX10_average_16 rfl (lv_at hl 2 rfl) ?_
    refine lv_i2l (pc := 17) hx hb dX10_average_17 rfl ?_
    refine lv_lconst (pc := 18) (v := 0) hx hb dX10_average_18 (by decide) ?_
    refine lv_ldc2 (pc := 19) (v := 2) hx hb hown (hts _ tw_1250) dX10_average_19 ?_
    refine r_cSp (pc := 22) (As := [.long (Int32.toInt64 vp2), .long 0, .long 2]) (rest := []) CX P hl.1 hF ks_X10_85 (fun r q => c_X10_within l G B _ _ _ _ _ q) rfl rfl ⟨Nat.le_of_ble_eq_true rfl, Nat.le_of_ble_eq_true rfl⟩ (Nat.le_of_ble_eq_true rfl) ⟨Nat.le_of_ble_eq_true rfl, Nat.le_of_ble_eq_true rfl⟩ dX10_average_22 (fun v3 H locs P hF => ?_)
    refine lv_if_eq (pc := 25) (tgt := 57) hx hb dX10_average_25 (by decide) (fun hc => ?_) (fun hc => ?_)
    · rw [if_pos hc] at hF
      refine lv_bipush (pc := 57) (v := (-3)) hx hb dX10_average_57 (by decide) ?_
      cases hF
      exact hret _ _ _ _ P rfl dX10_average_59
    · rw [if_neg hc] at hF
      refine lv_iload_n (pc := 28) hx hb dX10_average_28 rfl (lv_at hl 3 rfl) ?_
      refine lv_i2l (pc := 29) hx hb dX10_average_29 rfl ?_
      refine lv_lconst (pc := 30) (v := 0) hx hb dX10_average_30 (by decide) ?_
      refine lv_ldc2 (pc := 31) (v := 2) hx hb hown (hts _ tw_1250) dX10_average_31 ?_
      refine r_cSp (pc := 34) (As := [.long (Int32.toInt64 vp3), .long 0, .long 2]) (rest := []) CX P hl.1 hF ks_X10_85 (fun r q => c_X10_within l G B _ _ _ _ _ q) rfl rfl ⟨Nat.le_of_ble_eq_true rfl, Nat.le_of_ble_eq_true rfl⟩ (Nat.le_of_ble_eq_true rfl) ⟨Nat.le_of_ble_eq_true rfl, Nat.le_of_ble_eq_true rfl⟩ dX10_average_34 (fun v4 H locs P hF => ?_)
      refine lv_if_eq (pc := 37) (tgt := 57) hx hb dX10_average_37 (by decide) (fun hc => ?_) (fun hc => ?_)
      · rw [if_pos hc] at hF
        refine lv_bipush (pc := 57) (v := (-3)) hx hb dX10_average_57 (by decide) ?_
        cases hF
        exact hret _ _ _ _ P rfl dX10_average_59
      · rw [if_neg hc] at hF
        refine lv_aload_n (pc := 40) hx hb dX10_average_40 rfl (lv_at hl 0 rfl) ?_
        refine lv_iload_n (pc := 41) hx hb dX10_average_41 rfl (lv_at hl 1 rfl) ?_
        refine lv_bipush (pc := 42) (v := 25) hx hb dX10_average_42 (by decide) ?_
        refine lv_iconst (pc := 44) (v := 3) hx hb dX10_average_44 (by decide) ?_
        refine lv_iload_n (pc := 45) hx hb dX10_average_45 rfl (lv_at hl 2 rfl) ?_
        refine lv_imul (pc := 46) hx hb dX10_average_46 ?_
        refine lv_iadd (pc := 47) hx hb dX10_average_47 ?_
        refine lv_iload_n (pc := 48) hx hb dX10_average_48 rfl (lv_at hl 3 rfl) ?_
        refine lv_iadd (pc := 49) hx hb dX10_average_49 ?_
        refine lv_iconst (pc := 50) (v := 0) hx hb dX10_average_50 (by decide) ?_
        refine r_cVi (pc := 51) (As := [.int vp1, .int ((25 + (3 * vp2)) + vp3), .int 0]) (rest := []) CX P hl.1 hF kv_X10_99 (fun r h1 q => c_X10_of l G B _ _ _ _ _ _ _ q) rfl rfl ⟨Nat.le_of_ble_eq_true rfl, Nat.le_of_ble_eq_true rfl⟩ (Nat.le_of_ble_eq_true rfl) ⟨Nat.le_of_ble_eq_true rfl, Nat.le_of_ble_eq_true rfl⟩ dX10_average_51 (fun v5 h6 H locs P hF => ?_)
        replace hF := un_i hF
        refine lv_goto (pc := 54) (tgt := 59) hx hb dX10_average_54 (by decide) ?_
        cases hF
        exact hret _ _ _ _ P rfl dX10_average_59
  · rw [if_pos hc] at hF
    refine lv_bipush (pc := 13) (v := (-2)) hx hb dX10_average_13 (by decide) ?_
    cases hF
    exact hret _ _ _ _ P rfl dX10_average_15
def F_X10_worst_L11 (a3 : Nat) (v4 : Int32) (v5 : Int32) (v6 : Int32) (h7 : Hp) : Option ((Int32 × Int32 × Int32 × Hp) ⊕ (Int32 × Hp)) :=
if 12 ≤ v6 then (
some (.inr (v4, h7))) else (
(cO h7 a3 10 (F_X10_isGroup h7 a3 v6)).bind fun v8 =>
if v8 = 0 then (
bl (v6 + 1) fun v9 =>
some (.inl (v4, v5, v9, h7))) else (
(cO h7 a3 10 (F_X10_pressureOf h7 a3 v6 0 10)).bind (un fun v10 h11 =>
if v5 < v10 then (
(cO h11 a3 10 (F_X10_pressureOf h11 a3 v6 0 10)).bind (un fun v12 h13 =>
bl (v6 + 1) fun v14 =>
some (.inl (v6, v12, v14, h13)))) else (
bl (v6 + 1) fun v15 =>
some (.inl (v4, v5, v15, h11))))))
def F_X10_worst (h : Hp) (a0 : Nat) : Option (Int32 × Hp) :=
(pI h a0 10 0 0).bind fun h1 =>
(loopF (fun x => F_X10_worst_L11 a0 x.1 x.2.1 x.2.2.1 x.2.2.2) 6000 ((-1), 0, 1, h1)).bind fun q2 =>
bl q2.1 fun v16 =>
bl q2.2 fun h17 =>
some (v16, h17)
set_option maxRecDepth 100000 in
set_option maxHeartbeats 4000000 in
theorem c_X10_worst (l : Launch) (G : GG) (B : Nat) (h : Hp) (a0 : Nat) (r0 : Int32) (hr : Hp) (hF : F_X10_worst h a0 = some (r0, hr)) : CI l yX10_worst cX10_worst 4 .int 3 72 0 0 G B h [.ref (B + a0)] r0 hr := by
  refine ent_i rfl (Nat.le_of_ble_eq_true rfl) ?_
  intro p e s m args below meth c ls Q CX hnm hret P hl
  have CX : Cxt p m c cX10_worst 4 s args RX10 G B := CX
  obtain ⟨⟨hx, hb, hml, hown, hts⟩, -, -⟩ := id CX
  replace hl : lv_has ls 4 [(0, .ref (B + a0))] := hl
  generalize s.heap = H at P ⊢
  generalize ([] : List Loc) = locs at P ⊢
  unfold F_X10_worst at hF
  refine lv_aload_n (pc := 0) hx hb dX10_worst_0 rfl (lv_at hl 0 rfl) ?_
  refine lv_iconst (pc := 1) (v := 0) hx hb dX10_worst_1 (by decide) ?_
  refine r_pI (pc := 2) CX P hF fl_X10_1 dX10_worst_2 (fun h1 H locs P hF => ?_)
  refine lv_iconst (pc := 5) (v := (-1)) hx hb dX10_worst_5 (by decide) ?_
  refine lv_istore_n (pc := 6) hx hb dX10_worst_6 rfl hl (by decide) rfl (fun ls hl => ?_)
  replace hl : lv_has ls 4 [(1, .int (-1)), (0, .ref (B + a0))] := hl
  refine lv_iconst (pc := 7) (v := 0) hx hb dX10_worst_7 (by decide) ?_
  refine lv_istore_n (pc := 8) hx hb dX10_worst_8 rfl hl (by decide) rfl (fun ls hl => ?_)
  replace hl : lv_has ls 4 [(2, .int 0), (1, .int (-1)), (0, .ref (B + a0))] := hl
  refine lv_iconst (pc := 9) (v := 1) hx hb dX10_worst_9 (by decide) ?_
  refine lv_istore_n (pc := 10) hx hb dX10_worst_10 rfl hl (by decide) rfl (fun ls hl => ?_)
  replace hl : lv_has ls 4 [(3, .int 1), (2, .int 0), (1, .int (-1)), (0, .ref (B + a0))] := hl
  obtain ⟨r2, hLp2, hK2⟩ := bd_some hF
  have hX2 : ∀ (v16 : Int32) (h17 : Hp) (H : Heap) (locs : List Loc) (ls : Array Slot), Pic G B h17 s H locs → lv_has ls 4 [(1, .int v16)] → (v16, h17) = r2 → W p l e (rmM 3 72 0 0) s m args below meth c H locs 0 0 Q (F0 m 57 ls []) := by
    intro v16 h17 H locs ls P hl er
    subst er
    have hF := hK2
    replace hF := bl_i hF
    replace hF := bl_i hF
    try dsimp only at hF
    refine lv_iload_n (pc := 57) hx hb dX10_worst_57 rfl (lv_at hl 0 rfl) ?_
    cases hF
    exact hret _ _ _ _ P rfl dX10_worst_58
  have hL2 : ∀ (n : Nat) (v4 : Int32) (v5 : Int32) (v6 : Int32) (h7 : Hp) (H : Heap) (locs : List Loc) (ls : Array Slot), Pic G B h7 s H locs → lv_has ls 4 [(0, .ref (B + a0)), (1, .int v4), (2, .int v5), (3, .int v6)] → loopF (fun x => F_X10_worst_L11 a0 x.1 x.2.1 x.2.2.1 x.2.2.2) n (v4, v5, v6, h7) = some r2 → W p l e (rmM 3 72 0 0) s m args below meth c H locs 0 0 Q (F0 m 11 ls []) := by
    intro n
    induction n with
    | zero => intro v4 v5 v6 h7 H locs ls P hl hq; cases hq
    | succ n ih =>
      intro v4 v5 v6 h7 H locs ls P hl hq
      obtain ⟨z2, hS2, hI2, hR2⟩ := loop_some hq
      have hF : F_X10_worst_L11 a0 v4 v5 v6 h7 = some z2 := hS2
      unfold F_X10_worst_L11 at hF
      refine lv_iload_n (pc := 11) hx hb dX10_worst_11 rfl (lv_at hl 3 rfl) ?_
      refine lv_bipush (pc := 12) (v := 12) hx hb dX10_worst_12 (by decide) ?_
      refine lv_icmp_ge (pc := 14) (tgt := 57) hx hb dX10_worst_14 (by decide) (fun hc => ?_) (fun hc => ?_)
      · rw [if_pos hc] at hF
        exact hX2 _ _ _ _ _ P (lv_sub hl [1] rfl) (hR2 _ (Option.some.inj hF).symm)
      · rw [if_neg hc] at hF
        refine lv_aload_n (pc := 17) hx hb dX10_worst_17 rfl (lv_at hl 0 rfl) ?_
        refine lv_iload_n (pc := 18) hx hb dX10_worst_18 rfl (lv_at hl 3 rfl) ?_
        refine r_cVp (pc := 19) (As := [.int v6]) (rest := []) CX P hl.1 hF kv_X10_107 (fun r q => c_X10_isGroup l G B _ _ _ _ q) rfl rfl ⟨Nat.le_of_ble_eq_true rfl, Nat.le_of_ble_eq_true rfl⟩ (Nat.le_of_ble_eq_true rfl) ⟨Nat.le_of_ble_eq_true rfl, Nat.le_of_ble_eq_true rfl⟩ dX10_worst_19 (fun v8 H locs P hF => ?_)
        refine lv_if_eq (pc := 22) (tgt := 51) hx hb dX10_worst_22 (by decide) (fun hc => ?_) (fun hc => ?_)
        · rw [if_pos hc] at hF
          obtain ⟨v9, ev9, hF⟩ := bl_o hF
          refine lv_iinc (pc := 51) (k := 3) (v := v9) hx hb dX10_worst_51 hl rfl ev9 (by decide) rfl (fun ls hl => ?_)
          replace hl : lv_has ls 4 [(3, .int v9), (0, .ref (B + a0)), (1, .int v4), (2, .int v5)] := hl
          refine lv_goto (pc := 54) (tgt := 11) hx hb dX10_worst_54 (by decide) ?_
          exact ih _ _ _ _ _ _ _ P (lv_sub hl [1, 2, 3, 0] rfl) (hI2 _ (Option.some.inj hF).symm)
        · rw [if_neg hc] at hF
          refine lv_aload_n (pc := 25) hx hb dX10_worst_25 rfl (lv_at hl 0 rfl) ?_
          refine lv_iload_n (pc := 26) hx hb dX10_worst_26 rfl (lv_at hl 3 rfl) ?_
          refine lv_iconst (pc := 27) (v := 0) hx hb dX10_worst_27 (by decide) ?_
          refine lv_bipush (pc := 28) (v := 10) hx hb dX10_worst_28 (by decide) ?_
          refine r_cVi (pc := 30) (As := [.int v6, .int 0, .int 10]) (rest := []) CX P hl.1 hF kv_X10_285 (fun r h1 q => c_X10_pressureOf l G B _ _ _ _ _ _ _ q) rfl rfl ⟨Nat.le_of_ble_eq_true rfl, Nat.le_of_ble_eq_true rfl⟩ (Nat.le_of_ble_eq_true rfl) ⟨Nat.le_of_ble_eq_true rfl, Nat.le_of_ble_eq_true rfl⟩ dX10_worst_30 (fun v10 h11 H locs P hF => ?_)
          replace hF := un_i hF
          refine lv_iload_n (pc := 33) hx hb dX10_worst_33 rfl (lv_at hl 2 rfl) ?_
          refine lv_icmp_gt (pc := 34) (tgt := 40) hx hb dX10_worst_34 (by decide) (fun hc => ?_) (fun hc => ?_)
          · rw [if_pos hc] at hF
            refine lv_iload_n (pc := 40) hx hb dX10_worst_40 rfl (lv_at hl 3 rfl) ?_
            refine lv_istore_n (pc := 41) hx hb dX10_worst_41 rfl hl (by decide) rfl (fun ls hl => ?_)
            replace hl : lv_has ls 4 [(1, .int v6), (0, .ref (B + a0)), (2, .int v5), (3, .int v6)] := hl
            refine lv_aload_n (pc := 42) hx hb dX10_worst_42 rfl (lv_at hl 1 rfl) ?_
            refine lv_iload_n (pc := 43) hx hb dX10_worst_43 rfl (lv_at hl 3 rfl) ?_
            refine lv_iconst (pc := 44) (v := 0) hx hb dX10_worst_44 (by decide) ?_
            refine lv_bipush (pc := 45) (v := 10) hx hb dX10_worst_45 (by decide) ?_
            refine r_cVi (pc := 47) (As := [.int v6, .int 0, .int 10]) (rest := []) CX P hl.1 hF kv_X10_285 (fun r h1 q => c_X10_pressureOf l G B _ _ _ _ _ _ _ q) rfl rfl ⟨Nat.le_of_ble_eq_true rfl, Nat.le_of_ble_eq_true rfl⟩ (Nat.le_of_ble_eq_true rfl) ⟨Nat.le_of_ble_eq_true rfl, Nat.le_of_ble_eq_true rfl⟩ dX10_worst_47 (fun v12 h13 H locs P hF => ?_)
            replace hF := un_i hF
            refine lv_istore_n (pc := 50) hx hb dX10_worst_50 rfl hl (by decide) rfl (fun ls hl => ?_)
            replace hl : lv_has ls 4 [(2, .int v12), (1, .int v6), (0, .ref (B + a0)), (3, .int v6)] := hl
            obtain ⟨v14, ev14, hF⟩ := bl_o hF
            refine lv_iinc (pc := 51) (k := 3) (v := v14) hx hb dX10_worst_51 hl rfl ev14 (by decide) rfl (fun ls hl => ?_)
            replace hl : lv_has ls 4 [(3, .int v14), (2, .int v12), (1, .int v6), (0, .ref (B + a0))] := hl
            refine lv_goto (pc := 54) (tgt := 11) hx hb dX10_worst_54 (by decide) ?_
            exact ih _ _ _ _ _ _ _ P (lv_sub hl [3, 2, 1, 0] rfl) (hI2 _ (Option.some.inj hF).symm)
          · rw [if_neg hc] at hF
            refine lv_goto (pc := 37) (tgt := 51) hx hb dX10_worst_37 (by decide) ?_
            obtain ⟨v15, ev15, hF⟩ := bl_o hF
            refine lv_iinc (pc := 51) (k := 3) (v := v15) hx hb dX10_worst_51 hl rfl ev15 (by decide) rfl (fun ls hl => ?_)
            replace hl : lv_has ls 4 [(3, .int v15), (0, .ref (B + a0)), (1, .int v4), (2, .int v5)] := hl
            refine lv_goto (pc := 54) (tgt := 11) hx hb dX10_worst_54 (by decide) ?_
            exact ih _ _ _ _ _ _ _ P (lv_sub hl [1, 2, 3, 0] rfl) (hI2 _ (Option.some.inj hF).symm)
  exact hL2 _ _ _ _ _ _ _ _ P (lv_sub hl [3, 2, 1, 0] rfl) hLp2
def F_X10_opensPaper (h : Hp) (a0 : Nat) : Option (Hp) :=
(gR h a0 10 1).bind fun a1 =>
(gR h a0 10 4).bind fun a2 =>
(F_X10_copies h a1 0 a2 0).bind fun h3 =>
some h3
set_option maxRecDepth 100000 in
set_option maxHeartbeats 4000000 in
theorem c_X10_opensPaper (l : Launch) (G : GG) (B : Nat) (h : Hp) (a0 : Nat) (hr : Hp) (hF : F_X10_opensPaper h a0 = some hr) : CV l yX10_opensPaper cX10_opensPaper 1 1 24 0 0 G B h [.ref (B + a0)] hr := by
  refine ent_v rfl (Nat.le_of_ble_eq_true rfl) ?_
  intro p e s m args below meth c ls Q CX hnm hret P hl
  have CX : Cxt p m c cX10_opensPaper 1 s args RX10 G B := CX
  obtain ⟨⟨hx, hb, hml, hown, hts⟩, -, -⟩ := id CX
  replace hl : lv_has ls 1 [(0, .ref (B + a0))] := hl
  generalize s.heap = H at P ⊢
  generalize ([] : List Loc) = locs at P ⊢
  unfold F_X10_opensPaper at hF
  refine lv_aload_n (pc := 0) hx hb dX10_opensPaper_0 rfl (lv_at hl 0 rfl) ?_
  refine r_gR (pc := 1) CX P hF fl_X10_13 dX10_opensPaper_1 (fun a1 hF => ?_)
  refine lv_iconst (pc := 4) (v := 0) hx hb dX10_opensPaper_4 (by decide) ?_
  refine lv_aload_n (pc := 5) hx hb dX10_opensPaper_5 rfl (lv_at hl 0 rfl) ?_
  refine r_gR (pc := 6) CX P hF fl_X10_23 dX10_opensPaper_6 (fun a2 hF => ?_)
  refine lv_iconst (pc := 9) (v := 0) hx hb dX10_opensPaper_9 (by decide) ?_
  refine r_cSv (pc := 10) (As := [.ref (B + a1), .int 0, .ref (B + a2), .int 0]) (rest := []) CX P hl.1 hF ks_X10_73 (fun h1 q => c_X10_copies l G B _ _ _ _ _ _ q) rfl rfl ⟨Nat.le_of_ble_eq_true rfl, Nat.le_of_ble_eq_true rfl⟩ (Nat.le_of_ble_eq_true rfl) ⟨Nat.le_of_ble_eq_true rfl, Nat.le_of_ble_eq_true rfl⟩ dX10_opensPaper_10 (fun h3 H locs P hF => ?_)
  cases hF
  exact hret _ _ _ _ P dX10_opensPaper_13
def F_X10_closesPaper (h : Hp) (a0 : Nat) : Option (Hp) :=
(gR h a0 10 4).bind fun a1 =>
(gR h a0 10 1).bind fun a2 =>
(F_X10_copies h a1 0 a2 0).bind fun h3 =>
some h3
set_option maxRecDepth 100000 in
set_option maxHeartbeats 4000000 in
theorem c_X10_closesPaper (l : Launch) (G : GG) (B : Nat) (h : Hp) (a0 : Nat) (hr : Hp) (hF : F_X10_closesPaper h a0 = some hr) : CV l yX10_closesPaper cX10_closesPaper 1 1 24 0 0 G B h [.ref (B + a0)] hr := by
  refine ent_v rfl (Nat.le_of_ble_eq_true rfl) ?_
  intro p e s m args below meth c ls Q CX hnm hret P hl
  have CX : Cxt p m c cX10_closesPaper 1 s args RX10 G B := CX
  obtain ⟨⟨hx, hb, hml, hown, hts⟩, -, -⟩ := id CX
  replace hl : lv_has ls 1 [(0, .ref (B + a0))] := hl
  generalize s.heap = H at P ⊢
  generalize ([] : List Loc) = locs at P ⊢
  unfold F_X10_closesPaper at hF
  refine lv_aload_n (pc := 0) hx hb dX10_closesPaper_0 rfl (lv_at hl 0 rfl) ?_
  refine r_gR (pc := 1) CX P hF fl_X10_23 dX10_closesPaper_1 (fun a1 hF => ?_)
  refine lv_iconst (pc := 4) (v := 0) hx hb dX10_closesPaper_4 (by decide) ?_
  refine lv_aload_n (pc := 5) hx hb dX10_closesPaper_5 rfl (lv_at hl 0 rfl) ?_
  refine r_gR (pc := 6) CX P hF fl_X10_13 dX10_closesPaper_6 (fun a2 hF => ?_)
  refine lv_iconst (pc := 9) (v := 0) hx hb dX10_closesPaper_9 (by decide) ?_
  refine r_cSv (pc := 10) (As := [.ref (B + a1), .int 0, .ref (B + a2), .int 0]) (rest := []) CX P hl.1 hF ks_X10_73 (fun h1 q => c_X10_copies l G B _ _ _ _ _ _ q) rfl rfl ⟨Nat.le_of_ble_eq_true rfl, Nat.le_of_ble_eq_true rfl⟩ (Nat.le_of_ble_eq_true rfl) ⟨Nat.le_of_ble_eq_true rfl, Nat.le_of_ble_eq_true rfl⟩ dX10_closesPaper_10 (fun h3 H locs P hF => ?_)
  cases hF
  exact hret _ _ _ _ P dX10_closesPaper_13
