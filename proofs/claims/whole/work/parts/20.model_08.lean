def F_X10_kill (h : Hp) (a0 : Nat) (vp1 : Int32) : Option (Int32 × Hp) :=
(pI h a0 10 0 0).bind fun h1 =>
(cO h1 a0 10 (F_X10_isProcess h1 a0 vp1)).bind fun v2 =>
if v2 = 0 then (
some ((-2), h1)) else (
(cO h1 a0 10 (F_X10_begins h1 a0)).bind fun h3 =>
(cO h3 a0 10 (F_X10_pagesOf h3 a0 vp1)).bind (un fun v4 h5 =>
(cO h5 a0 10 (F_X10_dies h5 a0 vp1)).bind fun h6 =>
(cO h6 a0 10 (F_X10_ends h6 a0 v4 1)).bind (un fun v7 h8 =>
some (v7, h8))))
set_option maxRecDepth 100000 in
set_option maxHeartbeats 4000000 in
theorem c_X10_kill (l : Launch) (G : GG) (B : Nat) (h : Hp) (a0 : Nat) (vp1 : Int32) (r0 : Int32) (hr : Hp) (hF : F_X10_kill h a0 vp1 = some (r0, hr)) : CI l yX10_kill cX10_kill 3 .int 3 67 0 0 G B h [.ref (B + a0), .int vp1] r0 hr := by
  refine ent_i rfl (Nat.le_of_ble_eq_true rfl) ?_
  intro p e s m args below meth c ls Q CX hnm hret P hl
  have CX : Cxt p m c cX10_kill 3 s args RX10 G B := CX
  obtain ⟨⟨hx, hb, hml, hown, hts⟩, -, -⟩ := id CX
  replace hl : lv_has ls 3 [(0, .ref (B + a0)), (1, .int vp1)] := hl
  generalize s.heap = H at P ⊢
  generalize ([] : List Loc) = locs at P ⊢
  unfold F_X10_kill at hF
  refine lv_aload_n (pc := 0) hx hb dX10_kill_0 rfl (lv_at hl 0 rfl) ?_
  refine lv_iconst (pc := 1) (v := 0) hx hb dX10_kill_1 (by decide) ?_
  refine r_pI (pc := 2) CX P hF fl_X10_1 dX10_kill_2 (fun h1 H locs P hF => ?_)
  refine lv_aload_n (pc := 5) hx hb dX10_kill_5 rfl (lv_at hl 0 rfl) ?_
  refine lv_iload_n (pc := 6) hx hb dX10_kill_6 rfl (lv_at hl 1 rfl) ?_
  refine r_cVp (pc := 7) (As := [.int vp1]) (rest := []) CX P hl.1 hF kv_X10_117 (fun r q => c_X10_isProcess l G B _ _ _ _ q) rfl rfl ⟨Nat.le_of_ble_eq_true rfl, Nat.le_of_ble_eq_true rfl⟩ (Nat.le_of_ble_eq_true rfl) ⟨Nat.le_of_ble_eq_true rfl, Nat.le_of_ble_eq_true rfl⟩ dX10_kill_7 (fun v2 H locs P hF => ?_)
  refine lv_if_ne (pc := 10) (tgt := 16) hx hb dX10_kill_10 (by decide) (fun hc => ?_) (fun hc => ?_)
  · rw [if_neg hc] at hF
    refine lv_aload_n (pc := 16) hx hb dX10_kill_16 rfl (lv_at hl 0 rfl) ?_
    refine r_cVv (pc := 17) (As := []) (rest := []) CX P hl.1 hF kv_X10_211 (fun h1 q => c_X10_begins l G B _ _ _ q) rfl rfl ⟨Nat.le_of_ble_eq_true rfl, Nat.le_of_ble_eq_true rfl⟩ (Nat.le_of_ble_eq_true rfl) ⟨Nat.le_of_ble_eq_true rfl, Nat.le_of_ble_eq_true rfl⟩ dX10_kill_17 (fun h3 H locs P hF => ?_)
    refine lv_aload_n (pc := 20) hx hb dX10_kill_20 rfl (lv_at hl 0 rfl) ?_
    refine lv_iload_n (pc := 21) hx hb dX10_kill_21 rfl (lv_at hl 1 rfl) ?_
    refine r_cVi (pc := 22) (As := [.int vp1]) (rest := []) CX P hl.1 hF kv_X10_134 (fun r h1 q => c_X10_pagesOf l G B _ _ _ _ _ q) rfl rfl ⟨Nat.le_of_ble_eq_true rfl, Nat.le_of_ble_eq_true rfl⟩ (Nat.le_of_ble_eq_true rfl) ⟨Nat.le_of_ble_eq_true rfl, Nat.le_of_ble_eq_true rfl⟩ dX10_kill_22 (fun v4 h5 H locs P hF => ?_)
    replace hF := un_i hF
    refine lv_istore_n (pc := 25) hx hb dX10_kill_25 rfl hl (by decide) rfl (fun ls hl => ?_)
    replace hl : lv_has ls 3 [(2, .int v4), (0, .ref (B + a0)), (1, .int vp1)] := hl
    refine lv_aload_n (pc := 26) hx hb dX10_kill_26 rfl (lv_at hl 1 rfl) ?_
    refine lv_iload_n (pc := 27) hx hb dX10_kill_27 rfl (lv_at hl 2 rfl) ?_
    refine r_cVv (pc := 28) (As := [.int vp1]) (rest := []) CX P hl.1 hF kv_X10_180 (fun h1 q => c_X10_dies l G B _ _ _ _ q) rfl rfl ⟨Nat.le_of_ble_eq_true rfl, Nat.le_of_ble_eq_true rfl⟩ (Nat.le_of_ble_eq_true rfl) ⟨Nat.le_of_ble_eq_true rfl, Nat.le_of_ble_eq_true rfl⟩ dX10_kill_28 (fun h6 H locs P hF => ?_)
    refine lv_aload_n (pc := 31) hx hb dX10_kill_31 rfl (lv_at hl 1 rfl) ?_
    refine lv_iload_n (pc := 32) hx hb dX10_kill_32 rfl (lv_at hl 0 rfl) ?_
    refine lv_iconst (pc := 33) (v := 1) hx hb dX10_kill_33 (by decide) ?_
    refine r_cVi (pc := 34) (As := [.int v4, .int 1]) (rest := []) CX P hl.1 hF kv_X10_214 (fun r h1 q => c_X10_ends l G B _ _ _ _ _ _ q) rfl rfl ⟨Nat.le_of_ble_eq_true rfl, Nat.le_of_ble_eq_true rfl⟩ (Nat.le_of_ble_eq_true rfl) ⟨Nat.le_of_ble_eq_true rfl, Nat.le_of_ble_eq_true rfl⟩ dX10_kill_34 (fun v7 h8 H locs P hF => ?_)
    replace hF := un_i hF
    cases hF
    exact hret _ _ _ _ P rfl dX10_kill_37
  · rw [if_pos hc] at hF
    refine lv_bipush (pc := 13) (v := (-2)) hx hb dX10_kill_13 (by decide) ?_
    cases hF
    exact hret _ _ _ _ P rfl dX10_kill_15
def F_X10_take (h : Hp) (a0 : Nat) (vp1 : Int32) (vp2 : Int32) : Option (Int32 × Hp) :=
(pI h a0 10 0 0).bind fun h1 =>
(cO h1 a0 10 (F_X10_isGroup h1 a0 vp1)).bind fun v2 =>
if v2 = 0 then (
some ((-2), h1)) else (
(F_X10_within h1 (Int32.toInt64 vp2) 1 999).bind fun v3 =>
if v3 = 0 then (
some ((-3), h1)) else (
(cO h1 a0 10 (F_X10_begins h1 a0)).bind fun h4 =>
(cO h4 a0 10 (F_X10_takes h4 a0 vp1 vp2)).bind (un fun v5 h6 =>
(cO h6 a0 10 (F_X10_ends h6 a0 v5 1)).bind (un fun v7 h8 =>
some (v7, h8)))))
set_option maxRecDepth 100000 in
set_option maxHeartbeats 4000000 in
theorem c_X10_take (l : Launch) (G : GG) (B : Nat) (h : Hp) (a0 : Nat) (vp1 : Int32) (vp2 : Int32) (r0 : Int32) (hr : Hp) (hF : F_X10_take h a0 vp1 vp2 = some (r0, hr)) : CI l yX10_take cX10_take 3 .int 8 191 0 0 G B h [.ref (B + a0), .int vp1, .int vp2] r0 hr := by
  refine ent_i rfl (Nat.le_of_ble_eq_true rfl) ?_
  intro p e s m args below meth c ls Q CX hnm hret P hl
  have CX : Cxt p m c cX10_take 3 s args RX10 G B := CX
  obtain ⟨⟨hx, hb, hml, hown, hts⟩, -, -⟩ := id CX
  replace hl : lv_has ls 3 [(0, .ref (B + a0)), (1, .int vp1), (2, .int vp2)] := hl
  generalize s.heap = H at P ⊢
  generalize ([] : List Loc) = locs at P ⊢
  unfold F_X10_take at hF
  refine lv_aload_n (pc := 0) hx hb dX10_take_0 rfl (lv_at hl 0 rfl) ?_
  refine lv_iconst (pc := 1) (v := 0) hx hb dX10_take_1 (by decide) ?_
  refine r_pI (pc := 2) CX P hF fl_X10_1 dX10_take_2 (fun h1 H locs P hF => ?_)
  refine lv_aload_n (pc := 5) hx hb dX10_take_5 rfl (lv_at hl 0 rfl) ?_
  refine lv_iload_n (pc := 6) hx hb dX10_take_6 rfl (lv_at hl 1 rfl) ?_
  refine r_cVp (pc := 7) (As := [.int vp1]) (rest := []) CX P hl.1 hF kv_X10_107 (fun r q => c_X10_isGroup l G B _ _ _ _ q) rfl rfl ⟨Nat.le_of_ble_eq_true rfl, Nat.le_of_ble_eq_true rfl⟩ (Nat.le_of_ble_eq_true rfl) ⟨Nat.le_of_ble_eq_true rfl, Nat.le_of_ble_eq_true rfl⟩ dX10_take_7 (fun v2 H locs P hF => ?_)
  refine lv_if_ne (pc := 10) (tgt := 16) hx hb dX10_take_10 (by decide) (fun hc => ?_) (fun hc => ?_)
  · rw [if_neg hc] at hF
    refine lv_iload_n (pc := 16) hx hb dX10_take_16 rfl (lv_at hl 2 rfl) ?_
    refine lv_i2l (pc := 17) hx hb dX10_take_17 rfl ?_
    refine lv_lconst (pc := 18) (v := 1) hx hb dX10_take_18 (by decide) ?_
    refine lv_ldc2 (pc := 19) (v := 999) hx hb hown (hts _ tw_1255) dX10_take_19 ?_
    refine r_cSp (pc := 22) (As := [.long (Int32.toInt64 vp2), .long 1, .long 999]) (rest := []) CX P hl.1 hF ks_X10_85 (fun r q => c_X10_within l G B _ _ _ _ _ q) rfl rfl ⟨Nat.le_of_ble_eq_true rfl, Nat.le_of_ble_eq_true rfl⟩ (Nat.le_of_ble_eq_true rfl) ⟨Nat.le_of_ble_eq_true rfl, Nat.le_of_ble_eq_true rfl⟩ dX10_take_22 (fun v3 H locs P hF => ?_)
    refine lv_if_ne (pc := 25) (tgt := 31) hx hb dX10_take_25 (by decide) (fun hc => ?_) (fun hc => ?_)
    · rw [if_neg hc] at hF
      refine lv_aload_n (pc := 31) hx hb dX10_take_31 rfl (lv_at hl 0 rfl) ?_
      refine r_cVv (pc := 32) (As := []) (rest := []) CX P hl.1 hF kv_X10_211 (fun h1 q => c_X10_begins l G B _ _ _ q) rfl rfl ⟨Nat.le_of_ble_eq_true rfl, Nat.le_of_ble_eq_true rfl⟩ (Nat.le_of_ble_eq_true rfl) ⟨Nat.le_of_ble_eq_true rfl, Nat.le_of_ble_eq_true rfl⟩ dX10_take_32 (fun h4 H locs P hF => ?_)
      refine lv_aload_n (pc := 35) hx hb dX10_take_35 rfl (lv_at hl 0 rfl) ?_
      refine lv_aload_n (pc := 36) hx hb dX10_take_36 rfl (lv_at hl 0 rfl) ?_
      refine lv_iload_n (pc := 37) hx hb dX10_take_37 rfl (lv_at hl 1 rfl) ?_
      refine lv_iload_n (pc := 38) hx hb dX10_take_38 rfl (lv_at hl 2 rfl) ?_
      refine r_cVi (pc := 39) (As := [.int vp1, .int vp2]) (rest := [.ref (B + a0)]) CX P hl.1 hF kv_X10_190 (fun r h1 q => c_X10_takes l G B _ _ _ _ _ _ q) rfl rfl ⟨Nat.le_of_ble_eq_true rfl, Nat.le_of_ble_eq_true rfl⟩ (Nat.le_of_ble_eq_true rfl) ⟨Nat.le_of_ble_eq_true rfl, Nat.le_of_ble_eq_true rfl⟩ dX10_take_39 (fun v5 h6 H locs P hF => ?_)
      replace hF := un_i hF
      refine lv_iconst (pc := 42) (v := 1) hx hb dX10_take_42 (by decide) ?_
      refine r_cVi (pc := 43) (As := [.int v5, .int 1]) (rest := []) CX P hl.1 hF kv_X10_214 (fun r h1 q => c_X10_ends l G B _ _ _ _ _ _ q) rfl rfl ⟨Nat.le_of_ble_eq_true rfl, Nat.le_of_ble_eq_true rfl⟩ (Nat.le_of_ble_eq_true rfl) ⟨Nat.le_of_ble_eq_true rfl, Nat.le_of_ble_eq_true rfl⟩ dX10_take_43 (fun v7 h8 H locs P hF => ?_)
      replace hF := un_i hF
      cases hF
      exact hret _ _ _ _ P rfl dX10_take_46
    · rw [if_pos hc] at hF
      refine lv_bipush (pc := 28) (v := (-3)) hx hb dX10_take_28 (by decide) ?_
      cases hF
      exact hret _ _ _ _ P rfl dX10_take_30
  · rw [if_pos hc] at hF
    refine lv_bipush (pc := 13) (v := (-2)) hx hb dX10_take_13 (by decide) ?_
    cases hF
    exact hret _ _ _ _ P rfl dX10_take_15
def F_X10_drain (h : Hp) (a0 : Nat) (vp1 : Int32) : Option (Int32 × Hp) :=
(pI h a0 10 0 0).bind fun h1 =>
(cO h1 a0 10 (F_X10_isGroup h1 a0 vp1)).bind fun v2 =>
if v2 = 0 then (
some ((-2), h1)) else (
(cO h1 a0 10 (F_X10_begins h1 a0)).bind fun h3 =>
(cO h3 a0 10 (F_X10_drains h3 a0 vp1)).bind (un fun v4 h5 =>
(cO h5 a0 10 (F_X10_ends h5 a0 v4 1)).bind (un fun v6 h7 =>
some (v6, h7))))
set_option maxRecDepth 100000 in
set_option maxHeartbeats 4000000 in
theorem c_X10_drain (l : Launch) (G : GG) (B : Nat) (h : Hp) (a0 : Nat) (vp1 : Int32) (r0 : Int32) (hr : Hp) (hF : F_X10_drain h a0 vp1 = some (r0, hr)) : CI l yX10_drain cX10_drain 2 .int 4 90 0 0 G B h [.ref (B + a0), .int vp1] r0 hr := by
  refine ent_i rfl (Nat.le_of_ble_eq_true rfl) ?_
  intro p e s m args below meth c ls Q CX hnm hret P hl
  have CX : Cxt p m c cX10_drain 2 s args RX10 G B := CX
  obtain ⟨⟨hx, hb, hml, hown, hts⟩, -, -⟩ := id CX
  replace hl : lv_has ls 2 [(0, .ref (B + a0)), (1, .int vp1)] := hl
  generalize s.heap = H at P ⊢
  generalize ([] : List Loc) = locs at P ⊢
  unfold F_X10_drain at hF
  refine lv_aload_n (pc := 0) hx hb dX10_drain_0 rfl (lv_at hl 0 rfl) ?_
  refine lv_iconst (pc := 1) (v := 0) hx hb dX10_drain_1 (by decide) ?_
  refine r_pI (pc := 2) CX P hF fl_X10_1 dX10_drain_2 (fun h1 H locs P hF => ?_)
  refine lv_aload_n (pc := 5) hx hb dX10_drain_5 rfl (lv_at hl 0 rfl) ?_
  refine lv_iload_n (pc := 6) hx hb dX10_drain_6 rfl (lv_at hl 1 rfl) ?_
  refine r_cVp (pc := 7) (As := [.int vp1]) (rest := []) CX P hl.1 hF kv_X10_107 (fun r q => c_X10_isGroup l G B _ _ _ _ q) rfl rfl ⟨Nat.le_of_ble_eq_true rfl, Nat.le_of_ble_eq_true rfl⟩ (Nat.le_of_ble_eq_true rfl) ⟨Nat.le_of_ble_eq_true rfl, Nat.le_of_ble_eq_true rfl⟩ dX10_drain_7 (fun v2 H locs P hF => ?_)
  refine lv_if_ne (pc := 10) (tgt := 16) hx hb dX10_drain_10 (by decide) (fun hc => ?_) (fun hc => ?_)
  · rw [if_neg hc] at hF
    refine lv_aload_n (pc := 16) hx hb dX10_drain_16 rfl (lv_at hl 0 rfl) ?_
    refine r_cVv (pc := 17) (As := []) (rest := []) CX P hl.1 hF kv_X10_211 (fun h1 q => c_X10_begins l G B _ _ _ q) rfl rfl ⟨Nat.le_of_ble_eq_true rfl, Nat.le_of_ble_eq_true rfl⟩ (Nat.le_of_ble_eq_true rfl) ⟨Nat.le_of_ble_eq_true rfl, Nat.le_of_ble_eq_true rfl⟩ dX10_drain_17 (fun h3 H locs P hF => ?_)
    refine lv_aload_n (pc := 20) hx hb dX10_drain_20 rfl (lv_at hl 0 rfl) ?_
    refine lv_aload_n (pc := 21) hx hb dX10_drain_21 rfl (lv_at hl 0 rfl) ?_
    refine lv_iload_n (pc := 22) hx hb dX10_drain_22 rfl (lv_at hl 1 rfl) ?_
    refine r_cVi (pc := 23) (As := [.int vp1]) (rest := [.ref (B + a0)]) CX P hl.1 hF kv_X10_152 (fun r h1 q => c_X10_drains l G B _ _ _ _ _ q) rfl rfl ⟨Nat.le_of_ble_eq_true rfl, Nat.le_of_ble_eq_true rfl⟩ (Nat.le_of_ble_eq_true rfl) ⟨Nat.le_of_ble_eq_true rfl, Nat.le_of_ble_eq_true rfl⟩ dX10_drain_23 (fun v4 h5 H locs P hF => ?_)
    replace hF := un_i hF
    refine lv_iconst (pc := 26) (v := 1) hx hb dX10_drain_26 (by decide) ?_
    refine r_cVi (pc := 27) (As := [.int v4, .int 1]) (rest := []) CX P hl.1 hF kv_X10_214 (fun r h1 q => c_X10_ends l G B _ _ _ _ _ _ q) rfl rfl ⟨Nat.le_of_ble_eq_true rfl, Nat.le_of_ble_eq_true rfl⟩ (Nat.le_of_ble_eq_true rfl) ⟨Nat.le_of_ble_eq_true rfl, Nat.le_of_ble_eq_true rfl⟩ dX10_drain_27 (fun v6 h7 H locs P hF => ?_)
    replace hF := un_i hF
    cases hF
    exact hret _ _ _ _ P rfl dX10_drain_30
  · rw [if_pos hc] at hF
    refine lv_bipush (pc := 13) (v := (-2)) hx hb dX10_drain_13 (by decide) ?_
    cases hF
    exact hret _ _ _ _ P rfl dX10_drain_15
def F_X10_batch (h : Hp) (a0 : Nat) (vp1 : Int32) : Option (Int32 × Hp) :=
(pI h a0 10 0 0).bind fun h1 =>
(F_X10_within h1 (Int32.toInt64 vp1) 1 8).bind fun v2 =>
if v2 = 0 then (
some ((-3), h1)) else (
(cO h1 a0 10 (F_X10_begins h1 a0)).bind fun h3 =>
(gR h3 a0 10 1).bind fun a4 =>
(aI h3 a4 3).bind fun v5 =>
(gR h3 a0 10 1).bind fun a6 =>
(sI h3 a6 3 vp1).bind fun h7 =>
(cO h7 a0 10 (F_X10_ends h7 a0 v5 1)).bind (un fun v8 h9 =>
some (v8, h9)))
set_option maxRecDepth 100000 in
set_option maxHeartbeats 4000000 in
theorem c_X10_batch (l : Launch) (G : GG) (B : Nat) (h : Hp) (a0 : Nat) (vp1 : Int32) (r0 : Int32) (hr : Hp) (hF : F_X10_batch h a0 vp1 = some (r0, hr)) : CI l yX10_batch cX10_batch 3 .int 3 67 0 0 G B h [.ref (B + a0), .int vp1] r0 hr := by
  refine ent_i rfl (Nat.le_of_ble_eq_true rfl) ?_
  intro p e s m args below meth c ls Q CX hnm hret P hl
  have CX : Cxt p m c cX10_batch 3 s args RX10 G B := CX
  obtain ⟨⟨hx, hb, hml, hown, hts⟩, -, -⟩ := id CX
  replace hl : lv_has ls 3 [(0, .ref (B + a0)), (1, .int vp1)] := hl
  generalize s.heap = H at P ⊢
  generalize ([] : List Loc) = locs at P ⊢
  unfold F_X10_batch at hF
  refine lv_aload_n (pc := 0) hx hb dX10_batch_0 rfl (lv_at hl 0 rfl) ?_
  refine lv_iconst (pc := 1) (v := 0) hx hb dX10_batch_1 (by decide) ?_
  refine r_pI (pc := 2) CX P hF fl_X10_1 dX10_batch_2 (fun h1 H locs P hF => ?_)
  refine lv_iload_n (pc := 5) hx hb dX10_batch_5 rfl (lv_at hl 1 rfl) ?_
  refine lv_i2l (pc := 6) hx hb dX10_batch_6 rfl ?_
  refine lv_lconst (pc := 7) (v := 1) hx hb dX10_batch_7 (by decide) ?_
  refine lv_ldc2 (pc := 8) (v := 8) hx hb hown (hts _ tw_1093) dX10_batch_8 ?_
  refine r_cSp (pc := 11) (As := [.long (Int32.toInt64 vp1), .long 1, .long 8]) (rest := []) CX P hl.1 hF ks_X10_85 (fun r q => c_X10_within l G B _ _ _ _ _ q) rfl rfl ⟨Nat.le_of_ble_eq_true rfl, Nat.le_of_ble_eq_true rfl⟩ (Nat.le_of_ble_eq_true rfl) ⟨Nat.le_of_ble_eq_true rfl, Nat.le_of_ble_eq_true rfl⟩ dX10_batch_11 (fun v2 H locs P hF => ?_)
  refine lv_if_ne (pc := 14) (tgt := 20) hx hb dX10_batch_14 (by decide) (fun hc => ?_) (fun hc => ?_)
  · rw [if_neg hc] at hF
    refine lv_aload_n (pc := 20) hx hb dX10_batch_20 rfl (lv_at hl 0 rfl) ?_
    refine r_cVv (pc := 21) (As := []) (rest := []) CX P hl.1 hF kv_X10_211 (fun h1 q => c_X10_begins l G B _ _ _ q) rfl rfl ⟨Nat.le_of_ble_eq_true rfl, Nat.le_of_ble_eq_true rfl⟩ (Nat.le_of_ble_eq_true rfl) ⟨Nat.le_of_ble_eq_true rfl, Nat.le_of_ble_eq_true rfl⟩ dX10_batch_21 (fun h3 H locs P hF => ?_)
    refine lv_aload_n (pc := 24) hx hb dX10_batch_24 rfl (lv_at hl 0 rfl) ?_
    refine r_gR (pc := 25) CX P hF fl_X10_13 dX10_batch_25 (fun a4 hF => ?_)
    refine lv_iconst (pc := 28) (v := 3) hx hb dX10_batch_28 (by decide) ?_
    refine r_aI (pc := 29) CX P hF dX10_batch_29 (fun v5 hF => ?_)
    refine lv_istore_n (pc := 30) hx hb dX10_batch_30 rfl hl (by decide) rfl (fun ls hl => ?_)
    replace hl : lv_has ls 3 [(2, .int v5), (0, .ref (B + a0)), (1, .int vp1)] := hl
    refine lv_aload_n (pc := 31) hx hb dX10_batch_31 rfl (lv_at hl 1 rfl) ?_
    refine r_gR (pc := 32) CX P hF fl_X10_13 dX10_batch_32 (fun a6 hF => ?_)
    refine lv_iconst (pc := 35) (v := 3) hx hb dX10_batch_35 (by decide) ?_
    refine lv_iload_n (pc := 36) hx hb dX10_batch_36 rfl (lv_at hl 2 rfl) ?_
    refine r_sI (pc := 37) CX P hF dX10_batch_37 (fun h7 H locs P hF => ?_)
    refine lv_aload_n (pc := 38) hx hb dX10_batch_38 rfl (lv_at hl 1 rfl) ?_
    refine lv_iload_n (pc := 39) hx hb dX10_batch_39 rfl (lv_at hl 0 rfl) ?_
    refine lv_iconst (pc := 40) (v := 1) hx hb dX10_batch_40 (by decide) ?_
    refine r_cVi (pc := 41) (As := [.int v5, .int 1]) (rest := []) CX P hl.1 hF kv_X10_214 (fun r h1 q => c_X10_ends l G B _ _ _ _ _ _ q) rfl rfl ⟨Nat.le_of_ble_eq_true rfl, Nat.le_of_ble_eq_true rfl⟩ (Nat.le_of_ble_eq_true rfl) ⟨Nat.le_of_ble_eq_true rfl, Nat.le_of_ble_eq_true rfl⟩ dX10_batch_41 (fun v8 h9 H locs P hF => ?_)
    replace hF := un_i hF
    cases hF
    exact hret _ _ _ _ P rfl dX10_batch_44
  · rw [if_pos hc] at hF
    refine lv_bipush (pc := 17) (v := (-3)) hx hb dX10_batch_17 (by decide) ?_
    cases hF
    exact hret _ _ _ _ P rfl dX10_batch_19
def F_X10_outOf (h : Hp) (a0 : Nat) (vp1 : Int32) : Option (Int32 × Hp) :=
(cO h a0 10 (F_X10_laysTotals h a0)).bind fun h1 =>
(gR h1 a0 10 13).bind fun a2 =>
(aI h1 a2 vp1).bind fun v3 =>
some (v3, h1)
set_option maxRecDepth 100000 in
set_option maxHeartbeats 4000000 in
theorem c_X10_outOf (l : Launch) (G : GG) (B : Nat) (h : Hp) (a0 : Nat) (vp1 : Int32) (r0 : Int32) (hr : Hp) (hF : F_X10_outOf h a0 vp1 = some (r0, hr)) : CI l yX10_outOf cX10_outOf 2 .int 4 89 0 0 G B h [.ref (B + a0), .int vp1] r0 hr := by
  refine ent_i rfl (Nat.le_of_ble_eq_true rfl) ?_
  intro p e s m args below meth c ls Q CX hnm hret P hl
  have CX : Cxt p m c cX10_outOf 2 s args RX10 G B := CX
  obtain ⟨⟨hx, hb, hml, hown, hts⟩, -, -⟩ := id CX
  replace hl : lv_has ls 2 [(0, .ref (B + a0)), (1, .int vp1)] := hl
  generalize s.heap = H at P ⊢
  generalize ([] : List Loc) = locs at P ⊢
  unfold F_X10_outOf at hF
  refine lv_aload_n (pc := 0) hx hb dX10_outOf_0 rfl (lv_at hl 0 rfl) ?_
  refine r_cVv (pc := 1) (As := []) (rest := []) CX P hl.1 hF kv_X10_127 (fun h1 q => c_X10_laysTotals l G B _ _ _ q) rfl rfl ⟨Nat.le_of_ble_eq_true rfl, Nat.le_of_ble_eq_true rfl⟩ (Nat.le_of_ble_eq_true rfl) ⟨Nat.le_of_ble_eq_true rfl, Nat.le_of_ble_eq_true rfl⟩ dX10_outOf_1 (fun h1 H locs P hF => ?_)
  refine lv_aload_n (pc := 4) hx hb dX10_outOf_4 rfl (lv_at hl 0 rfl) ?_
  refine r_gR (pc := 5) CX P hF fl_X10_48 dX10_outOf_5 (fun a2 hF => ?_)
  refine lv_iload_n (pc := 8) hx hb dX10_outOf_8 rfl (lv_at hl 1 rfl) ?_
  refine r_aI (pc := 9) CX P hF dX10_outOf_9 (fun v3 hF => ?_)
  cases hF
  exact hret _ _ _ _ P rfl dX10_outOf_10
def F_X10_swap (h : Hp) (a0 : Nat) (vp1 : Int32) : Option (Int32 × Hp) :=
(pI h a0 10 0 0).bind fun h1 =>
(F_X10_within h1 (Int32.toInt64 vp1) 0 999).bind fun v2 =>
if v2 = 0 then (
some ((-3), h1)) else (
(cO h1 a0 10 (F_X10_outOf h1 a0 0)).bind (un fun v3 h4 =>
if v3 ≤ vp1 then (
(cO h4 a0 10 (F_X10_begins h4 a0)).bind fun h5 =>
(gR h5 a0 10 1).bind fun a6 =>
(aI h5 a6 5).bind fun v7 =>
(gR h5 a0 10 1).bind fun a8 =>
(sI h5 a8 5 vp1).bind fun h9 =>
(cO h9 a0 10 (F_X10_ends h9 a0 v7 1)).bind (un fun v10 h11 =>
some (v10, h11))) else (
some ((-4), h4))))
set_option maxRecDepth 100000 in
set_option maxHeartbeats 4000000 in
theorem c_X10_swap (l : Launch) (G : GG) (B : Nat) (h : Hp) (a0 : Nat) (vp1 : Int32) (r0 : Int32) (hr : Hp) (hF : F_X10_swap h a0 vp1 = some (r0, hr)) : CI l yX10_swap cX10_swap 3 .int 5 110 0 0 G B h [.ref (B + a0), .int vp1] r0 hr := by
  refine ent_i rfl (Nat.le_of_ble_eq_true rfl) ?_
  intro p e s m args below meth c ls Q CX hnm hret P hl
  have CX : Cxt p m c cX10_swap 3 s args RX10 G B := CX
  obtain ⟨⟨hx, hb, hml, hown, hts⟩, -, -⟩ := id CX
  replace hl : lv_has ls 3 [(0, .ref (B + a0)), (1, .int vp1)] := hl
  generalize s.heap = H at P ⊢
  generalize ([] : List Loc) = locs at P ⊢
  unfold F_X10_swap at hF
  refine lv_aload_n (pc := 0) hx hb dX10_swap_0 rfl (lv_at hl 0 rfl) ?_
  refine lv_iconst (pc := 1) (v := 0) hx hb dX10_swap_1 (by decide) ?_
  refine r_pI (pc := 2) CX P hF fl_X10_1 dX10_swap_2 (fun h1 H locs P hF => ?_)
  refine lv_iload_n (pc := 5) hx hb dX10_swap_5 rfl (lv_at hl 1 rfl) ?_
  refine lv_i2l (pc := 6) hx hb dX10_swap_6 rfl ?_
  refine lv_lconst (pc := 7) (v := 0) hx hb dX10_swap_7 (by decide) ?_
  refine lv_ldc2 (pc := 8) (v := 999) hx hb hown (hts _ tw_1255) dX10_swap_8 ?_
  refine r_cSp (pc := 11) (As := [.long (Int32.toInt64 vp1), .long 0, .long 999]) (rest := []) CX P hl.1 hF ks_X10_85 (fun r q => c_X10_within l G B _ _ _ _ _ q) rfl rfl ⟨Nat.le_of_ble_eq_true rfl, Nat.le_of_ble_eq_true rfl⟩ (Nat.le_of_ble_eq_true rfl) ⟨Nat.le_of_ble_eq_true rfl, Nat.le_of_ble_eq_true rfl⟩ dX10_swap_11 (fun v2 H locs P hF => ?_)
  refine lv_if_ne (pc := 14) (tgt := 20) hx hb dX10_swap_14 (by decide) (fun hc => ?_) (fun hc => ?_)
  · rw [if_neg hc] at hF
    refine lv_aload_n (pc := 20) hx hb dX10_swap_20 rfl (lv_at hl 0 rfl) ?_
    refine lv_iconst (pc := 21) (v := 0) hx hb dX10_swap_21 (by decide) ?_
    refine r_cVi (pc := 22) (As := [.int 0]) (rest := []) CX P hl.1 hF kv_X10_258 (fun r h1 q => c_X10_outOf l G B _ _ _ _ _ q) rfl rfl ⟨Nat.le_of_ble_eq_true rfl, Nat.le_of_ble_eq_true rfl⟩ (Nat.le_of_ble_eq_true rfl) ⟨Nat.le_of_ble_eq_true rfl, Nat.le_of_ble_eq_true rfl⟩ dX10_swap_22 (fun v3 h4 H locs P hF => ?_)
    replace hF := un_i hF
    refine lv_iload_n (pc := 25) hx hb dX10_swap_25 rfl (lv_at hl 1 rfl) ?_
    refine lv_icmp_le (pc := 26) (tgt := 32) hx hb dX10_swap_26 (by decide) (fun hc => ?_) (fun hc => ?_)
    · rw [if_pos hc] at hF
      refine lv_aload_n (pc := 32) hx hb dX10_swap_32 rfl (lv_at hl 0 rfl) ?_
      refine r_cVv (pc := 33) (As := []) (rest := []) CX P hl.1 hF kv_X10_211 (fun h1 q => c_X10_begins l G B _ _ _ q) rfl rfl ⟨Nat.le_of_ble_eq_true rfl, Nat.le_of_ble_eq_true rfl⟩ (Nat.le_of_ble_eq_true rfl) ⟨Nat.le_of_ble_eq_true rfl, Nat.le_of_ble_eq_true rfl⟩ dX10_swap_33 (fun h5 H locs P hF => ?_)
      refine lv_aload_n (pc := 36) hx hb dX10_swap_36 rfl (lv_at hl 0 rfl) ?_
      refine r_gR (pc := 37) CX P hF fl_X10_13 dX10_swap_37 (fun a6 hF => ?_)
      refine lv_iconst (pc := 40) (v := 5) hx hb dX10_swap_40 (by decide) ?_
      refine r_aI (pc := 41) CX P hF dX10_swap_41 (fun v7 hF => ?_)
      refine lv_istore_n (pc := 42) hx hb dX10_swap_42 rfl hl (by decide) rfl (fun ls hl => ?_)
      replace hl : lv_has ls 3 [(2, .int v7), (0, .ref (B + a0)), (1, .int vp1)] := hl
      refine lv_aload_n (pc := 43) hx hb dX10_swap_43 rfl (lv_at hl 1 rfl) ?_
      refine r_gR (pc := 44) CX P hF fl_X10_13 dX10_swap_44 (fun a8 hF => ?_)
      refine lv_iconst (pc := 47) (v := 5) hx hb dX10_swap_47 (by decide) ?_
      refine lv_iload_n (pc := 48) hx hb dX10_swap_48 rfl (lv_at hl 2 rfl) ?_
      refine r_sI (pc := 49) CX P hF dX10_swap_49 (fun h9 H locs P hF => ?_)
      refine lv_aload_n (pc := 50) hx hb dX10_swap_50 rfl (lv_at hl 1 rfl) ?_
      refine lv_iload_n (pc := 51) hx hb dX10_swap_51 rfl (lv_at hl 0 rfl) ?_
      refine lv_iconst (pc := 52) (v := 1) hx hb dX10_swap_52 (by decide) ?_
      refine r_cVi (pc := 53) (As := [.int v7, .int 1]) (rest := []) CX P hl.1 hF kv_X10_214 (fun r h1 q => c_X10_ends l G B _ _ _ _ _ _ q) rfl rfl ⟨Nat.le_of_ble_eq_true rfl, Nat.le_of_ble_eq_true rfl⟩ (Nat.le_of_ble_eq_true rfl) ⟨Nat.le_of_ble_eq_true rfl, Nat.le_of_ble_eq_true rfl⟩ dX10_swap_53 (fun v10 h11 H locs P hF => ?_)
      replace hF := un_i hF
      cases hF
      exact hret _ _ _ _ P rfl dX10_swap_56
    · rw [if_neg hc] at hF
      refine lv_bipush (pc := 29) (v := (-4)) hx hb dX10_swap_29 (by decide) ?_
      cases hF
      exact hret _ _ _ _ P rfl dX10_swap_31
  · rw [if_pos hc] at hF
    refine lv_bipush (pc := 17) (v := (-3)) hx hb dX10_swap_17 (by decide) ?_
    cases hF
    exact hret _ _ _ _ P rfl dX10_swap_19
def F_X10_cap (h : Hp) (a0 : Nat) (vp1 : Int32) : Option (Int32 × Hp) :=
(pI h a0 10 0 0).bind fun h1 =>
(F_X10_within h1 (Int32.toInt64 vp1) 0 99).bind fun v2 =>
if v2 = 0 then (
some ((-3), h1)) else (
(cO h1 a0 10 (F_X10_begins h1 a0)).bind fun h3 =>
(gR h3 a0 10 1).bind fun a4 =>
(aI h3 a4 6).bind fun v5 =>
(gR h3 a0 10 1).bind fun a6 =>
(sI h3 a6 6 vp1).bind fun h7 =>
(cO h7 a0 10 (F_X10_ends h7 a0 v5 1)).bind (un fun v8 h9 =>
some (v8, h9)))
set_option maxRecDepth 100000 in
set_option maxHeartbeats 4000000 in
theorem c_X10_cap (l : Launch) (G : GG) (B : Nat) (h : Hp) (a0 : Nat) (vp1 : Int32) (r0 : Int32) (hr : Hp) (hF : F_X10_cap h a0 vp1 = some (r0, hr)) : CI l yX10_cap cX10_cap 3 .int 3 67 0 0 G B h [.ref (B + a0), .int vp1] r0 hr := by
  refine ent_i rfl (Nat.le_of_ble_eq_true rfl) ?_
  intro p e s m args below meth c ls Q CX hnm hret P hl
  have CX : Cxt p m c cX10_cap 3 s args RX10 G B := CX
  obtain ⟨⟨hx, hb, hml, hown, hts⟩, -, -⟩ := id CX
  replace hl : lv_has ls 3 [(0, .ref (B + a0)), (1, .int vp1)] := hl
  generalize s.heap = H at P ⊢
  generalize ([] : List Loc) = locs at P ⊢
  unfold F_X10_cap at hF
  refine lv_aload_n (pc := 0) hx hb dX10_cap_0 rfl (lv_at hl 0 rfl) ?_
  refine lv_iconst (pc := 1) (v := 0) hx hb dX10_cap_1 (by decide) ?_
  refine r_pI (pc := 2) CX P hF fl_X10_1 dX10_cap_2 (fun h1 H locs P hF => ?_)
  refine lv_iload_n (pc := 5) hx hb dX10_cap_5 rfl (lv_at hl 1 rfl) ?_
  refine lv_i2l (pc := 6) hx hb dX10_cap_6 rfl ?_
  refine lv_lconst (pc := 7) (v := 0) hx hb dX10_cap_7 (by decide) ?_
  refine lv_ldc2 (pc := 8) (v := 99) hx hb hown (hts _ tw_1213) dX10_cap_8 ?_
  refine r_cSp (pc := 11) (As := [.long (Int32.toInt64 vp1), .long 0, .long 99]) (rest := []) CX P hl.1 hF ks_X10_85 (fun r q => c_X10_within l G B _ _ _ _ _ q) rfl rfl ⟨Nat.le_of_ble_eq_true rfl, Nat.le_of_ble_eq_true rfl⟩ (Nat.le_of_ble_eq_true rfl) ⟨Nat.le_of_ble_eq_true rfl, Nat.le_of_ble_eq_true rfl⟩ dX10_cap_11 (fun v2 H locs P hF => ?_)
  refine lv_if_ne (pc := 14) (tgt := 20) hx hb dX10_cap_14 (by decide) (fun hc => ?_) (fun hc => ?_)
  · rw [if_neg hc] at hF
    refine lv_aload_n (pc := 20) hx hb dX10_cap_20 rfl (lv_at hl 0 rfl) ?_
    refine r_cVv (pc := 21) (As := []) (rest := []) CX P hl.1 hF kv_X10_211 (fun h1 q => c_X10_begins l G B _ _ _ q) rfl rfl ⟨Nat.le_of_ble_eq_true rfl, Nat.le_of_ble_eq_true rfl⟩ (Nat.le_of_ble_eq_true rfl) ⟨Nat.le_of_ble_eq_true rfl, Nat.le_of_ble_eq_true rfl⟩ dX10_cap_21 (fun h3 H locs P hF => ?_)
    refine lv_aload_n (pc := 24) hx hb dX10_cap_24 rfl (lv_at hl 0 rfl) ?_
    refine r_gR (pc := 25) CX P hF fl_X10_13 dX10_cap_25 (fun a4 hF => ?_)
    refine lv_bipush (pc := 28) (v := 6) hx hb dX10_cap_28 (by decide) ?_
    refine r_aI (pc := 30) CX P hF dX10_cap_30 (fun v5 hF => ?_)
    refine lv_istore_n (pc := 31) hx hb dX10_cap_31 rfl hl (by decide) rfl (fun ls hl => ?_)
    replace hl : lv_has ls 3 [(2, .int v5), (0, .ref (B + a0)), (1, .int vp1)] := hl
    refine lv_aload_n (pc := 32) hx hb dX10_cap_32 rfl (lv_at hl 1 rfl) ?_
    refine r_gR (pc := 33) CX P hF fl_X10_13 dX10_cap_33 (fun a6 hF => ?_)
    refine lv_bipush (pc := 36) (v := 6) hx hb dX10_cap_36 (by decide) ?_
    refine lv_iload_n (pc := 38) hx hb dX10_cap_38 rfl (lv_at hl 2 rfl) ?_
    refine r_sI (pc := 39) CX P hF dX10_cap_39 (fun h7 H locs P hF => ?_)
    refine lv_aload_n (pc := 40) hx hb dX10_cap_40 rfl (lv_at hl 1 rfl) ?_
    refine lv_iload_n (pc := 41) hx hb dX10_cap_41 rfl (lv_at hl 0 rfl) ?_
    refine lv_iconst (pc := 42) (v := 1) hx hb dX10_cap_42 (by decide) ?_
    refine r_cVi (pc := 43) (As := [.int v5, .int 1]) (rest := []) CX P hl.1 hF kv_X10_214 (fun r h1 q => c_X10_ends l G B _ _ _ _ _ _ q) rfl rfl ⟨Nat.le_of_ble_eq_true rfl, Nat.le_of_ble_eq_true rfl⟩ (Nat.le_of_ble_eq_true rfl) ⟨Nat.le_of_ble_eq_true rfl, Nat.le_of_ble_eq_true rfl⟩ dX10_cap_43 (fun v8 h9 H locs P hF => ?_)
    replace hF := un_i hF
    cases hF
    exact hret _ _ _ _ P rfl dX10_cap_46
  · rw [if_pos hc] at hF
    refine lv_bipush (pc := 17) (v := (-3)) hx hb dX10_cap_17 (by decide) ?_
    cases hF
    exact hret _ _ _ _ P rfl dX10_cap_19
def F_X10_laysAsks_L4 (rf : Hp → Nat → Int32 → Option (Int32 × Hp)) (a2 : Nat) (v3 : Int32) (v4 : Int32) (v5 : Int32) (h6 : Hp) : Option ((Int32 × Int32 × Hp) ⊕ (Int32 × Hp)) :=
if 12 ≤ v5 then (
some (.inr (v4, h6))) else (
(cO h6 a2 10 (F_X10_isGroup h6 a2 v5)).bind fun v7 =>
if v7 = 0 then (
bl (v5 + 1) fun v8 =>
some (.inl (v4, v8, h6))) else (
(cO h6 a2 10 (F_X10_parentOf h6 a2 v5)).bind (un fun v9 h10 =>
if v9 = v3 then (
(cO h10 a2 10 (rf h10 a2 v5)).bind (un fun v12 h13 =>
bl (v4 + v12) fun v14 =>
bl (v5 + 1) fun v15 =>
some (.inl (v14, v15, h13)))) else (
bl (v5 + 1) fun v11 =>
some (.inl (v4, v11, h10))))))
def F_X10_laysAsks_L43 (rf : Hp → Nat → Int32 → Option (Int32 × Hp)) (a19 : Nat) (v20 : Int32) (v21 : Int32) (v22 : Int32) (h23 : Hp) : Option ((Int32 × Int32 × Hp) ⊕ (Int32 × Hp)) :=
if 16 ≤ v22 then (
some (.inr (v21, h23))) else (
(cO h23 a19 10 (F_X10_isProcess h23 a19 v22)).bind fun v24 =>
if v24 = 0 then (
bl (v22 + 1) fun v25 =>
some (.inl (v21, v25, h23))) else (
(cO h23 a19 10 (F_X10_groupOf h23 a19 v22)).bind (un fun v26 h27 =>
if v26 = v20 then (
(gR h27 a19 10 17).bind fun a28 =>
(cO h27 a19 10 (F_X10_ofProcess h27 a19 v22 4 0)).bind (un fun v29 h30 =>
(if v29 = 0 then (
(cO h30 a19 10 (F_X10_ofProcess h30 a19 v22 6 0)).bind (un fun v32 h33 =>
some ((v32 : Int32), h33))) else (
some ((0 : Int32), h30))).bind fun q31 =>
bl q31.1 fun v34 =>
bl q31.2 fun h35 =>
(sI h35 a28 (12 + v22) v34).bind fun h36 =>
(gR h36 a19 10 17).bind fun a37 =>
(aI h36 a37 (12 + v22)).bind fun v38 =>
bl (v21 + v38) fun v39 =>
bl (v22 + 1) fun v40 =>
some (.inl (v39, v40, h36)))) else (
bl (v22 + 1) fun v41 =>
some (.inl (v21, v41, h27))))))
def F_X10_laysAsks : Nat → Hp → Nat → Int32 → Option (Int32 × Hp)
  | 0, _, _, _ => none
  | d + 1, h, a0, vp1 =>
    (loopF (fun x => F_X10_laysAsks_L4 (F_X10_laysAsks d) a0 vp1 x.1 x.2.1 x.2.2) 6000 (0, 1, h)).bind fun q1 =>
    bl q1.1 fun v16 =>
    bl q1.2 fun h17 =>
    (loopF (fun x => F_X10_laysAsks_L43 (F_X10_laysAsks d) a0 vp1 x.1 x.2.1 x.2.2) 6000 (v16, 0, h17)).bind fun q18 =>
    bl q18.1 fun v42 =>
    bl q18.2 fun h43 =>
    (cO h43 a0 10 (F_X10_of h43 a0 vp1 7 0)).bind (un fun v44 h45 =>
    (gR h45 a0 10 17).bind fun a46 =>
    (if v44 = 99 then (
    some ((v42 : Int32), h45)) else (
    (cO h45 a0 10 (F_X10_of h45 a0 vp1 24 0)).bind (un fun v48 h49 =>
    (F_X10_greater h49 0 (v44 - v48)).bind fun v50 =>
    (F_X10_lesser h49 v42 v50).bind fun v51 =>
    some ((v51 : Int32), h49)))).bind fun q47 =>
    bl q47.1 fun v52 =>
    bl q47.2 fun h53 =>
    (sI h53 a46 vp1 v52).bind fun h54 =>
    (gR h54 a0 10 17).bind fun a55 =>
    (aI h54 a55 vp1).bind fun v56 =>
    some (v56, h54))
set_option maxRecDepth 100000 in
set_option maxHeartbeats 4000000 in
theorem c_X10_laysAsks : ∀ (d : Nat) (l : Launch) (G : GG) (B : Nat) (h : Hp) (a0 : Nat) (vp1 : Int32) (r0 : Int32) (hr : Hp) (hF : F_X10_laysAsks d h a0 vp1 = some (r0, hr)), CI l yX10_laysAsks cX10_laysAsks 4 .int (2 + d) (46 + 60 * d) 0 0 G B h [.ref (B + a0), .int vp1] r0 hr := by
  intro d
  induction d with
  | zero => intro l G B h a0 vp1 r0 hr hF; cases hF
  | succ d ihd =>
    intro l G B h a0 vp1 r0 hr hF
    refine ent_i rfl (Nat.le_of_ble_eq_true rfl) ?_
    intro p e s m args below meth c ls Q CX hnm hret P hl
    have CX : Cxt p m c cX10_laysAsks 4 s args RX10 G B := CX
    obtain ⟨⟨hx, hb, hml, hown, hts⟩, -, -⟩ := id CX
    replace hl : lv_has ls 4 [(0, .ref (B + a0)), (1, .int vp1)] := hl
    generalize s.heap = H at P ⊢
    generalize ([] : List Loc) = locs at P ⊢
    rw [F_X10_laysAsks] at hF
    refine lv_iconst (pc := 0) (v := 0) hx hb dX10_laysAsks_0 (by decide) ?_
    refine lv_istore_n (pc := 1) hx hb dX10_laysAsks_1 rfl hl (by decide) rfl (fun ls hl => ?_)
    replace hl : lv_has ls 4 [(2, .int 0), (0, .ref (B + a0)), (1, .int vp1)] := hl
    refine lv_iconst (pc := 2) (v := 1) hx hb dX10_laysAsks_2 (by decide) ?_
    refine lv_istore_n (pc := 3) hx hb dX10_laysAsks_3 rfl hl (by decide) rfl (fun ls hl => ?_)
    replace hl : lv_has ls 4 [(3, .int 1), (2, .int 0), (0, .ref (B + a0)), (1, .int vp1)] := hl
    obtain ⟨r1, hLp1, hK1⟩ := bd_some hF
    have hX1 : ∀ (v16 : Int32) (h17 : Hp) (H : Heap) (locs : List Loc) (ls : Array Slot), Pic G B h17 s H locs → lv_has ls 4 [(0, .ref (B + a0)), (1, .int vp1), (2, .int v16)] → (v16, h17) = r1 → W p l e (rmM (2 + (d + 1)) (46 + 60 * (d + 1)) 0 0) s m args below meth c H locs 0 0 Q (F0 m 41 ls []) := by
      intro v16 h17 H locs ls P hl er
      subst er
      have hF := hK1
      replace hF := bl_i hF
      replace hF := bl_i hF
      try dsimp only at hF
      refine lv_iconst (pc := 41) (v := 0) hx hb dX10_laysAsks_41 (by decide) ?_
      refine lv_istore_n (pc := 42) hx hb dX10_laysAsks_42 rfl hl (by decide) rfl (fun ls hl => ?_)
      replace hl : lv_has ls 4 [(3, .int 0), (0, .ref (B + a0)), (1, .int vp1), (2, .int v16)] := hl
      obtain ⟨r18, hLp18, hK18⟩ := bd_some hF
      have hX18 : ∀ (v42 : Int32) (h43 : Hp) (H : Heap) (locs : List Loc) (ls : Array Slot), Pic G B h43 s H locs → lv_has ls 4 [(0, .ref (B + a0)), (1, .int vp1), (2, .int v42)] → (v42, h43) = r18 → W p l e (rmM (2 + (d + 1)) (46 + 60 * (d + 1)) 0 0) s m args below meth c H locs 0 0 Q (F0 m 118 ls []) := by
        intro v42 h43 H locs ls P hl er
        subst er
        have hF := hK18
        replace hF := bl_i hF
        replace hF := bl_i hF
        try dsimp only at hF
        refine lv_aload_n (pc := 118) hx hb dX10_laysAsks_118 rfl (lv_at hl 0 rfl) ?_
        refine lv_iload_n (pc := 119) hx hb dX10_laysAsks_119 rfl (lv_at hl 1 rfl) ?_
        refine lv_bipush (pc := 120) (v := 7) hx hb dX10_laysAsks_120 (by decide) ?_
        refine lv_iconst (pc := 122) (v := 0) hx hb dX10_laysAsks_122 (by decide) ?_
        refine r_cVi (pc := 123) (As := [.int vp1, .int 7, .int 0]) (rest := []) CX P hl.1 hF kv_X10_99 (fun r h1 q => c_X10_of l G B _ _ _ _ _ _ _ q) rfl rfl ⟨by show _ ≤ (rmM _ _ _ _).frames; simp only [rmM]; omega, by show _ ≤ (rmM _ _ _ _).locals; simp only [rmM]; omega⟩ (Nat.le_of_ble_eq_true rfl) ⟨Nat.le_of_ble_eq_true rfl, Nat.le_of_ble_eq_true rfl⟩ dX10_laysAsks_123 (fun v44 h45 H locs P hF => ?_)
        replace hF := un_i hF
        refine lv_istore_n (pc := 126) hx hb dX10_laysAsks_126 rfl hl (by decide) rfl (fun ls hl => ?_)
        replace hl : lv_has ls 4 [(3, .int v44), (0, .ref (B + a0)), (1, .int vp1), (2, .int v42)] := hl
        refine lv_aload_n (pc := 127) hx hb dX10_laysAsks_127 rfl (lv_at hl 1 rfl) ?_
        refine r_gR (pc := 128) CX P hF fl_X10_60 dX10_laysAsks_128 (fun a46 hF => ?_)
        refine lv_iload_n (pc := 131) hx hb dX10_laysAsks_131 rfl (lv_at hl 2 rfl) ?_
        refine lv_iload_n (pc := 132) hx hb dX10_laysAsks_132 rfl (lv_at hl 0 rfl) ?_
        refine lv_bipush (pc := 133) (v := 99) hx hb dX10_laysAsks_133 (by decide) ?_
        obtain ⟨j47, hA47, hK47⟩ := bd_some hF
        have hJ47 : ∀ (v52 : Int32) (h53 : Hp) (H : Heap) (locs : List Loc) (ls : Array Slot), Pic G B h53 s H locs → lv_has ls 4 [(0, .ref (B + a0)), (1, .int vp1)] → (v52, h53) = j47 → W p l e (rmM (2 + (d + 1)) (46 + 60 * (d + 1)) 0 0) s m args below meth c H locs 0 0 Q (F0 m 160 ls [.int v52, .int vp1, .ref (B + a46)]) := by
          intro v52 h53 H locs ls P hl ej
          subst ej
          have hF := hK47
          replace hF := bl_i hF
          replace hF := bl_i hF
          try dsimp only at hF
          refine r_sI (pc := 160) CX P hF dX10_laysAsks_160 (fun h54 H locs P hF => ?_)
          refine lv_aload_n (pc := 161) hx hb dX10_laysAsks_161 rfl (lv_at hl 0 rfl) ?_
          refine r_gR (pc := 162) CX P hF fl_X10_60 dX10_laysAsks_162 (fun a55 hF => ?_)
          refine lv_iload_n (pc := 165) hx hb dX10_laysAsks_165 rfl (lv_at hl 1 rfl) ?_
          refine r_aI (pc := 166) CX P hF dX10_laysAsks_166 (fun v56 hF => ?_)
          cases hF
          exact hret _ _ _ _ P rfl dX10_laysAsks_167
        replace hF := hA47
        refine lv_icmp_ne (pc := 135) (tgt := 142) hx hb dX10_laysAsks_135 (by decide) (fun hc => ?_) (fun hc => ?_)
        · rw [if_neg hc] at hF
          refine lv_iload_n (pc := 142) hx hb dX10_laysAsks_142 rfl (lv_at hl 3 rfl) ?_
          refine lv_iconst (pc := 143) (v := 0) hx hb dX10_laysAsks_143 (by decide) ?_
          refine lv_iload_n (pc := 144) hx hb dX10_laysAsks_144 rfl (lv_at hl 0 rfl) ?_
          refine lv_aload_n (pc := 145) hx hb dX10_laysAsks_145 rfl (lv_at hl 1 rfl) ?_
          refine lv_iload_n (pc := 146) hx hb dX10_laysAsks_146 rfl (lv_at hl 2 rfl) ?_
          refine lv_bipush (pc := 147) (v := 24) hx hb dX10_laysAsks_147 (by decide) ?_
          refine lv_iconst (pc := 149) (v := 0) hx hb dX10_laysAsks_149 (by decide) ?_
          refine r_cVi (pc := 150) (As := [.int vp1, .int 24, .int 0]) (rest := [.int v44, .int 0, .int v42, .int vp1, .ref (B + a46)]) CX P hl.1 hF kv_X10_99 (fun r h1 q => c_X10_of l G B _ _ _ _ _ _ _ q) rfl rfl ⟨by show _ ≤ (rmM _ _ _ _).frames; simp only [rmM]; omega, by show _ ≤ (rmM _ _ _ _).locals; simp only [rmM]; omega⟩ (Nat.le_of_ble_eq_true rfl) ⟨Nat.le_of_ble_eq_true rfl, Nat.le_of_ble_eq_true rfl⟩ dX10_laysAsks_150 (fun v48 h49 H locs P hF => ?_)
          replace hF := un_i hF
          refine lv_isub (pc := 153) hx hb dX10_laysAsks_153 ?_
          refine r_cSp (pc := 154) (As := [.int 0, .int (v44 - v48)]) (rest := [.int v42, .int vp1, .ref (B + a46)]) CX P hl.1 hF ks_X10_143 (fun r q => c_X10_greater l G B _ _ _ _ q) rfl rfl ⟨by show _ ≤ (rmM _ _ _ _).frames; simp only [rmM]; omega, by show _ ≤ (rmM _ _ _ _).locals; simp only [rmM]; omega⟩ (Nat.le_of_ble_eq_true rfl) ⟨Nat.le_of_ble_eq_true rfl, Nat.le_of_ble_eq_true rfl⟩ dX10_laysAsks_154 (fun v50 H locs P hF => ?_)
          refine r_cSp (pc := 157) (As := [.int v42, .int v50]) (rest := [.int vp1, .ref (B + a46)]) CX P hl.1 hF ks_X10_137 (fun r q => c_X10_lesser l G B _ _ _ _ q) rfl rfl ⟨by show _ ≤ (rmM _ _ _ _).frames; simp only [rmM]; omega, by show _ ≤ (rmM _ _ _ _).locals; simp only [rmM]; omega⟩ (Nat.le_of_ble_eq_true rfl) ⟨Nat.le_of_ble_eq_true rfl, Nat.le_of_ble_eq_true rfl⟩ dX10_laysAsks_157 (fun v51 H locs P hF => ?_)
          exact hJ47 _ _ _ _ _ P (lv_sub hl [1, 2] rfl) (Option.some.inj hF)
        · rw [if_pos hc] at hF
          refine lv_iload_n (pc := 138) hx hb dX10_laysAsks_138 rfl (lv_at hl 3 rfl) ?_
          refine lv_goto (pc := 139) (tgt := 160) hx hb dX10_laysAsks_139 (by decide) ?_
          exact hJ47 _ _ _ _ _ P (lv_sub hl [1, 2] rfl) (Option.some.inj hF)
      have hL18 : ∀ (n : Nat) (v21 : Int32) (v22 : Int32) (h23 : Hp) (H : Heap) (locs : List Loc) (ls : Array Slot), Pic G B h23 s H locs → lv_has ls 4 [(0, .ref (B + a0)), (1, .int vp1), (2, .int v21), (3, .int v22)] → loopF (fun x => F_X10_laysAsks_L43 (F_X10_laysAsks d) a0 vp1 x.1 x.2.1 x.2.2) n (v21, v22, h23) = some r18 → W p l e (rmM (2 + (d + 1)) (46 + 60 * (d + 1)) 0 0) s m args below meth c H locs 0 0 Q (F0 m 43 ls []) := by
        intro n
        induction n with
        | zero => intro v21 v22 h23 H locs ls P hl hq; cases hq
        | succ n ih =>
          intro v21 v22 h23 H locs ls P hl hq
          obtain ⟨z18, hS18, hI18, hR18⟩ := loop_some hq
          have hF : F_X10_laysAsks_L43 (F_X10_laysAsks d) a0 vp1 v21 v22 h23 = some z18 := hS18
          unfold F_X10_laysAsks_L43 at hF
          refine lv_iload_n (pc := 43) hx hb dX10_laysAsks_43 rfl (lv_at hl 3 rfl) ?_
          refine lv_bipush (pc := 44) (v := 16) hx hb dX10_laysAsks_44 (by decide) ?_
          refine lv_icmp_ge (pc := 46) (tgt := 118) hx hb dX10_laysAsks_46 (by decide) (fun hc => ?_) (fun hc => ?_)
          · rw [if_pos hc] at hF
            exact hX18 _ _ _ _ _ P (lv_sub hl [0, 1, 2] rfl) (hR18 _ (Option.some.inj hF).symm)
          · rw [if_neg hc] at hF
            refine lv_aload_n (pc := 49) hx hb dX10_laysAsks_49 rfl (lv_at hl 0 rfl) ?_
            refine lv_iload_n (pc := 50) hx hb dX10_laysAsks_50 rfl (lv_at hl 3 rfl) ?_
            refine r_cVp (pc := 51) (As := [.int v22]) (rest := []) CX P hl.1 hF kv_X10_117 (fun r q => c_X10_isProcess l G B _ _ _ _ q) rfl rfl ⟨by show _ ≤ (rmM _ _ _ _).frames; simp only [rmM]; omega, by show _ ≤ (rmM _ _ _ _).locals; simp only [rmM]; omega⟩ (Nat.le_of_ble_eq_true rfl) ⟨Nat.le_of_ble_eq_true rfl, Nat.le_of_ble_eq_true rfl⟩ dX10_laysAsks_51 (fun v24 H locs P hF => ?_)
            refine lv_if_eq (pc := 54) (tgt := 112) hx hb dX10_laysAsks_54 (by decide) (fun hc => ?_) (fun hc => ?_)
            · rw [if_pos hc] at hF
              obtain ⟨v25, ev25, hF⟩ := bl_o hF
              refine lv_iinc (pc := 112) (k := 3) (v := v25) hx hb dX10_laysAsks_112 hl rfl ev25 (by decide) rfl (fun ls hl => ?_)
              replace hl : lv_has ls 4 [(3, .int v25), (0, .ref (B + a0)), (1, .int vp1), (2, .int v21)] := hl
              refine lv_goto (pc := 115) (tgt := 43) hx hb dX10_laysAsks_115 (by decide) ?_
              exact ih _ _ _ _ _ _ P (lv_sub hl [1, 2, 3, 0] rfl) (hI18 _ (Option.some.inj hF).symm)
            · rw [if_neg hc] at hF
              refine lv_aload_n (pc := 57) hx hb dX10_laysAsks_57 rfl (lv_at hl 0 rfl) ?_
              refine lv_iload_n (pc := 58) hx hb dX10_laysAsks_58 rfl (lv_at hl 3 rfl) ?_
              refine r_cVi (pc := 59) (As := [.int v22]) (rest := []) CX P hl.1 hF kv_X10_120 (fun r h1 q => c_X10_groupOf l G B _ _ _ _ _ q) rfl rfl ⟨by show _ ≤ (rmM _ _ _ _).frames; simp only [rmM]; omega, by show _ ≤ (rmM _ _ _ _).locals; simp only [rmM]; omega⟩ (Nat.le_of_ble_eq_true rfl) ⟨Nat.le_of_ble_eq_true rfl, Nat.le_of_ble_eq_true rfl⟩ dX10_laysAsks_59 (fun v26 h27 H locs P hF => ?_)
              replace hF := un_i hF
              refine lv_iload_n (pc := 62) hx hb dX10_laysAsks_62 rfl (lv_at hl 1 rfl) ?_
              refine lv_icmp_eq (pc := 63) (tgt := 69) hx hb dX10_laysAsks_63 (by decide) (fun hc => ?_) (fun hc => ?_)
              · rw [if_pos hc] at hF
                refine lv_aload_n (pc := 69) hx hb dX10_laysAsks_69 rfl (lv_at hl 0 rfl) ?_
                refine r_gR (pc := 70) CX P hF fl_X10_60 dX10_laysAsks_70 (fun a28 hF => ?_)
                refine lv_bipush (pc := 73) (v := 12) hx hb dX10_laysAsks_73 (by decide) ?_
                refine lv_iload_n (pc := 75) hx hb dX10_laysAsks_75 rfl (lv_at hl 3 rfl) ?_
                refine lv_iadd (pc := 76) hx hb dX10_laysAsks_76 ?_
                refine lv_aload_n (pc := 77) hx hb dX10_laysAsks_77 rfl (lv_at hl 0 rfl) ?_
                refine lv_iload_n (pc := 78) hx hb dX10_laysAsks_78 rfl (lv_at hl 3 rfl) ?_
                refine lv_iconst (pc := 79) (v := 4) hx hb dX10_laysAsks_79 (by decide) ?_
                refine lv_iconst (pc := 80) (v := 0) hx hb dX10_laysAsks_80 (by decide) ?_
                refine r_cVi (pc := 81) (As := [.int v22, .int 4, .int 0]) (rest := [.int (12 + v22), .ref (B + a28)]) CX P hl.1 hF kv_X10_114 (fun r h1 q => c_X10_ofProcess l G B _ _ _ _ _ _ _ q) rfl rfl ⟨by show _ ≤ (rmM _ _ _ _).frames; simp only [rmM]; omega, by show _ ≤ (rmM _ _ _ _).locals; simp only [rmM]; omega⟩ (Nat.le_of_ble_eq_true rfl) ⟨Nat.le_of_ble_eq_true rfl, Nat.le_of_ble_eq_true rfl⟩ dX10_laysAsks_81 (fun v29 h30 H locs P hF => ?_)
                replace hF := un_i hF
                obtain ⟨j31, hA31, hK31⟩ := bd_some hF
                have hJ31 : ∀ (v34 : Int32) (h35 : Hp) (H : Heap) (locs : List Loc) (ls : Array Slot), Pic G B h35 s H locs → lv_has ls 4 [(0, .ref (B + a0)), (1, .int vp1), (2, .int v21), (3, .int v22)] → (v34, h35) = j31 → W p l e (rmM (2 + (d + 1)) (46 + 60 * (d + 1)) 0 0) s m args below meth c H locs 0 0 Q (F0 m 99 ls [.int v34, .int (12 + v22), .ref (B + a28)]) := by
                  intro v34 h35 H locs ls P hl ej
                  subst ej
                  have hF := hK31
                  replace hF := bl_i hF
                  replace hF := bl_i hF
                  try dsimp only at hF
                  refine r_sI (pc := 99) CX P hF dX10_laysAsks_99 (fun h36 H locs P hF => ?_)
                  refine lv_iload_n (pc := 100) hx hb dX10_laysAsks_100 rfl (lv_at hl 2 rfl) ?_
                  refine lv_aload_n (pc := 101) hx hb dX10_laysAsks_101 rfl (lv_at hl 0 rfl) ?_
                  refine r_gR (pc := 102) CX P hF fl_X10_60 dX10_laysAsks_102 (fun a37 hF => ?_)
                  refine lv_bipush (pc := 105) (v := 12) hx hb dX10_laysAsks_105 (by decide) ?_
                  refine lv_iload_n (pc := 107) hx hb dX10_laysAsks_107 rfl (lv_at hl 3 rfl) ?_
                  refine lv_iadd (pc := 108) hx hb dX10_laysAsks_108 ?_
                  refine r_aI (pc := 109) CX P hF dX10_laysAsks_109 (fun v38 hF => ?_)
                  refine lv_iadd (pc := 110) hx hb dX10_laysAsks_110 ?_
                  refine lv_topi (fun v39 ev39 => ?_)
                  replace hF := bl_e hF ev39
                  refine lv_istore_n (pc := 111) hx hb dX10_laysAsks_111 rfl hl (by decide) rfl (fun ls hl => ?_)
                  replace hl : lv_has ls 4 [(2, .int v39), (0, .ref (B + a0)), (1, .int vp1), (3, .int v22)] := hl
                  obtain ⟨v40, ev40, hF⟩ := bl_o hF
                  refine lv_iinc (pc := 112) (k := 3) (v := v40) hx hb dX10_laysAsks_112 hl rfl ev40 (by decide) rfl (fun ls hl => ?_)
                  replace hl : lv_has ls 4 [(3, .int v40), (2, .int v39), (0, .ref (B + a0)), (1, .int vp1)] := hl
                  refine lv_goto (pc := 115) (tgt := 43) hx hb dX10_laysAsks_115 (by decide) ?_
                  exact ih _ _ _ _ _ _ P (lv_sub hl [2, 3, 1, 0] rfl) (hI18 _ (Option.some.inj hF).symm)
                replace hF := hA31
                refine lv_if_ne (pc := 84) (tgt := 98) hx hb dX10_laysAsks_84 (by decide) (fun hc => ?_) (fun hc => ?_)
                · rw [if_neg hc] at hF
                  refine lv_iconst (pc := 98) (v := 0) hx hb dX10_laysAsks_98 (by decide) ?_
                  exact hJ31 _ _ _ _ _ P (lv_sub hl [0, 1, 2, 3] rfl) (Option.some.inj hF)
                · rw [if_pos hc] at hF
                  refine lv_aload_n (pc := 87) hx hb dX10_laysAsks_87 rfl (lv_at hl 0 rfl) ?_
                  refine lv_iload_n (pc := 88) hx hb dX10_laysAsks_88 rfl (lv_at hl 3 rfl) ?_
                  refine lv_bipush (pc := 89) (v := 6) hx hb dX10_laysAsks_89 (by decide) ?_
                  refine lv_iconst (pc := 91) (v := 0) hx hb dX10_laysAsks_91 (by decide) ?_
                  refine r_cVi (pc := 92) (As := [.int v22, .int 6, .int 0]) (rest := [.int (12 + v22), .ref (B + a28)]) CX P hl.1 hF kv_X10_114 (fun r h1 q => c_X10_ofProcess l G B _ _ _ _ _ _ _ q) rfl rfl ⟨by show _ ≤ (rmM _ _ _ _).frames; simp only [rmM]; omega, by show _ ≤ (rmM _ _ _ _).locals; simp only [rmM]; omega⟩ (Nat.le_of_ble_eq_true rfl) ⟨Nat.le_of_ble_eq_true rfl, Nat.le_of_ble_eq_true rfl⟩ dX10_laysAsks_92 (fun v32 h33 H locs P hF => ?_)
                  replace hF := un_i hF
                  refine lv_goto (pc := 95) (tgt := 99) hx hb dX10_laysAsks_95 (by decide) ?_
                  exact hJ31 _ _ _ _ _ P (lv_sub hl [0, 1, 2, 3] rfl) (Option.some.inj hF)
              · rw [if_neg hc] at hF
                refine lv_goto (pc := 66) (tgt := 112) hx hb dX10_laysAsks_66 (by decide) ?_
                obtain ⟨v41, ev41, hF⟩ := bl_o hF
                refine lv_iinc (pc := 112) (k := 3) (v := v41) hx hb dX10_laysAsks_112 hl rfl ev41 (by decide) rfl (fun ls hl => ?_)
                replace hl : lv_has ls 4 [(3, .int v41), (0, .ref (B + a0)), (1, .int vp1), (2, .int v21)] := hl
                refine lv_goto (pc := 115) (tgt := 43) hx hb dX10_laysAsks_115 (by decide) ?_
                exact ih _ _ _ _ _ _ P (lv_sub hl [1, 2, 3, 0] rfl) (hI18 _ (Option.some.inj hF).symm)
      exact hL18 _ _ _ _ _ _ _ P (lv_sub hl [1, 2, 3, 0] rfl) hLp18
    have hL1 : ∀ (n : Nat) (v4 : Int32) (v5 : Int32) (h6 : Hp) (H : Heap) (locs : List Loc) (ls : Array Slot), Pic G B h6 s H locs → lv_has ls 4 [(0, .ref (B + a0)), (1, .int vp1), (2, .int v4), (3, .int v5)] → loopF (fun x => F_X10_laysAsks_L4 (F_X10_laysAsks d) a0 vp1 x.1 x.2.1 x.2.2) n (v4, v5, h6) = some r1 → W p l e (rmM (2 + (d + 1)) (46 + 60 * (d + 1)) 0 0) s m args below meth c H locs 0 0 Q (F0 m 4 ls []) := by
      intro n
      induction n with
      | zero => intro v4 v5 h6 H locs ls P hl hq; cases hq
      | succ n ih =>
        intro v4 v5 h6 H locs ls P hl hq
        obtain ⟨z1, hS1, hI1, hR1⟩ := loop_some hq
        have hF : F_X10_laysAsks_L4 (F_X10_laysAsks d) a0 vp1 v4 v5 h6 = some z1 := hS1
        unfold F_X10_laysAsks_L4 at hF
        refine lv_iload_n (pc := 4) hx hb dX10_laysAsks_4 rfl (lv_at hl 3 rfl) ?_
        refine lv_bipush (pc := 5) (v := 12) hx hb dX10_laysAsks_5 (by decide) ?_
        refine lv_icmp_ge (pc := 7) (tgt := 41) hx hb dX10_laysAsks_7 (by decide) (fun hc => ?_) (fun hc => ?_)
        · rw [if_pos hc] at hF
          exact hX1 _ _ _ _ _ P (lv_sub hl [0, 1, 2] rfl) (hR1 _ (Option.some.inj hF).symm)
        · rw [if_neg hc] at hF
          refine lv_aload_n (pc := 10) hx hb dX10_laysAsks_10 rfl (lv_at hl 0 rfl) ?_
          refine lv_iload_n (pc := 11) hx hb dX10_laysAsks_11 rfl (lv_at hl 3 rfl) ?_
          refine r_cVp (pc := 12) (As := [.int v5]) (rest := []) CX P hl.1 hF kv_X10_107 (fun r q => c_X10_isGroup l G B _ _ _ _ q) rfl rfl ⟨by show _ ≤ (rmM _ _ _ _).frames; simp only [rmM]; omega, by show _ ≤ (rmM _ _ _ _).locals; simp only [rmM]; omega⟩ (Nat.le_of_ble_eq_true rfl) ⟨Nat.le_of_ble_eq_true rfl, Nat.le_of_ble_eq_true rfl⟩ dX10_laysAsks_12 (fun v7 H locs P hF => ?_)
          refine lv_if_eq (pc := 15) (tgt := 35) hx hb dX10_laysAsks_15 (by decide) (fun hc => ?_) (fun hc => ?_)
          · rw [if_pos hc] at hF
            obtain ⟨v8, ev8, hF⟩ := bl_o hF
            refine lv_iinc (pc := 35) (k := 3) (v := v8) hx hb dX10_laysAsks_35 hl rfl ev8 (by decide) rfl (fun ls hl => ?_)
            replace hl : lv_has ls 4 [(3, .int v8), (0, .ref (B + a0)), (1, .int vp1), (2, .int v4)] := hl
            refine lv_goto (pc := 38) (tgt := 4) hx hb dX10_laysAsks_38 (by decide) ?_
            exact ih _ _ _ _ _ _ P (lv_sub hl [1, 2, 3, 0] rfl) (hI1 _ (Option.some.inj hF).symm)
          · rw [if_neg hc] at hF
            refine lv_aload_n (pc := 18) hx hb dX10_laysAsks_18 rfl (lv_at hl 0 rfl) ?_
            refine lv_iload_n (pc := 19) hx hb dX10_laysAsks_19 rfl (lv_at hl 3 rfl) ?_
            refine r_cVi (pc := 20) (As := [.int v5]) (rest := []) CX P hl.1 hF kv_X10_103 (fun r h1 q => c_X10_parentOf l G B _ _ _ _ _ q) rfl rfl ⟨by show _ ≤ (rmM _ _ _ _).frames; simp only [rmM]; omega, by show _ ≤ (rmM _ _ _ _).locals; simp only [rmM]; omega⟩ (Nat.le_of_ble_eq_true rfl) ⟨Nat.le_of_ble_eq_true rfl, Nat.le_of_ble_eq_true rfl⟩ dX10_laysAsks_20 (fun v9 h10 H locs P hF => ?_)
            replace hF := un_i hF
            refine lv_iload_n (pc := 23) hx hb dX10_laysAsks_23 rfl (lv_at hl 1 rfl) ?_
            refine lv_icmp_ne (pc := 24) (tgt := 35) hx hb dX10_laysAsks_24 (by decide) (fun hc => ?_) (fun hc => ?_)
            · rw [if_neg hc] at hF
              obtain ⟨v11, ev11, hF⟩ := bl_o hF
              refine lv_iinc (pc := 35) (k := 3) (v := v11) hx hb dX10_laysAsks_35 hl rfl ev11 (by decide) rfl (fun ls hl => ?_)
              replace hl : lv_has ls 4 [(3, .int v11), (0, .ref (B + a0)), (1, .int vp1), (2, .int v4)] := hl
              refine lv_goto (pc := 38) (tgt := 4) hx hb dX10_laysAsks_38 (by decide) ?_
              exact ih _ _ _ _ _ _ P (lv_sub hl [1, 2, 3, 0] rfl) (hI1 _ (Option.some.inj hF).symm)
            · rw [if_pos hc] at hF
              refine lv_iload_n (pc := 27) hx hb dX10_laysAsks_27 rfl (lv_at hl 2 rfl) ?_
              refine lv_aload_n (pc := 28) hx hb dX10_laysAsks_28 rfl (lv_at hl 0 rfl) ?_
              refine lv_iload_n (pc := 29) hx hb dX10_laysAsks_29 rfl (lv_at hl 3 rfl) ?_
              refine r_cVi (pc := 30) (As := [.int v5]) (rest := [.int v4]) CX P hl.1 hF kv_X10_261 (fun r h1 q => ihd l G B _ _ _ _ _ q) rfl rfl ⟨by show _ ≤ (rmM _ _ _ _).frames; simp only [rmM]; omega, by show _ ≤ (rmM _ _ _ _).locals; simp only [rmM]; omega⟩ (Nat.le_of_ble_eq_true rfl) ⟨Nat.le_of_ble_eq_true rfl, Nat.le_of_ble_eq_true rfl⟩ dX10_laysAsks_30 (fun v12 h13 H locs P hF => ?_)
              replace hF := un_i hF
              refine lv_iadd (pc := 33) hx hb dX10_laysAsks_33 ?_
              refine lv_topi (fun v14 ev14 => ?_)
              replace hF := bl_e hF ev14
              refine lv_istore_n (pc := 34) hx hb dX10_laysAsks_34 rfl hl (by decide) rfl (fun ls hl => ?_)
              replace hl : lv_has ls 4 [(2, .int v14), (0, .ref (B + a0)), (1, .int vp1), (3, .int v5)] := hl
              obtain ⟨v15, ev15, hF⟩ := bl_o hF
              refine lv_iinc (pc := 35) (k := 3) (v := v15) hx hb dX10_laysAsks_35 hl rfl ev15 (by decide) rfl (fun ls hl => ?_)
              replace hl : lv_has ls 4 [(3, .int v15), (2, .int v14), (0, .ref (B + a0)), (1, .int vp1)] := hl
              refine lv_goto (pc := 38) (tgt := 4) hx hb dX10_laysAsks_38 (by decide) ?_
              exact ih _ _ _ _ _ _ P (lv_sub hl [2, 3, 1, 0] rfl) (hI1 _ (Option.some.inj hF).symm)
    exact hL1 _ _ _ _ _ _ _ P (lv_sub hl [2, 3, 1, 0] rfl) hLp1
def F_X10_isOf (h : Hp) (a0 : Nat) (vp1 : Int32) (vp2 : Int32) : Option (Int32 × Hp) :=
if 12 ≤ vp1 then (
(cO h a0 10 (F_X10_isProcess h a0 (vp1 - 12))).bind fun v1 =>
if v1 = 0 then (
some (0, h)) else (
(cO h a0 10 (F_X10_groupOf h a0 (vp1 - 12))).bind (un fun v2 h3 =>
if v2 = vp2 then (
some (1, h3)) else (
some (0, h3))))) else (
if vp1 ≤ 0 then (
some (0, h)) else (
(cO h a0 10 (F_X10_isGroup h a0 vp1)).bind fun v4 =>
if v4 = 0 then (
some (0, h)) else (
(cO h a0 10 (F_X10_parentOf h a0 vp1)).bind (un fun v5 h6 =>
if v5 = vp2 then (
some (1, h6)) else (
some (0, h6))))))
set_option maxRecDepth 100000 in
set_option maxHeartbeats 4000000 in
theorem c_X10_isOf (l : Launch) (G : GG) (B : Nat) (h : Hp) (a0 : Nat) (vp1 : Int32) (vp2 : Int32) (r0 : Int32) (hr : Hp) (hF : F_X10_isOf h a0 vp1 vp2 = some (r0, hr)) : CI l yX10_isOf cX10_isOf 3 .boolean 2 46 0 0 G B h [.ref (B + a0), .int vp1, .int vp2] r0 hr := by
  refine ent_i rfl (Nat.le_of_ble_eq_true rfl) ?_
  intro p e s m args below meth c ls Q CX hnm hret P hl
  have CX : Cxt p m c cX10_isOf 3 s args RX10 G B := CX
  obtain ⟨⟨hx, hb, hml, hown, hts⟩, -, -⟩ := id CX
  replace hl : lv_has ls 3 [(0, .ref (B + a0)), (1, .int vp1), (2, .int vp2)] := hl
  generalize s.heap = H at P ⊢
  generalize ([] : List Loc) = locs at P ⊢
  unfold F_X10_isOf at hF
  refine lv_iload_n (pc := 0) hx hb dX10_isOf_0 rfl (lv_at hl 1 rfl) ?_
  refine lv_bipush (pc := 1) (v := 12) hx hb dX10_isOf_1 (by decide) ?_
  refine lv_icmp_ge (pc := 3) (tgt := 35) hx hb dX10_isOf_3 (by decide) (fun hc => ?_) (fun hc => ?_)
  · rw [if_pos hc] at hF
    refine lv_aload_n (pc := 35) hx hb dX10_isOf_35 rfl (lv_at hl 0 rfl) ?_
    refine lv_iload_n (pc := 36) hx hb dX10_isOf_36 rfl (lv_at hl 1 rfl) ?_
    refine lv_bipush (pc := 37) (v := 12) hx hb dX10_isOf_37 (by decide) ?_
    refine lv_isub (pc := 39) hx hb dX10_isOf_39 ?_
    refine r_cVp (pc := 40) (As := [.int (vp1 - 12)]) (rest := []) CX P hl.1 hF kv_X10_117 (fun r q => c_X10_isProcess l G B _ _ _ _ q) rfl rfl ⟨Nat.le_of_ble_eq_true rfl, Nat.le_of_ble_eq_true rfl⟩ (Nat.le_of_ble_eq_true rfl) ⟨Nat.le_of_ble_eq_true rfl, Nat.le_of_ble_eq_true rfl⟩ dX10_isOf_40 (fun v1 H locs P hF => ?_)
    refine lv_if_eq (pc := 43) (tgt := 62) hx hb dX10_isOf_43 (by decide) (fun hc => ?_) (fun hc => ?_)
    · rw [if_pos hc] at hF
      refine lv_iconst (pc := 62) (v := 0) hx hb dX10_isOf_62 (by decide) ?_
      cases hF
      exact hret _ _ _ _ P rfl dX10_isOf_63
    · rw [if_neg hc] at hF
      refine lv_aload_n (pc := 46) hx hb dX10_isOf_46 rfl (lv_at hl 0 rfl) ?_
      refine lv_iload_n (pc := 47) hx hb dX10_isOf_47 rfl (lv_at hl 1 rfl) ?_
      refine lv_bipush (pc := 48) (v := 12) hx hb dX10_isOf_48 (by decide) ?_
      refine lv_isub (pc := 50) hx hb dX10_isOf_50 ?_
      refine r_cVi (pc := 51) (As := [.int (vp1 - 12)]) (rest := []) CX P hl.1 hF kv_X10_120 (fun r h1 q => c_X10_groupOf l G B _ _ _ _ _ q) rfl rfl ⟨Nat.le_of_ble_eq_true rfl, Nat.le_of_ble_eq_true rfl⟩ (Nat.le_of_ble_eq_true rfl) ⟨Nat.le_of_ble_eq_true rfl, Nat.le_of_ble_eq_true rfl⟩ dX10_isOf_51 (fun v2 h3 H locs P hF => ?_)
      replace hF := un_i hF
      refine lv_iload_n (pc := 54) hx hb dX10_isOf_54 rfl (lv_at hl 2 rfl) ?_
      refine lv_icmp_ne (pc := 55) (tgt := 62) hx hb dX10_isOf_55 (by decide) (fun hc => ?_) (fun hc => ?_)
      · rw [if_neg hc] at hF
        refine lv_iconst (pc := 62) (v := 0) hx hb dX10_isOf_62 (by decide) ?_
        cases hF
        exact hret _ _ _ _ P rfl dX10_isOf_63
      · rw [if_pos hc] at hF
        refine lv_iconst (pc := 58) (v := 1) hx hb dX10_isOf_58 (by decide) ?_
        refine lv_goto (pc := 59) (tgt := 63) hx hb dX10_isOf_59 (by decide) ?_
        cases hF
        exact hret _ _ _ _ P rfl dX10_isOf_63
  · rw [if_neg hc] at hF
    refine lv_iload_n (pc := 6) hx hb dX10_isOf_6 rfl (lv_at hl 1 rfl) ?_
    refine lv_if_le (pc := 7) (tgt := 31) hx hb dX10_isOf_7 (by decide) (fun hc => ?_) (fun hc => ?_)
    · rw [if_pos hc] at hF
      refine lv_iconst (pc := 31) (v := 0) hx hb dX10_isOf_31 (by decide) ?_
      refine lv_goto (pc := 32) (tgt := 63) hx hb dX10_isOf_32 (by decide) ?_
      cases hF
      exact hret _ _ _ _ P rfl dX10_isOf_63
    · rw [if_neg hc] at hF
      refine lv_aload_n (pc := 10) hx hb dX10_isOf_10 rfl (lv_at hl 0 rfl) ?_
      refine lv_iload_n (pc := 11) hx hb dX10_isOf_11 rfl (lv_at hl 1 rfl) ?_
      refine r_cVp (pc := 12) (As := [.int vp1]) (rest := []) CX P hl.1 hF kv_X10_107 (fun r q => c_X10_isGroup l G B _ _ _ _ q) rfl rfl ⟨Nat.le_of_ble_eq_true rfl, Nat.le_of_ble_eq_true rfl⟩ (Nat.le_of_ble_eq_true rfl) ⟨Nat.le_of_ble_eq_true rfl, Nat.le_of_ble_eq_true rfl⟩ dX10_isOf_12 (fun v4 H locs P hF => ?_)
      refine lv_if_eq (pc := 15) (tgt := 31) hx hb dX10_isOf_15 (by decide) (fun hc => ?_) (fun hc => ?_)
      · rw [if_pos hc] at hF
        refine lv_iconst (pc := 31) (v := 0) hx hb dX10_isOf_31 (by decide) ?_
        refine lv_goto (pc := 32) (tgt := 63) hx hb dX10_isOf_32 (by decide) ?_
        cases hF
        exact hret _ _ _ _ P rfl dX10_isOf_63
      · rw [if_neg hc] at hF
        refine lv_aload_n (pc := 18) hx hb dX10_isOf_18 rfl (lv_at hl 0 rfl) ?_
        refine lv_iload_n (pc := 19) hx hb dX10_isOf_19 rfl (lv_at hl 1 rfl) ?_
        refine r_cVi (pc := 20) (As := [.int vp1]) (rest := []) CX P hl.1 hF kv_X10_103 (fun r h1 q => c_X10_parentOf l G B _ _ _ _ _ q) rfl rfl ⟨Nat.le_of_ble_eq_true rfl, Nat.le_of_ble_eq_true rfl⟩ (Nat.le_of_ble_eq_true rfl) ⟨Nat.le_of_ble_eq_true rfl, Nat.le_of_ble_eq_true rfl⟩ dX10_isOf_20 (fun v5 h6 H locs P hF => ?_)
        replace hF := un_i hF
        refine lv_iload_n (pc := 23) hx hb dX10_isOf_23 rfl (lv_at hl 2 rfl) ?_
        refine lv_icmp_ne (pc := 24) (tgt := 31) hx hb dX10_isOf_24 (by decide) (fun hc => ?_) (fun hc => ?_)
        · rw [if_neg hc] at hF
          refine lv_iconst (pc := 31) (v := 0) hx hb dX10_isOf_31 (by decide) ?_
          refine lv_goto (pc := 32) (tgt := 63) hx hb dX10_isOf_32 (by decide) ?_
          cases hF
          exact hret _ _ _ _ P rfl dX10_isOf_63
        · rw [if_pos hc] at hF
          refine lv_iconst (pc := 27) (v := 1) hx hb dX10_isOf_27 (by decide) ?_
          refine lv_goto (pc := 28) (tgt := 63) hx hb dX10_isOf_28 (by decide) ?_
          cases hF
          exact hret _ _ _ _ P rfl dX10_isOf_63
def F_X10_weightOf (h : Hp) (a0 : Nat) (vp1 : Int32) : Option (Int32 × Hp) :=
if 12 ≤ vp1 then (
some (1, h)) else (
(cO h a0 10 (F_X10_of h a0 vp1 6 0)).bind (un fun v1 h2 =>
some (v1, h2)))
set_option maxRecDepth 100000 in
set_option maxHeartbeats 4000000 in
theorem c_X10_weightOf (l : Launch) (G : GG) (B : Nat) (h : Hp) (a0 : Nat) (vp1 : Int32) (r0 : Int32) (hr : Hp) (hF : F_X10_weightOf h a0 vp1 = some (r0, hr)) : CI l yX10_weightOf cX10_weightOf 2 .int 1 23 0 0 G B h [.ref (B + a0), .int vp1] r0 hr := by
  refine ent_i rfl (Nat.le_of_ble_eq_true rfl) ?_
  intro p e s m args below meth c ls Q CX hnm hret P hl
  have CX : Cxt p m c cX10_weightOf 2 s args RX10 G B := CX
  obtain ⟨⟨hx, hb, hml, hown, hts⟩, -, -⟩ := id CX
  replace hl : lv_has ls 2 [(0, .ref (B + a0)), (1, .int vp1)] := hl
  generalize s.heap = H at P ⊢
  generalize ([] : List Loc) = locs at P ⊢
  unfold F_X10_weightOf at hF
  refine lv_iload_n (pc := 0) hx hb dX10_weightOf_0 rfl (lv_at hl 1 rfl) ?_
  refine lv_bipush (pc := 1) (v := 12) hx hb dX10_weightOf_1 (by decide) ?_
  refine lv_icmp_ge (pc := 3) (tgt := 17) hx hb dX10_weightOf_3 (by decide) (fun hc => ?_) (fun hc => ?_)
  · rw [if_pos hc] at hF
    refine lv_iconst (pc := 17) (v := 1) hx hb dX10_weightOf_17 (by decide) ?_
    cases hF
    exact hret _ _ _ _ P rfl dX10_weightOf_18
  · rw [if_neg hc] at hF
    refine lv_aload_n (pc := 6) hx hb dX10_weightOf_6 rfl (lv_at hl 0 rfl) ?_
    refine lv_iload_n (pc := 7) hx hb dX10_weightOf_7 rfl (lv_at hl 1 rfl) ?_
    refine lv_bipush (pc := 8) (v := 6) hx hb dX10_weightOf_8 (by decide) ?_
    refine lv_iconst (pc := 10) (v := 0) hx hb dX10_weightOf_10 (by decide) ?_
    refine r_cVi (pc := 11) (As := [.int vp1, .int 6, .int 0]) (rest := []) CX P hl.1 hF kv_X10_99 (fun r h1 q => c_X10_of l G B _ _ _ _ _ _ _ q) rfl rfl ⟨Nat.le_of_ble_eq_true rfl, Nat.le_of_ble_eq_true rfl⟩ (Nat.le_of_ble_eq_true rfl) ⟨Nat.le_of_ble_eq_true rfl, Nat.le_of_ble_eq_true rfl⟩ dX10_weightOf_11 (fun v1 h2 H locs P hF => ?_)
    replace hF := un_i hF
    refine lv_goto (pc := 14) (tgt := 18) hx hb dX10_weightOf_14 (by decide) ?_
    cases hF
    exact hret _ _ _ _ P rfl dX10_weightOf_18
