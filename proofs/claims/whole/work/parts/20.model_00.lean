def F_X10_within (h : Hp) (vp0 : Int64) (vp2 : Int64) (vp4 : Int64) : Option (Int32) :=
if (lg_cmp vp0 vp2) < 0 then (
some 0) else (
if 0 < (lg_cmp vp0 vp4) then (
some 0) else (
some 1))
set_option maxRecDepth 100000 in
set_option maxHeartbeats 4000000 in
theorem c_X10_within (l : Launch) (G : GG) (B : Nat) (h : Hp) (vp0 : Int64) (vp2 : Int64) (vp4 : Int64) (r0 : Int32) (hF : F_X10_within h vp0 vp2 vp4 = some r0) : CI l yX10_within cX10_within 6 .boolean 0 0 0 0 G B h [.long vp0, .long vp2, .long vp4] r0 h := by
  refine ent_i rfl (Nat.le_of_ble_eq_true rfl) ?_
  intro p e s m args below meth c ls Q CX hnm hret P hl
  have CX : Cxt p m c cX10_within 6 s args RX10 G B := CX
  obtain ⟨⟨hx, hb, hml, hown, hts⟩, -, -⟩ := id CX
  replace hl : lv_has ls 6 [(0, .long vp0), (2, .long vp2), (4, .long vp4)] := hl
  generalize s.heap = H at P ⊢
  generalize ([] : List Loc) = locs at P ⊢
  unfold F_X10_within at hF
  refine lv_lload_n (pc := 0) hx hb dX10_within_0 rfl (lv_at hl 0 rfl) ?_
  refine lv_lload_n (pc := 1) hx hb dX10_within_1 rfl (lv_at hl 1 rfl) ?_
  refine W.lcmp (pc := 2) hx hb dX10_within_2 ?_
  refine lv_if_lt (pc := 3) (tgt := 17) hx hb dX10_within_3 (by decide) (fun hc => ?_) (fun hc => ?_)
  · rw [if_pos hc] at hF
    refine lv_iconst (pc := 17) (v := 0) hx hb dX10_within_17 (by decide) ?_
    cases hF
    exact hret _ _ _ _ P rfl dX10_within_18
  · rw [if_neg hc] at hF
    refine lv_lload_n (pc := 6) hx hb dX10_within_6 rfl (lv_at hl 0 rfl) ?_
    refine lv_lload (pc := 7) hx hb dX10_within_7 (lv_at hl 2 rfl) ?_
    refine W.lcmp (pc := 9) hx hb dX10_within_9 ?_
    refine lv_if_gt (pc := 10) (tgt := 17) hx hb dX10_within_10 (by decide) (fun hc => ?_) (fun hc => ?_)
    · rw [if_pos hc] at hF
      refine lv_iconst (pc := 17) (v := 0) hx hb dX10_within_17 (by decide) ?_
      cases hF
      exact hret _ _ _ _ P rfl dX10_within_18
    · rw [if_neg hc] at hF
      refine lv_iconst (pc := 13) (v := 1) hx hb dX10_within_13 (by decide) ?_
      refine lv_goto (pc := 14) (tgt := 18) hx hb dX10_within_14 (by decide) ?_
      cases hF
      exact hret _ _ _ _ P rfl dX10_within_18
def F_X10_has (h : Hp) (vp0 : Int32) (vp1 : Int32) : Option (Int32) :=
if ((vp0 >>> (vp1 &&& 31)) &&& 1) = 1 then (
some 1) else (
some 0)
set_option maxRecDepth 100000 in
set_option maxHeartbeats 4000000 in
theorem c_X10_has (l : Launch) (G : GG) (B : Nat) (h : Hp) (vp0 : Int32) (vp1 : Int32) (r0 : Int32) (hF : F_X10_has h vp0 vp1 = some r0) : CI l yX10_has cX10_has 2 .boolean 0 0 0 0 G B h [.int vp0, .int vp1] r0 h := by
  refine ent_i rfl (Nat.le_of_ble_eq_true rfl) ?_
  intro p e s m args below meth c ls Q CX hnm hret P hl
  have CX : Cxt p m c cX10_has 2 s args RX10 G B := CX
  obtain ⟨⟨hx, hb, hml, hown, hts⟩, -, -⟩ := id CX
  replace hl : lv_has ls 2 [(0, .int vp0), (1, .int vp1)] := hl
  generalize s.heap = H at P ⊢
  generalize ([] : List Loc) = locs at P ⊢
  unfold F_X10_has at hF
  refine lv_iload_n (pc := 0) hx hb dX10_has_0 rfl (lv_at hl 0 rfl) ?_
  refine lv_iload_n (pc := 1) hx hb dX10_has_1 rfl (lv_at hl 1 rfl) ?_
  refine lv_ishr (pc := 2) hx hb dX10_has_2 ?_
  refine lv_iconst (pc := 3) (v := 1) hx hb dX10_has_3 (by decide) ?_
  refine lv_iand (pc := 4) hx hb dX10_has_4 ?_
  refine lv_iconst (pc := 5) (v := 1) hx hb dX10_has_5 (by decide) ?_
  refine lv_icmp_ne (pc := 6) (tgt := 13) hx hb dX10_has_6 (by decide) (fun hc => ?_) (fun hc => ?_)
  · rw [if_neg hc] at hF
    refine lv_iconst (pc := 13) (v := 0) hx hb dX10_has_13 (by decide) ?_
    cases hF
    exact hret _ _ _ _ P rfl dX10_has_14
  · rw [if_pos hc] at hF
    refine lv_iconst (pc := 9) (v := 1) hx hb dX10_has_9 (by decide) ?_
    refine lv_goto (pc := 10) (tgt := 14) hx hb dX10_has_10 (by decide) ?_
    cases hF
    exact hret _ _ _ _ P rfl dX10_has_14
def F_X10_lesser (h : Hp) (vp0 : Int32) (vp1 : Int32) : Option (Int32) :=
if vp1 ≤ vp0 then (
some vp1) else (
some vp0)
set_option maxRecDepth 100000 in
set_option maxHeartbeats 4000000 in
theorem c_X10_lesser (l : Launch) (G : GG) (B : Nat) (h : Hp) (vp0 : Int32) (vp1 : Int32) (r0 : Int32) (hF : F_X10_lesser h vp0 vp1 = some r0) : CI l yX10_lesser cX10_lesser 2 .int 0 0 0 0 G B h [.int vp0, .int vp1] r0 h := by
  refine ent_i rfl (Nat.le_of_ble_eq_true rfl) ?_
  intro p e s m args below meth c ls Q CX hnm hret P hl
  have CX : Cxt p m c cX10_lesser 2 s args RX10 G B := CX
  obtain ⟨⟨hx, hb, hml, hown, hts⟩, -, -⟩ := id CX
  replace hl : lv_has ls 2 [(0, .int vp0), (1, .int vp1)] := hl
  generalize s.heap = H at P ⊢
  generalize ([] : List Loc) = locs at P ⊢
  unfold F_X10_lesser at hF
  refine lv_iload_n (pc := 0) hx hb dX10_lesser_0 rfl (lv_at hl 0 rfl) ?_
  refine lv_iload_n (pc := 1) hx hb dX10_lesser_1 rfl (lv_at hl 1 rfl) ?_
  refine lv_icmp_ge (pc := 2) (tgt := 9) hx hb dX10_lesser_2 (by decide) (fun hc => ?_) (fun hc => ?_)
  · rw [if_pos hc] at hF
    refine lv_iload_n (pc := 9) hx hb dX10_lesser_9 rfl (lv_at hl 1 rfl) ?_
    cases hF
    exact hret _ _ _ _ P rfl dX10_lesser_10
  · rw [if_neg hc] at hF
    refine lv_iload_n (pc := 5) hx hb dX10_lesser_5 rfl (lv_at hl 0 rfl) ?_
    refine lv_goto (pc := 6) (tgt := 10) hx hb dX10_lesser_6 (by decide) ?_
    cases hF
    exact hret _ _ _ _ P rfl dX10_lesser_10
def F_X10_greater (h : Hp) (vp0 : Int32) (vp1 : Int32) : Option (Int32) :=
if vp0 ≤ vp1 then (
some vp1) else (
some vp0)
set_option maxRecDepth 100000 in
set_option maxHeartbeats 4000000 in
theorem c_X10_greater (l : Launch) (G : GG) (B : Nat) (h : Hp) (vp0 : Int32) (vp1 : Int32) (r0 : Int32) (hF : F_X10_greater h vp0 vp1 = some r0) : CI l yX10_greater cX10_greater 2 .int 0 0 0 0 G B h [.int vp0, .int vp1] r0 h := by
  refine ent_i rfl (Nat.le_of_ble_eq_true rfl) ?_
  intro p e s m args below meth c ls Q CX hnm hret P hl
  have CX : Cxt p m c cX10_greater 2 s args RX10 G B := CX
  obtain ⟨⟨hx, hb, hml, hown, hts⟩, -, -⟩ := id CX
  replace hl : lv_has ls 2 [(0, .int vp0), (1, .int vp1)] := hl
  generalize s.heap = H at P ⊢
  generalize ([] : List Loc) = locs at P ⊢
  unfold F_X10_greater at hF
  refine lv_iload_n (pc := 0) hx hb dX10_greater_0 rfl (lv_at hl 0 rfl) ?_
  refine lv_iload_n (pc := 1) hx hb dX10_greater_1 rfl (lv_at hl 1 rfl) ?_
  refine lv_icmp_le (pc := 2) (tgt := 9) hx hb dX10_greater_2 (by decide) (fun hc => ?_) (fun hc => ?_)
  · rw [if_pos hc] at hF
    refine lv_iload_n (pc := 9) hx hb dX10_greater_9 rfl (lv_at hl 1 rfl) ?_
    cases hF
    exact hret _ _ _ _ P rfl dX10_greater_10
  · rw [if_neg hc] at hF
    refine lv_iload_n (pc := 5) hx hb dX10_greater_5 rfl (lv_at hl 0 rfl) ?_
    refine lv_goto (pc := 6) (tgt := 10) hx hb dX10_greater_6 (by decide) ?_
    cases hF
    exact hret _ _ _ _ P rfl dX10_greater_10
def F_X10_lays (h : Hp) (a0 : Nat) (vp1 : Int32) (vp2 : Int32) (vp3 : Int32) : Option (Hp) :=
(gR h a0 10 1).bind fun a1 =>
(sI h a1 ((7 + (34 * vp1)) + vp2) vp3).bind fun h2 =>
some h2
set_option maxRecDepth 100000 in
set_option maxHeartbeats 4000000 in
theorem c_X10_lays (l : Launch) (G : GG) (B : Nat) (h : Hp) (a0 : Nat) (vp1 : Int32) (vp2 : Int32) (vp3 : Int32) (hr : Hp) (hF : F_X10_lays h a0 vp1 vp2 vp3 = some hr) : CV l yX10_lays cX10_lays 4 0 0 0 0 G B h [.ref (B + a0), .int vp1, .int vp2, .int vp3] hr := by
  refine ent_v rfl (Nat.le_of_ble_eq_true rfl) ?_
  intro p e s m args below meth c ls Q CX hnm hret P hl
  have CX : Cxt p m c cX10_lays 4 s args RX10 G B := CX
  obtain ⟨⟨hx, hb, hml, hown, hts⟩, -, -⟩ := id CX
  replace hl : lv_has ls 4 [(0, .ref (B + a0)), (1, .int vp1), (2, .int vp2), (3, .int vp3)] := hl
  generalize s.heap = H at P ⊢
  generalize ([] : List Loc) = locs at P ⊢
  unfold F_X10_lays at hF
  refine lv_aload_n (pc := 0) hx hb dX10_lays_0 rfl (lv_at hl 0 rfl) ?_
  refine r_gR (pc := 1) CX P hF fl_X10_13 dX10_lays_1 (fun a1 hF => ?_)
  refine lv_bipush (pc := 4) (v := 7) hx hb dX10_lays_4 (by decide) ?_
  refine lv_bipush (pc := 6) (v := 34) hx hb dX10_lays_6 (by decide) ?_
  refine lv_iload_n (pc := 8) hx hb dX10_lays_8 rfl (lv_at hl 1 rfl) ?_
  refine lv_imul (pc := 9) hx hb dX10_lays_9 ?_
  refine lv_iadd (pc := 10) hx hb dX10_lays_10 ?_
  refine lv_iload_n (pc := 11) hx hb dX10_lays_11 rfl (lv_at hl 2 rfl) ?_
  refine lv_iadd (pc := 12) hx hb dX10_lays_12 ?_
  refine lv_iload_n (pc := 13) hx hb dX10_lays_13 rfl (lv_at hl 3 rfl) ?_
  refine r_sI (pc := 14) CX P hF dX10_lays_14 (fun h2 H locs P hF => ?_)
  cases hF
  exact hret _ _ _ _ P dX10_lays_15
def F_X10_laysGroup_L2 (a2 : Nat) (v3 : Int32) (v4 : Int32) (v5 : Int32) (h6 : Hp) : Option ((Int32 × Hp) ⊕ (Hp)) :=
if 34 ≤ v5 then (
some (.inr h6)) else (
(cO h6 a2 10 (F_X10_lays h6 a2 v3 v5 0)).bind fun h7 =>
bl (v5 + 1) fun v8 =>
some (.inl (v8, h7)))
def F_X10_laysGroup (h : Hp) (a0 : Nat) (vp1 : Int32) (vp2 : Int32) : Option (Hp) :=
(loopF (fun x => F_X10_laysGroup_L2 a0 vp1 vp2 x.1 x.2) 6000 (0, h)).bind fun h9 =>
(cO h9 a0 10 (F_X10_lays h9 a0 vp1 2 999)).bind fun h10 =>
(cO h10 a0 10 (F_X10_lays h10 a0 vp1 3 999)).bind fun h11 =>
(cO h11 a0 10 (F_X10_lays h11 a0 vp1 5 999)).bind fun h12 =>
(cO h12 a0 10 (F_X10_lays h12 a0 vp1 6 1)).bind fun h13 =>
(cO h13 a0 10 (F_X10_lays h13 a0 vp1 7 99)).bind fun h14 =>
(cO h14 a0 10 (F_X10_lays h14 a0 vp1 8 16)).bind fun h15 =>
(cO h15 a0 10 (F_X10_lays h15 a0 vp1 9 vp2)).bind fun h16 =>
some h16
set_option maxRecDepth 100000 in
set_option maxHeartbeats 4000000 in
theorem c_X10_laysGroup (l : Launch) (G : GG) (B : Nat) (h : Hp) (a0 : Nat) (vp1 : Int32) (vp2 : Int32) (hr : Hp) (hF : F_X10_laysGroup h a0 vp1 vp2 = some hr) : CV l yX10_laysGroup cX10_laysGroup 4 1 23 0 0 G B h [.ref (B + a0), .int vp1, .int vp2] hr := by
  refine ent_v rfl (Nat.le_of_ble_eq_true rfl) ?_
  intro p e s m args below meth c ls Q CX hnm hret P hl
  have CX : Cxt p m c cX10_laysGroup 4 s args RX10 G B := CX
  obtain ⟨⟨hx, hb, hml, hown, hts⟩, -, -⟩ := id CX
  replace hl : lv_has ls 4 [(0, .ref (B + a0)), (1, .int vp1), (2, .int vp2)] := hl
  generalize s.heap = H at P ⊢
  generalize ([] : List Loc) = locs at P ⊢
  unfold F_X10_laysGroup at hF
  refine lv_iconst (pc := 0) (v := 0) hx hb dX10_laysGroup_0 (by decide) ?_
  refine lv_istore_n (pc := 1) hx hb dX10_laysGroup_1 rfl hl (by decide) rfl (fun ls hl => ?_)
  replace hl : lv_has ls 4 [(3, .int 0), (0, .ref (B + a0)), (1, .int vp1), (2, .int vp2)] := hl
  obtain ⟨r1, hLp1, hK1⟩ := bd_some hF
  have hX1 : ∀ (h9 : Hp) (H : Heap) (locs : List Loc) (ls : Array Slot), Pic G B h9 s H locs → lv_has ls 4 [(0, .ref (B + a0)), (1, .int vp1), (2, .int vp2)] → h9 = r1 → W p l e (rmM 1 23 0 0) s m args below meth c H locs 0 0 Q (F0 m 21 ls []) := by
    intro h9 H locs ls P hl er
    subst er
    have hF := hK1
    refine lv_aload_n (pc := 21) hx hb dX10_laysGroup_21 rfl (lv_at hl 0 rfl) ?_
    refine lv_iload_n (pc := 22) hx hb dX10_laysGroup_22 rfl (lv_at hl 1 rfl) ?_
    refine lv_iconst (pc := 23) (v := 2) hx hb dX10_laysGroup_23 (by decide) ?_
    refine lv_sipush (pc := 24) (v := 999) hx hb dX10_laysGroup_24 (by decide) ?_
    refine r_cVv (pc := 27) (As := [.int vp1, .int 2, .int 999]) (rest := []) CX P hl.1 hF kv_X10_95 (fun h1 q => c_X10_lays l G B _ _ _ _ _ _ q) rfl rfl ⟨Nat.le_of_ble_eq_true rfl, Nat.le_of_ble_eq_true rfl⟩ (Nat.le_of_ble_eq_true rfl) ⟨Nat.le_of_ble_eq_true rfl, Nat.le_of_ble_eq_true rfl⟩ dX10_laysGroup_27 (fun h10 H locs P hF => ?_)
    refine lv_aload_n (pc := 30) hx hb dX10_laysGroup_30 rfl (lv_at hl 0 rfl) ?_
    refine lv_iload_n (pc := 31) hx hb dX10_laysGroup_31 rfl (lv_at hl 1 rfl) ?_
    refine lv_iconst (pc := 32) (v := 3) hx hb dX10_laysGroup_32 (by decide) ?_
    refine lv_sipush (pc := 33) (v := 999) hx hb dX10_laysGroup_33 (by decide) ?_
    refine r_cVv (pc := 36) (As := [.int vp1, .int 3, .int 999]) (rest := []) CX P hl.1 hF kv_X10_95 (fun h1 q => c_X10_lays l G B _ _ _ _ _ _ q) rfl rfl ⟨Nat.le_of_ble_eq_true rfl, Nat.le_of_ble_eq_true rfl⟩ (Nat.le_of_ble_eq_true rfl) ⟨Nat.le_of_ble_eq_true rfl, Nat.le_of_ble_eq_true rfl⟩ dX10_laysGroup_36 (fun h11 H locs P hF => ?_)
    refine lv_aload_n (pc := 39) hx hb dX10_laysGroup_39 rfl (lv_at hl 0 rfl) ?_
    refine lv_iload_n (pc := 40) hx hb dX10_laysGroup_40 rfl (lv_at hl 1 rfl) ?_
    refine lv_iconst (pc := 41) (v := 5) hx hb dX10_laysGroup_41 (by decide) ?_
    refine lv_sipush (pc := 42) (v := 999) hx hb dX10_laysGroup_42 (by decide) ?_
    refine r_cVv (pc := 45) (As := [.int vp1, .int 5, .int 999]) (rest := []) CX P hl.1 hF kv_X10_95 (fun h1 q => c_X10_lays l G B _ _ _ _ _ _ q) rfl rfl ⟨Nat.le_of_ble_eq_true rfl, Nat.le_of_ble_eq_true rfl⟩ (Nat.le_of_ble_eq_true rfl) ⟨Nat.le_of_ble_eq_true rfl, Nat.le_of_ble_eq_true rfl⟩ dX10_laysGroup_45 (fun h12 H locs P hF => ?_)
    refine lv_aload_n (pc := 48) hx hb dX10_laysGroup_48 rfl (lv_at hl 0 rfl) ?_
    refine lv_iload_n (pc := 49) hx hb dX10_laysGroup_49 rfl (lv_at hl 1 rfl) ?_
    refine lv_bipush (pc := 50) (v := 6) hx hb dX10_laysGroup_50 (by decide) ?_
    refine lv_iconst (pc := 52) (v := 1) hx hb dX10_laysGroup_52 (by decide) ?_
    refine r_cVv (pc := 53) (As := [.int vp1, .int 6, .int 1]) (rest := []) CX P hl.1 hF kv_X10_95 (fun h1 q => c_X10_lays l G B _ _ _ _ _ _ q) rfl rfl ⟨Nat.le_of_ble_eq_true rfl, Nat.le_of_ble_eq_true rfl⟩ (Nat.le_of_ble_eq_true rfl) ⟨Nat.le_of_ble_eq_true rfl, Nat.le_of_ble_eq_true rfl⟩ dX10_laysGroup_53 (fun h13 H locs P hF => ?_)
    refine lv_aload_n (pc := 56) hx hb dX10_laysGroup_56 rfl (lv_at hl 0 rfl) ?_
    refine lv_iload_n (pc := 57) hx hb dX10_laysGroup_57 rfl (lv_at hl 1 rfl) ?_
    refine lv_bipush (pc := 58) (v := 7) hx hb dX10_laysGroup_58 (by decide) ?_
    refine lv_bipush (pc := 60) (v := 99) hx hb dX10_laysGroup_60 (by decide) ?_
    refine r_cVv (pc := 62) (As := [.int vp1, .int 7, .int 99]) (rest := []) CX P hl.1 hF kv_X10_95 (fun h1 q => c_X10_lays l G B _ _ _ _ _ _ q) rfl rfl ⟨Nat.le_of_ble_eq_true rfl, Nat.le_of_ble_eq_true rfl⟩ (Nat.le_of_ble_eq_true rfl) ⟨Nat.le_of_ble_eq_true rfl, Nat.le_of_ble_eq_true rfl⟩ dX10_laysGroup_62 (fun h14 H locs P hF => ?_)
    refine lv_aload_n (pc := 65) hx hb dX10_laysGroup_65 rfl (lv_at hl 0 rfl) ?_
    refine lv_iload_n (pc := 66) hx hb dX10_laysGroup_66 rfl (lv_at hl 1 rfl) ?_
    refine lv_bipush (pc := 67) (v := 8) hx hb dX10_laysGroup_67 (by decide) ?_
    refine lv_bipush (pc := 69) (v := 16) hx hb dX10_laysGroup_69 (by decide) ?_
    refine r_cVv (pc := 71) (As := [.int vp1, .int 8, .int 16]) (rest := []) CX P hl.1 hF kv_X10_95 (fun h1 q => c_X10_lays l G B _ _ _ _ _ _ q) rfl rfl ⟨Nat.le_of_ble_eq_true rfl, Nat.le_of_ble_eq_true rfl⟩ (Nat.le_of_ble_eq_true rfl) ⟨Nat.le_of_ble_eq_true rfl, Nat.le_of_ble_eq_true rfl⟩ dX10_laysGroup_71 (fun h15 H locs P hF => ?_)
    refine lv_aload_n (pc := 74) hx hb dX10_laysGroup_74 rfl (lv_at hl 0 rfl) ?_
    refine lv_iload_n (pc := 75) hx hb dX10_laysGroup_75 rfl (lv_at hl 1 rfl) ?_
    refine lv_bipush (pc := 76) (v := 9) hx hb dX10_laysGroup_76 (by decide) ?_
    refine lv_iload_n (pc := 78) hx hb dX10_laysGroup_78 rfl (lv_at hl 2 rfl) ?_
    refine r_cVv (pc := 79) (As := [.int vp1, .int 9, .int vp2]) (rest := []) CX P hl.1 hF kv_X10_95 (fun h1 q => c_X10_lays l G B _ _ _ _ _ _ q) rfl rfl ⟨Nat.le_of_ble_eq_true rfl, Nat.le_of_ble_eq_true rfl⟩ (Nat.le_of_ble_eq_true rfl) ⟨Nat.le_of_ble_eq_true rfl, Nat.le_of_ble_eq_true rfl⟩ dX10_laysGroup_79 (fun h16 H locs P hF => ?_)
    cases hF
    exact hret _ _ _ _ P dX10_laysGroup_82
  have hL1 : ∀ (n : Nat) (v5 : Int32) (h6 : Hp) (H : Heap) (locs : List Loc) (ls : Array Slot), Pic G B h6 s H locs → lv_has ls 4 [(0, .ref (B + a0)), (1, .int vp1), (2, .int vp2), (3, .int v5)] → loopF (fun x => F_X10_laysGroup_L2 a0 vp1 vp2 x.1 x.2) n (v5, h6) = some r1 → W p l e (rmM 1 23 0 0) s m args below meth c H locs 0 0 Q (F0 m 2 ls []) := by
    intro n
    induction n with
    | zero => intro v5 h6 H locs ls P hl hq; cases hq
    | succ n ih =>
      intro v5 h6 H locs ls P hl hq
      obtain ⟨z1, hS1, hI1, hR1⟩ := loop_some hq
      have hF : F_X10_laysGroup_L2 a0 vp1 vp2 v5 h6 = some z1 := hS1
      unfold F_X10_laysGroup_L2 at hF
      refine lv_iload_n (pc := 2) hx hb dX10_laysGroup_2 rfl (lv_at hl 3 rfl) ?_
      refine lv_bipush (pc := 3) (v := 34) hx hb dX10_laysGroup_3 (by decide) ?_
      refine lv_icmp_ge (pc := 5) (tgt := 21) hx hb dX10_laysGroup_5 (by decide) (fun hc => ?_) (fun hc => ?_)
      · rw [if_pos hc] at hF
        exact hX1 _ _ _ _ P (lv_sub hl [0, 1, 2] rfl) (hR1 _ (Option.some.inj hF).symm)
      · rw [if_neg hc] at hF
        refine lv_aload_n (pc := 8) hx hb dX10_laysGroup_8 rfl (lv_at hl 0 rfl) ?_
        refine lv_iload_n (pc := 9) hx hb dX10_laysGroup_9 rfl (lv_at hl 1 rfl) ?_
        refine lv_iload_n (pc := 10) hx hb dX10_laysGroup_10 rfl (lv_at hl 3 rfl) ?_
        refine lv_iconst (pc := 11) (v := 0) hx hb dX10_laysGroup_11 (by decide) ?_
        refine r_cVv (pc := 12) (As := [.int vp1, .int v5, .int 0]) (rest := []) CX P hl.1 hF kv_X10_95 (fun h1 q => c_X10_lays l G B _ _ _ _ _ _ q) rfl rfl ⟨Nat.le_of_ble_eq_true rfl, Nat.le_of_ble_eq_true rfl⟩ (Nat.le_of_ble_eq_true rfl) ⟨Nat.le_of_ble_eq_true rfl, Nat.le_of_ble_eq_true rfl⟩ dX10_laysGroup_12 (fun h7 H locs P hF => ?_)
        obtain ⟨v8, ev8, hF⟩ := bl_o hF
        refine lv_iinc (pc := 15) (k := 3) (v := v8) hx hb dX10_laysGroup_15 hl rfl ev8 (by decide) rfl (fun ls hl => ?_)
        replace hl : lv_has ls 4 [(3, .int v8), (0, .ref (B + a0)), (1, .int vp1), (2, .int vp2)] := hl
        refine lv_goto (pc := 18) (tgt := 2) hx hb dX10_laysGroup_18 (by decide) ?_
        exact ih _ _ _ _ _ P (lv_sub hl [1, 2, 3, 0] rfl) (hI1 _ (Option.some.inj hF).symm)
  exact hL1 _ _ _ _ _ _ P (lv_sub hl [1, 2, 3, 0] rfl) hLp1
def F_X10_init (h : Hp) (a0 : Nat) : Option (Hp) :=
(nwA h 11 1677).bind fun h1 =>
(pR h1 a0 10 1 (mN h)).bind fun h2 =>
(nwA h2 11 5590).bind fun h3 =>
(pR h3 a0 10 2 (mN h2)).bind fun h4 =>
(nwA h4 11 559).bind fun h5 =>
(pR h5 a0 10 3 (mN h4)).bind fun h6 =>
(nwA h6 11 559).bind fun h7 =>
(pR h7 a0 10 4 (mN h6)).bind fun h8 =>
(nwA h8 11 9).bind fun h9 =>
(sI h9 (mN h8) 0 0).bind fun h10 =>
(sI h10 (mN h8) 1 0).bind fun h11 =>
(sI h11 (mN h8) 2 0).bind fun h12 =>
(sI h12 (mN h8) 3 0).bind fun h13 =>
(sI h13 (mN h8) 4 0).bind fun h14 =>
(sI h14 (mN h8) 5 0).bind fun h15 =>
(sI h15 (mN h8) 6 1).bind fun h16 =>
(sI h16 (mN h8) 7 0).bind fun h17 =>
(sI h17 (mN h8) 8 0).bind fun h18 =>
(pR h18 a0 10 5 (mN h8)).bind fun h19 =>
(nwA h19 11 9).bind fun h20 =>
(sI h20 (mN h19) 0 999).bind fun h21 =>
(sI h21 (mN h19) 1 999).bind fun h22 =>
(sI h22 (mN h19) 2 999).bind fun h23 =>
(sI h23 (mN h19) 3 999).bind fun h24 =>
(sI h24 (mN h19) 4 1).bind fun h25 =>
(sI h25 (mN h19) 5 999).bind fun h26 =>
(sI h26 (mN h19) 6 9).bind fun h27 =>
(sI h27 (mN h19) 7 99).bind fun h28 =>
(sI h28 (mN h19) 8 16).bind fun h29 =>
(pR h29 a0 10 6 (mN h19)).bind fun h30 =>
(nwA h30 11 3).bind fun h31 =>
(sI h31 (mN h30) 0 5).bind fun h32 =>
(sI h32 (mN h30) 1 10).bind fun h33 =>
(sI h33 (mN h30) 2 30).bind fun h34 =>
(pR h34 a0 10 7 (mN h30)).bind fun h35 =>
(nwA h35 13 2).bind fun h36 =>
(pR h36 a0 10 9 (mN h35)).bind fun h37 =>
(nwA h37 11 12).bind fun h38 =>
(pR h38 a0 10 10 (mN h37)).bind fun h39 =>
(nwA h39 11 12).bind fun h40 =>
(pR h40 a0 10 11 (mN h39)).bind fun h41 =>
(nwA h41 11 12).bind fun h42 =>
(pR h42 a0 10 12 (mN h41)).bind fun h43 =>
(nwA h43 11 12).bind fun h44 =>
(pR h44 a0 10 13 (mN h43)).bind fun h45 =>
(nwA h45 11 12).bind fun h46 =>
(pR h46 a0 10 14 (mN h45)).bind fun h47 =>
(nwA h47 11 12).bind fun h48 =>
(pR h48 a0 10 15 (mN h47)).bind fun h49 =>
(nwA h49 11 12).bind fun h50 =>
(pR h50 a0 10 16 (mN h49)).bind fun h51 =>
(nwA h51 11 28).bind fun h52 =>
(pR h52 a0 10 17 (mN h51)).bind fun h53 =>
(nwA h53 11 28).bind fun h54 =>
(pR h54 a0 10 18 (mN h53)).bind fun h55 =>
(nwA h55 13 28).bind fun h56 =>
(pR h56 a0 10 19 (mN h55)).bind fun h57 =>
(gR h57 a0 10 1).bind fun a58 =>
(sI h57 a58 0 1).bind fun h59 =>
(gR h59 a0 10 1).bind fun a60 =>
(sI h59 a60 3 4).bind fun h61 =>
(gR h61 a0 10 1).bind fun a62 =>
(sI h61 a62 6 10).bind fun h63 =>
(cO h63 a0 10 (F_X10_laysGroup h63 a0 0 (-1))).bind fun h64 =>
some h64
set_option maxRecDepth 100000 in
set_option maxHeartbeats 4000000 in
theorem c_X10_init (l : Launch) (G : GG) (B : Nat) (h : Hp) (a0 : Nat) (hr : Hp) (hF : F_X10_init h a0 = some hr) : CV l yX10_init cX10_init 1 2 46 18 8576 G B h [.ref (B + a0)] hr := by
  refine ent_v rfl (Nat.le_of_ble_eq_true rfl) ?_
  intro p e s m args below meth c ls Q CX hnm hret P hl
  have CX : Cxt p m c cX10_init 1 s args RX10 G B := CX
  obtain ⟨⟨hx, hb, hml, hown, hts⟩, -, -⟩ := id CX
  replace hl : lv_has ls 1 [(0, .ref (B + a0))] := hl
  generalize s.heap = H at P ⊢
  generalize ([] : List Loc) = locs at P ⊢
  unfold F_X10_init at hF
  refine lv_aload_n (pc := 0) hx hb dX10_init_0 rfl (lv_at hl 0 rfl) ?_
  refine r_obj (pc := 1) CX hl.1 tw_953 tw_23 tw_24 (Nat.le_of_ble_eq_true rfl) (Nat.le_of_ble_eq_true rfl) dX10_init_1 ?_
  refine lv_aload_n (pc := 4) hx hb dX10_init_4 rfl (lv_at hl 0 rfl) ?_
  refine lv_sipush (pc := 5) (v := 1677) hx hb dX10_init_5 (by decide) ?_
  refine r_nwA (pc := 8) (atype := .int) (N' := 1677) CX P hF (Or.inl ⟨rfl, rfl⟩) tw_107 (by decide) (Nat.le_of_ble_eq_true rfl) (Nat.le_of_ble_eq_true rfl) dX10_init_8 (fun h1 H eN P hF => ?_)
  refine r_pR (pc := 10) CX P hnm hF fl_X10_13 (fun q hq => by cases hq; rfl) dX10_init_10 (fun h2 H locs P hF => ?_)
  refine lv_aload_n (pc := 13) hx hb dX10_init_13 rfl (lv_at hl 0 rfl) ?_
  refine lv_sipush (pc := 14) (v := 5590) hx hb dX10_init_14 (by decide) ?_
  refine r_nwA (pc := 17) (atype := .int) (N' := 5590) CX P hF (Or.inl ⟨rfl, rfl⟩) tw_107 (by decide) (Nat.le_of_ble_eq_true rfl) (Nat.le_of_ble_eq_true rfl) dX10_init_17 (fun h3 H eN P hF => ?_)
  refine r_pR (pc := 19) CX P hnm hF fl_X10_17 (fun q hq => by cases hq; rfl) dX10_init_19 (fun h4 H locs P hF => ?_)
  refine lv_aload_n (pc := 22) hx hb dX10_init_22 rfl (lv_at hl 0 rfl) ?_
  refine lv_sipush (pc := 23) (v := 559) hx hb dX10_init_23 (by decide) ?_
  refine r_nwA (pc := 26) (atype := .int) (N' := 559) CX P hF (Or.inl ⟨rfl, rfl⟩) tw_107 (by decide) (Nat.le_of_ble_eq_true rfl) (Nat.le_of_ble_eq_true rfl) dX10_init_26 (fun h5 H eN P hF => ?_)
  refine r_pR (pc := 28) CX P hnm hF fl_X10_20 (fun q hq => by cases hq; rfl) dX10_init_28 (fun h6 H locs P hF => ?_)
  refine lv_aload_n (pc := 31) hx hb dX10_init_31 rfl (lv_at hl 0 rfl) ?_
  refine lv_sipush (pc := 32) (v := 559) hx hb dX10_init_32 (by decide) ?_
  refine r_nwA (pc := 35) (atype := .int) (N' := 559) CX P hF (Or.inl ⟨rfl, rfl⟩) tw_107 (by decide) (Nat.le_of_ble_eq_true rfl) (Nat.le_of_ble_eq_true rfl) dX10_init_35 (fun h7 H eN P hF => ?_)
  refine r_pR (pc := 37) CX P hnm hF fl_X10_23 (fun q hq => by cases hq; rfl) dX10_init_37 (fun h8 H locs P hF => ?_)
  refine lv_aload_n (pc := 40) hx hb dX10_init_40 rfl (lv_at hl 0 rfl) ?_
  refine lv_bipush (pc := 41) (v := 9) hx hb dX10_init_41 (by decide) ?_
  refine r_nwA (pc := 43) (atype := .int) (N' := 9) CX P hF (Or.inl ⟨rfl, rfl⟩) tw_107 (by decide) (Nat.le_of_ble_eq_true rfl) (Nat.le_of_ble_eq_true rfl) dX10_init_43 (fun h9 H eN P hF => ?_)
  refine lv_dup (pc := 45) hx hb dX10_init_45 rfl ?_
  refine lv_iconst (pc := 46) (v := 0) hx hb dX10_init_46 (by decide) ?_
  refine lv_iconst (pc := 47) (v := 0) hx hb dX10_init_47 (by decide) ?_
  refine r_sI (pc := 48) CX P hF dX10_init_48 (fun h10 H locs P hF => ?_)
  refine lv_dup (pc := 49) hx hb dX10_init_49 rfl ?_
  refine lv_iconst (pc := 50) (v := 1) hx hb dX10_init_50 (by decide) ?_
  refine lv_iconst (pc := 51) (v := 0) hx hb dX10_init_51 (by decide) ?_
  refine r_sI (pc := 52) CX P hF dX10_init_52 (fun h11 H locs P hF => ?_)
  refine lv_dup (pc := 53) hx hb dX10_init_53 rfl ?_
  refine lv_iconst (pc := 54) (v := 2) hx hb dX10_init_54 (by decide) ?_
  refine lv_iconst (pc := 55) (v := 0) hx hb dX10_init_55 (by decide) ?_
  refine r_sI (pc := 56) CX P hF dX10_init_56 (fun h12 H locs P hF => ?_)
  refine lv_dup (pc := 57) hx hb dX10_init_57 rfl ?_
  refine lv_iconst (pc := 58) (v := 3) hx hb dX10_init_58 (by decide) ?_
  refine lv_iconst (pc := 59) (v := 0) hx hb dX10_init_59 (by decide) ?_
  refine r_sI (pc := 60) CX P hF dX10_init_60 (fun h13 H locs P hF => ?_)
  refine lv_dup (pc := 61) hx hb dX10_init_61 rfl ?_
  refine lv_iconst (pc := 62) (v := 4) hx hb dX10_init_62 (by decide) ?_
  refine lv_iconst (pc := 63) (v := 0) hx hb dX10_init_63 (by decide) ?_
  refine r_sI (pc := 64) CX P hF dX10_init_64 (fun h14 H locs P hF => ?_)
  refine lv_dup (pc := 65) hx hb dX10_init_65 rfl ?_
  refine lv_iconst (pc := 66) (v := 5) hx hb dX10_init_66 (by decide) ?_
  refine lv_iconst (pc := 67) (v := 0) hx hb dX10_init_67 (by decide) ?_
  refine r_sI (pc := 68) CX P hF dX10_init_68 (fun h15 H locs P hF => ?_)
  refine lv_dup (pc := 69) hx hb dX10_init_69 rfl ?_
  refine lv_bipush (pc := 70) (v := 6) hx hb dX10_init_70 (by decide) ?_
  refine lv_iconst (pc := 72) (v := 1) hx hb dX10_init_72 (by decide) ?_
  refine r_sI (pc := 73) CX P hF dX10_init_73 (fun h16 H locs P hF => ?_)
  refine lv_dup (pc := 74) hx hb dX10_init_74 rfl ?_
  refine lv_bipush (pc := 75) (v := 7) hx hb dX10_init_75 (by decide) ?_
  refine lv_iconst (pc := 77) (v := 0) hx hb dX10_init_77 (by decide) ?_
  refine r_sI (pc := 78) CX P hF dX10_init_78 (fun h17 H locs P hF => ?_)
  refine lv_dup (pc := 79) hx hb dX10_init_79 rfl ?_
  refine lv_bipush (pc := 80) (v := 8) hx hb dX10_init_80 (by decide) ?_
  refine lv_iconst (pc := 82) (v := 0) hx hb dX10_init_82 (by decide) ?_
  refine r_sI (pc := 83) CX P hF dX10_init_83 (fun h18 H locs P hF => ?_)
  refine r_pR (pc := 84) CX P hnm hF fl_X10_26 (fun q hq => by cases hq; rfl) dX10_init_84 (fun h19 H locs P hF => ?_)
  refine lv_aload_n (pc := 87) hx hb dX10_init_87 rfl (lv_at hl 0 rfl) ?_
  refine lv_bipush (pc := 88) (v := 9) hx hb dX10_init_88 (by decide) ?_
  refine r_nwA (pc := 90) (atype := .int) (N' := 9) CX P hF (Or.inl ⟨rfl, rfl⟩) tw_107 (by decide) (Nat.le_of_ble_eq_true rfl) (Nat.le_of_ble_eq_true rfl) dX10_init_90 (fun h20 H eN P hF => ?_)
  refine lv_dup (pc := 92) hx hb dX10_init_92 rfl ?_
  refine lv_iconst (pc := 93) (v := 0) hx hb dX10_init_93 (by decide) ?_
  refine lv_sipush (pc := 94) (v := 999) hx hb dX10_init_94 (by decide) ?_
  refine r_sI (pc := 97) CX P hF dX10_init_97 (fun h21 H locs P hF => ?_)
  refine lv_dup (pc := 98) hx hb dX10_init_98 rfl ?_
  refine lv_iconst (pc := 99) (v := 1) hx hb dX10_init_99 (by decide) ?_
  refine lv_sipush (pc := 100) (v := 999) hx hb dX10_init_100 (by decide) ?_
  refine r_sI (pc := 103) CX P hF dX10_init_103 (fun h22 H locs P hF => ?_)
  refine lv_dup (pc := 104) hx hb dX10_init_104 rfl ?_
  refine lv_iconst (pc := 105) (v := 2) hx hb dX10_init_105 (by decide) ?_
  refine lv_sipush (pc := 106) (v := 999) hx hb dX10_init_106 (by decide) ?_
  refine r_sI (pc := 109) CX P hF dX10_init_109 (fun h23 H locs P hF => ?_)
  refine lv_dup (pc := 110) hx hb dX10_init_110 rfl ?_
  refine lv_iconst (pc := 111) (v := 3) hx hb dX10_init_111 (by decide) ?_
  refine lv_sipush (pc := 112) (v := 999) hx hb dX10_init_112 (by decide) ?_
  refine r_sI (pc := 115) CX P hF dX10_init_115 (fun h24 H locs P hF => ?_)
  refine lv_dup (pc := 116) hx hb dX10_init_116 rfl ?_
  refine lv_iconst (pc := 117) (v := 4) hx hb dX10_init_117 (by decide) ?_
  refine lv_iconst (pc := 118) (v := 1) hx hb dX10_init_118 (by decide) ?_
  refine r_sI (pc := 119) CX P hF dX10_init_119 (fun h25 H locs P hF => ?_)
  refine lv_dup (pc := 120) hx hb dX10_init_120 rfl ?_
  refine lv_iconst (pc := 121) (v := 5) hx hb dX10_init_121 (by decide) ?_
  refine lv_sipush (pc := 122) (v := 999) hx hb dX10_init_122 (by decide) ?_
  refine r_sI (pc := 125) CX P hF dX10_init_125 (fun h26 H locs P hF => ?_)
  refine lv_dup (pc := 126) hx hb dX10_init_126 rfl ?_
  refine lv_bipush (pc := 127) (v := 6) hx hb dX10_init_127 (by decide) ?_
  refine lv_bipush (pc := 129) (v := 9) hx hb dX10_init_129 (by decide) ?_
  refine r_sI (pc := 131) CX P hF dX10_init_131 (fun h27 H locs P hF => ?_)
  refine lv_dup (pc := 132) hx hb dX10_init_132 rfl ?_
  refine lv_bipush (pc := 133) (v := 7) hx hb dX10_init_133 (by decide) ?_
  refine lv_bipush (pc := 135) (v := 99) hx hb dX10_init_135 (by decide) ?_
  refine r_sI (pc := 137) CX P hF dX10_init_137 (fun h28 H locs P hF => ?_)
  refine lv_dup (pc := 138) hx hb dX10_init_138 rfl ?_
  refine lv_bipush (pc := 139) (v := 8) hx hb dX10_init_139 (by decide) ?_
  refine lv_bipush (pc := 141) (v := 16) hx hb dX10_init_141 (by decide) ?_
  refine r_sI (pc := 143) CX P hF dX10_init_143 (fun h29 H locs P hF => ?_)
  refine r_pR (pc := 144) CX P hnm hF fl_X10_29 (fun q hq => by cases hq; rfl) dX10_init_144 (fun h30 H locs P hF => ?_)
  refine lv_aload_n (pc := 147) hx hb dX10_init_147 rfl (lv_at hl 0 rfl) ?_
  refine lv_iconst (pc := 148) (v := 3) hx hb dX10_init_148 (by decide) ?_
  refine r_nwA (pc := 149) (atype := .int) (N' := 3) CX P hF (Or.inl ⟨rfl, rfl⟩) tw_107 (by decide) (Nat.le_of_ble_eq_true rfl) (Nat.le_of_ble_eq_true rfl) dX10_init_149 (fun h31 H eN P hF => ?_)
  refine lv_dup (pc := 151) hx hb dX10_init_151 rfl ?_
  refine lv_iconst (pc := 152) (v := 0) hx hb dX10_init_152 (by decide) ?_
  refine lv_iconst (pc := 153) (v := 5) hx hb dX10_init_153 (by decide) ?_
  refine r_sI (pc := 154) CX P hF dX10_init_154 (fun h32 H locs P hF => ?_)
  refine lv_dup (pc := 155) hx hb dX10_init_155 rfl ?_
  refine lv_iconst (pc := 156) (v := 1) hx hb dX10_init_156 (by decide) ?_
  refine lv_bipush (pc := 157) (v := 10) hx hb dX10_init_157 (by decide) ?_
  refine r_sI (pc := 159) CX P hF dX10_init_159 (fun h33 H locs P hF => ?_)
  refine lv_dup (pc := 160) hx hb dX10_init_160 rfl ?_
  refine lv_iconst (pc := 161) (v := 2) hx hb dX10_init_161 (by decide) ?_
  refine lv_bipush (pc := 162) (v := 30) hx hb dX10_init_162 (by decide) ?_
  refine r_sI (pc := 164) CX P hF dX10_init_164 (fun h34 H locs P hF => ?_)
  refine r_pR (pc := 165) CX P hnm hF fl_X10_32 (fun q hq => by cases hq; rfl) dX10_init_165 (fun h35 H locs P hF => ?_)
  refine lv_aload_n (pc := 168) hx hb dX10_init_168 rfl (lv_at hl 0 rfl) ?_
  refine lv_iconst (pc := 169) (v := 2) hx hb dX10_init_169 (by decide) ?_
  refine r_nwA (pc := 170) (atype := .boolean) (N' := 2) CX P hF (Or.inr ⟨rfl, rfl⟩) tw_1026 (by decide) (Nat.le_of_ble_eq_true rfl) (Nat.le_of_ble_eq_true rfl) dX10_init_170 (fun h36 H eN P hF => ?_)
  refine r_pR (pc := 172) CX P hnm hF fl_X10_35 (fun q hq => by cases hq; rfl) dX10_init_172 (fun h37 H locs P hF => ?_)
  refine lv_aload_n (pc := 175) hx hb dX10_init_175 rfl (lv_at hl 0 rfl) ?_
  refine lv_bipush (pc := 176) (v := 12) hx hb dX10_init_176 (by decide) ?_
  refine r_nwA (pc := 178) (atype := .int) (N' := 12) CX P hF (Or.inl ⟨rfl, rfl⟩) tw_107 (by decide) (Nat.le_of_ble_eq_true rfl) (Nat.le_of_ble_eq_true rfl) dX10_init_178 (fun h38 H eN P hF => ?_)
  refine r_pR (pc := 180) CX P hnm hF fl_X10_39 (fun q hq => by cases hq; rfl) dX10_init_180 (fun h39 H locs P hF => ?_)
  refine lv_aload_n (pc := 183) hx hb dX10_init_183 rfl (lv_at hl 0 rfl) ?_
  refine lv_bipush (pc := 184) (v := 12) hx hb dX10_init_184 (by decide) ?_
  refine r_nwA (pc := 186) (atype := .int) (N' := 12) CX P hF (Or.inl ⟨rfl, rfl⟩) tw_107 (by decide) (Nat.le_of_ble_eq_true rfl) (Nat.le_of_ble_eq_true rfl) dX10_init_186 (fun h40 H eN P hF => ?_)
  refine r_pR (pc := 188) CX P hnm hF fl_X10_42 (fun q hq => by cases hq; rfl) dX10_init_188 (fun h41 H locs P hF => ?_)
  refine lv_aload_n (pc := 191) hx hb dX10_init_191 rfl (lv_at hl 0 rfl) ?_
  refine lv_bipush (pc := 192) (v := 12) hx hb dX10_init_192 (by decide) ?_
  refine r_nwA (pc := 194) (atype := .int) (N' := 12) CX P hF (Or.inl ⟨rfl, rfl⟩) tw_107 (by decide) (Nat.le_of_ble_eq_true rfl) (Nat.le_of_ble_eq_true rfl) dX10_init_194 (fun h42 H eN P hF => ?_)
  refine r_pR (pc := 196) CX P hnm hF fl_X10_45 (fun q hq => by cases hq; rfl) dX10_init_196 (fun h43 H locs P hF => ?_)
  refine lv_aload_n (pc := 199) hx hb dX10_init_199 rfl (lv_at hl 0 rfl) ?_
  refine lv_bipush (pc := 200) (v := 12) hx hb dX10_init_200 (by decide) ?_
  refine r_nwA (pc := 202) (atype := .int) (N' := 12) CX P hF (Or.inl ⟨rfl, rfl⟩) tw_107 (by decide) (Nat.le_of_ble_eq_true rfl) (Nat.le_of_ble_eq_true rfl) dX10_init_202 (fun h44 H eN P hF => ?_)
  refine r_pR (pc := 204) CX P hnm hF fl_X10_48 (fun q hq => by cases hq; rfl) dX10_init_204 (fun h45 H locs P hF => ?_)
  refine lv_aload_n (pc := 207) hx hb dX10_init_207 rfl (lv_at hl 0 rfl) ?_
  refine lv_bipush (pc := 208) (v := 12) hx hb dX10_init_208 (by decide) ?_
  refine r_nwA (pc := 210) (atype := .int) (N' := 12) CX P hF (Or.inl ⟨rfl, rfl⟩) tw_107 (by decide) (Nat.le_of_ble_eq_true rfl) (Nat.le_of_ble_eq_true rfl) dX10_init_210 (fun h46 H eN P hF => ?_)
  refine r_pR (pc := 212) CX P hnm hF fl_X10_51 (fun q hq => by cases hq; rfl) dX10_init_212 (fun h47 H locs P hF => ?_)
  refine lv_aload_n (pc := 215) hx hb dX10_init_215 rfl (lv_at hl 0 rfl) ?_
  refine lv_bipush (pc := 216) (v := 12) hx hb dX10_init_216 (by decide) ?_
  refine r_nwA (pc := 218) (atype := .int) (N' := 12) CX P hF (Or.inl ⟨rfl, rfl⟩) tw_107 (by decide) (Nat.le_of_ble_eq_true rfl) (Nat.le_of_ble_eq_true rfl) dX10_init_218 (fun h48 H eN P hF => ?_)
  refine r_pR (pc := 220) CX P hnm hF fl_X10_54 (fun q hq => by cases hq; rfl) dX10_init_220 (fun h49 H locs P hF => ?_)
  refine lv_aload_n (pc := 223) hx hb dX10_init_223 rfl (lv_at hl 0 rfl) ?_
  refine lv_bipush (pc := 224) (v := 12) hx hb dX10_init_224 (by decide) ?_
  refine r_nwA (pc := 226) (atype := .int) (N' := 12) CX P hF (Or.inl ⟨rfl, rfl⟩) tw_107 (by decide) (Nat.le_of_ble_eq_true rfl) (Nat.le_of_ble_eq_true rfl) dX10_init_226 (fun h50 H eN P hF => ?_)
  refine r_pR (pc := 228) CX P hnm hF fl_X10_57 (fun q hq => by cases hq; rfl) dX10_init_228 (fun h51 H locs P hF => ?_)
  refine lv_aload_n (pc := 231) hx hb dX10_init_231 rfl (lv_at hl 0 rfl) ?_
  refine lv_bipush (pc := 232) (v := 28) hx hb dX10_init_232 (by decide) ?_
  refine r_nwA (pc := 234) (atype := .int) (N' := 28) CX P hF (Or.inl ⟨rfl, rfl⟩) tw_107 (by decide) (Nat.le_of_ble_eq_true rfl) (Nat.le_of_ble_eq_true rfl) dX10_init_234 (fun h52 H eN P hF => ?_)
  refine r_pR (pc := 236) CX P hnm hF fl_X10_60 (fun q hq => by cases hq; rfl) dX10_init_236 (fun h53 H locs P hF => ?_)
  refine lv_aload_n (pc := 239) hx hb dX10_init_239 rfl (lv_at hl 0 rfl) ?_
  refine lv_bipush (pc := 240) (v := 28) hx hb dX10_init_240 (by decide) ?_
  refine r_nwA (pc := 242) (atype := .int) (N' := 28) CX P hF (Or.inl ⟨rfl, rfl⟩) tw_107 (by decide) (Nat.le_of_ble_eq_true rfl) (Nat.le_of_ble_eq_true rfl) dX10_init_242 (fun h54 H eN P hF => ?_)
  refine r_pR (pc := 244) CX P hnm hF fl_X10_63 (fun q hq => by cases hq; rfl) dX10_init_244 (fun h55 H locs P hF => ?_)
  refine lv_aload_n (pc := 247) hx hb dX10_init_247 rfl (lv_at hl 0 rfl) ?_
  refine lv_bipush (pc := 248) (v := 28) hx hb dX10_init_248 (by decide) ?_
  refine r_nwA (pc := 250) (atype := .boolean) (N' := 28) CX P hF (Or.inr ⟨rfl, rfl⟩) tw_1026 (by decide) (Nat.le_of_ble_eq_true rfl) (Nat.le_of_ble_eq_true rfl) dX10_init_250 (fun h56 H eN P hF => ?_)
  refine r_pR (pc := 252) CX P hnm hF fl_X10_66 (fun q hq => by cases hq; rfl) dX10_init_252 (fun h57 H locs P hF => ?_)
  refine lv_aload_n (pc := 255) hx hb dX10_init_255 rfl (lv_at hl 0 rfl) ?_
  refine r_gR (pc := 256) CX P hF fl_X10_13 dX10_init_256 (fun a58 hF => ?_)
  refine lv_iconst (pc := 259) (v := 0) hx hb dX10_init_259 (by decide) ?_
  refine lv_iconst (pc := 260) (v := 1) hx hb dX10_init_260 (by decide) ?_
  refine r_sI (pc := 261) CX P hF dX10_init_261 (fun h59 H locs P hF => ?_)
  refine lv_aload_n (pc := 262) hx hb dX10_init_262 rfl (lv_at hl 0 rfl) ?_
  refine r_gR (pc := 263) CX P hF fl_X10_13 dX10_init_263 (fun a60 hF => ?_)
  refine lv_iconst (pc := 266) (v := 3) hx hb dX10_init_266 (by decide) ?_
  refine lv_iconst (pc := 267) (v := 4) hx hb dX10_init_267 (by decide) ?_
  refine r_sI (pc := 268) CX P hF dX10_init_268 (fun h61 H locs P hF => ?_)
  refine lv_aload_n (pc := 269) hx hb dX10_init_269 rfl (lv_at hl 0 rfl) ?_
  refine r_gR (pc := 270) CX P hF fl_X10_13 dX10_init_270 (fun a62 hF => ?_)
  refine lv_bipush (pc := 273) (v := 6) hx hb dX10_init_273 (by decide) ?_
  refine lv_bipush (pc := 275) (v := 10) hx hb dX10_init_275 (by decide) ?_
  refine r_sI (pc := 277) CX P hF dX10_init_277 (fun h63 H locs P hF => ?_)
  refine lv_aload_n (pc := 278) hx hb dX10_init_278 rfl (lv_at hl 0 rfl) ?_
  refine lv_iconst (pc := 279) (v := 0) hx hb dX10_init_279 (by decide) ?_
  refine lv_iconst (pc := 280) (v := (-1)) hx hb dX10_init_280 (by decide) ?_
  refine r_cVv (pc := 281) (As := [.int 0, .int (-1)]) (rest := []) CX P hl.1 hF kv_X10_69 (fun h1 q => c_X10_laysGroup l G B _ _ _ _ _ q) rfl rfl ⟨Nat.le_of_ble_eq_true rfl, Nat.le_of_ble_eq_true rfl⟩ (Nat.le_of_ble_eq_true rfl) ⟨Nat.le_of_ble_eq_true rfl, Nat.le_of_ble_eq_true rfl⟩ dX10_init_281 (fun h64 H locs P hF => ?_)
  cases hF
  exact hret _ _ _ _ P dX10_init_284
def F_X10_copies_L3 (a2 : Nat) (v3 : Int32) (a4 : Nat) (v5 : Int32) (v6 : Int32) (h7 : Hp) : Option ((Int32 × Hp) ⊕ (Hp)) :=
if 559 ≤ v6 then (
some (.inr h7)) else (
(aI h7 a2 (v3 + v6)).bind fun v8 =>
(sI h7 a4 (v5 + v6) v8).bind fun h9 =>
bl (v6 + 1) fun v10 =>
some (.inl (v10, h9)))
def F_X10_copies (h : Hp) (ap0 : Nat) (vp1 : Int32) (ap2 : Nat) (vp3 : Int32) : Option (Hp) :=
(loopF (fun x => F_X10_copies_L3 ap0 vp1 ap2 vp3 x.1 x.2) 6000 (0, h)).bind fun h11 =>
some h11
set_option maxRecDepth 100000 in
set_option maxHeartbeats 4000000 in
theorem c_X10_copies (l : Launch) (G : GG) (B : Nat) (h : Hp) (ap0 : Nat) (vp1 : Int32) (ap2 : Nat) (vp3 : Int32) (hr : Hp) (hF : F_X10_copies h ap0 vp1 ap2 vp3 = some hr) : CV l yX10_copies cX10_copies 5 0 0 0 0 G B h [.ref (B + ap0), .int vp1, .ref (B + ap2), .int vp3] hr := by
  refine ent_v rfl (Nat.le_of_ble_eq_true rfl) ?_
  intro p e s m args below meth c ls Q CX hnm hret P hl
  have CX : Cxt p m c cX10_copies 5 s args RX10 G B := CX
  obtain ⟨⟨hx, hb, hml, hown, hts⟩, -, -⟩ := id CX
  replace hl : lv_has ls 5 [(0, .ref (B + ap0)), (1, .int vp1), (2, .ref (B + ap2)), (3, .int vp3)] := hl
  generalize s.heap = H at P ⊢
  generalize ([] : List Loc) = locs at P ⊢
  unfold F_X10_copies at hF
  refine lv_iconst (pc := 0) (v := 0) hx hb dX10_copies_0 (by decide) ?_
  refine lv_istore (pc := 1) hx hb dX10_copies_1 hl (by decide) rfl (fun ls hl => ?_)
  replace hl : lv_has ls 5 [(4, .int 0), (0, .ref (B + ap0)), (1, .int vp1), (2, .ref (B + ap2)), (3, .int vp3)] := hl
  obtain ⟨r1, hLp1, hK1⟩ := bd_some hF
  have hX1 : ∀ (h11 : Hp) (H : Heap) (locs : List Loc) (ls : Array Slot), Pic G B h11 s H locs → lv_has ls 5 [] → h11 = r1 → W p l e (rmM 0 0 0 0) s m args below meth c H locs 0 0 Q (F0 m 29 ls []) := by
    intro h11 H locs ls P hl er
    subst er
    have hF := hK1
    cases hF
    exact hret _ _ _ _ P dX10_copies_29
  have hL1 : ∀ (n : Nat) (v6 : Int32) (h7 : Hp) (H : Heap) (locs : List Loc) (ls : Array Slot), Pic G B h7 s H locs → lv_has ls 5 [(0, .ref (B + ap0)), (1, .int vp1), (2, .ref (B + ap2)), (3, .int vp3), (4, .int v6)] → loopF (fun x => F_X10_copies_L3 ap0 vp1 ap2 vp3 x.1 x.2) n (v6, h7) = some r1 → W p l e (rmM 0 0 0 0) s m args below meth c H locs 0 0 Q (F0 m 3 ls []) := by
    intro n
    induction n with
    | zero => intro v6 h7 H locs ls P hl hq; cases hq
    | succ n ih =>
      intro v6 h7 H locs ls P hl hq
      obtain ⟨z1, hS1, hI1, hR1⟩ := loop_some hq
      have hF : F_X10_copies_L3 ap0 vp1 ap2 vp3 v6 h7 = some z1 := hS1
      unfold F_X10_copies_L3 at hF
      refine lv_iload (pc := 3) hx hb dX10_copies_3 (lv_at hl 4 rfl) ?_
      refine lv_sipush (pc := 5) (v := 559) hx hb dX10_copies_5 (by decide) ?_
      refine lv_icmp_ge (pc := 8) (tgt := 29) hx hb dX10_copies_8 (by decide) (fun hc => ?_) (fun hc => ?_)
      · rw [if_pos hc] at hF
        exact hX1 _ _ _ _ P (lv_sub hl [] rfl) (hR1 _ (Option.some.inj hF).symm)
      · rw [if_neg hc] at hF
        refine lv_aload_n (pc := 11) hx hb dX10_copies_11 rfl (lv_at hl 2 rfl) ?_
        refine lv_iload_n (pc := 12) hx hb dX10_copies_12 rfl (lv_at hl 3 rfl) ?_
        refine lv_iload (pc := 13) hx hb dX10_copies_13 (lv_at hl 4 rfl) ?_
        refine lv_iadd (pc := 15) hx hb dX10_copies_15 ?_
        refine lv_aload_n (pc := 16) hx hb dX10_copies_16 rfl (lv_at hl 0 rfl) ?_
        refine lv_iload_n (pc := 17) hx hb dX10_copies_17 rfl (lv_at hl 1 rfl) ?_
        refine lv_iload (pc := 18) hx hb dX10_copies_18 (lv_at hl 4 rfl) ?_
        refine lv_iadd (pc := 20) hx hb dX10_copies_20 ?_
        refine r_aI (pc := 21) CX P hF dX10_copies_21 (fun v8 hF => ?_)
        refine r_sI (pc := 22) CX P hF dX10_copies_22 (fun h9 H locs P hF => ?_)
        obtain ⟨v10, ev10, hF⟩ := bl_o hF
        refine lv_iinc (pc := 23) (k := 4) (v := v10) hx hb dX10_copies_23 hl rfl ev10 (by decide) rfl (fun ls hl => ?_)
        replace hl : lv_has ls 5 [(4, .int v10), (0, .ref (B + ap0)), (1, .int vp1), (2, .ref (B + ap2)), (3, .int vp3)] := hl
        refine lv_goto (pc := 26) (tgt := 3) hx hb dX10_copies_26 (by decide) ?_
        exact ih _ _ _ _ _ P (lv_sub hl [1, 2, 3, 4, 0] rfl) (hI1 _ (Option.some.inj hF).symm)
  exact hL1 _ _ _ _ _ _ P (lv_sub hl [1, 2, 3, 4, 0] rfl) hLp1
def F_X10_begins (h : Hp) (a0 : Nat) : Option (Hp) :=
(gR h a0 10 1).bind fun a1 =>
(gR h a0 10 3).bind fun a2 =>
(F_X10_copies h a1 0 a2 0).bind fun h3 =>
some h3
set_option maxRecDepth 100000 in
set_option maxHeartbeats 4000000 in
theorem c_X10_begins (l : Launch) (G : GG) (B : Nat) (h : Hp) (a0 : Nat) (hr : Hp) (hF : F_X10_begins h a0 = some hr) : CV l yX10_begins cX10_begins 1 1 24 0 0 G B h [.ref (B + a0)] hr := by
  refine ent_v rfl (Nat.le_of_ble_eq_true rfl) ?_
  intro p e s m args below meth c ls Q CX hnm hret P hl
  have CX : Cxt p m c cX10_begins 1 s args RX10 G B := CX
  obtain ⟨⟨hx, hb, hml, hown, hts⟩, -, -⟩ := id CX
  replace hl : lv_has ls 1 [(0, .ref (B + a0))] := hl
  generalize s.heap = H at P ⊢
  generalize ([] : List Loc) = locs at P ⊢
  unfold F_X10_begins at hF
  refine lv_aload_n (pc := 0) hx hb dX10_begins_0 rfl (lv_at hl 0 rfl) ?_
  refine r_gR (pc := 1) CX P hF fl_X10_13 dX10_begins_1 (fun a1 hF => ?_)
  refine lv_iconst (pc := 4) (v := 0) hx hb dX10_begins_4 (by decide) ?_
  refine lv_aload_n (pc := 5) hx hb dX10_begins_5 rfl (lv_at hl 0 rfl) ?_
  refine r_gR (pc := 6) CX P hF fl_X10_20 dX10_begins_6 (fun a2 hF => ?_)
  refine lv_iconst (pc := 9) (v := 0) hx hb dX10_begins_9 (by decide) ?_
  refine r_cSv (pc := 10) (As := [.ref (B + a1), .int 0, .ref (B + a2), .int 0]) (rest := []) CX P hl.1 hF ks_X10_73 (fun h1 q => c_X10_copies l G B _ _ _ _ _ _ q) rfl rfl ⟨Nat.le_of_ble_eq_true rfl, Nat.le_of_ble_eq_true rfl⟩ (Nat.le_of_ble_eq_true rfl) ⟨Nat.le_of_ble_eq_true rfl, Nat.le_of_ble_eq_true rfl⟩ dX10_begins_10 (fun h3 H locs P hF => ?_)
  cases hF
  exact hret _ _ _ _ P dX10_begins_13
def F_X10_notes_L11 (a4 : Nat) (v5 : Int32) (h6 : Hp) : Option ((Int32 × Hp) ⊕ (Hp)) :=
if 5031 ≤ v5 then (
some (.inr h6)) else (
(gR h6 a4 10 2).bind fun a7 =>
(gR h6 a4 10 2).bind fun a8 =>
(aI h6 a8 (559 + v5)).bind fun v9 =>
(sI h6 a7 v5 v9).bind fun h10 =>
bl (v5 + 1) fun v11 =>
some (.inl (v11, h10)))
def F_X10_notes (h : Hp) (a0 : Nat) : Option (Hp) :=
(gI h a0 10 8).bind fun v1 =>
(if v1 = 10 then (
(loopF (fun x => F_X10_notes_L11 a0 x.1 x.2) 6000 (0, h)).bind fun h12 =>
(gI h12 a0 10 8).bind fun v13 =>
(pI h12 a0 10 8 (v13 - 1)).bind fun h14 =>
some h14) else (
some h)).bind fun h15 =>
(gR h15 a0 10 3).bind fun a16 =>
(gR h15 a0 10 2).bind fun a17 =>
(gI h15 a0 10 8).bind fun v18 =>
(F_X10_copies h15 a16 0 a17 (559 * v18)).bind fun h19 =>
(gI h19 a0 10 8).bind fun v20 =>
(pI h19 a0 10 8 (v20 + 1)).bind fun h21 =>
some h21
set_option maxRecDepth 100000 in
set_option maxHeartbeats 4000000 in
theorem c_X10_notes (l : Launch) (G : GG) (B : Nat) (h : Hp) (a0 : Nat) (hr : Hp) (hF : F_X10_notes h a0 = some hr) : CV l yX10_notes cX10_notes 2 1 24 0 0 G B h [.ref (B + a0)] hr := by
  refine ent_v rfl (Nat.le_of_ble_eq_true rfl) ?_
  intro p e s m args below meth c ls Q CX hnm hret P hl
  have CX : Cxt p m c cX10_notes 2 s args RX10 G B := CX
  obtain ⟨⟨hx, hb, hml, hown, hts⟩, -, -⟩ := id CX
  replace hl : lv_has ls 2 [(0, .ref (B + a0))] := hl
  generalize s.heap = H at P ⊢
  generalize ([] : List Loc) = locs at P ⊢
  unfold F_X10_notes at hF
  refine lv_aload_n (pc := 0) hx hb dX10_notes_0 rfl (lv_at hl 0 rfl) ?_
  refine r_gI (pc := 1) CX P hF fl_X10_77 dX10_notes_1 (fun v1 hF => ?_)
  refine lv_bipush (pc := 4) (v := 10) hx hb dX10_notes_4 (by decide) ?_
  obtain ⟨j2, hA2, hK2⟩ := bd_some hF
  have hJ2 : ∀ (h15 : Hp) (H : Heap) (locs : List Loc) (ls : Array Slot), Pic G B h15 s H locs → lv_has ls 2 [(0, .ref (B + a0))] → h15 = j2 → W p l e (rmM 1 24 0 0) s m args below meth c H locs 0 0 Q (F0 m 50 ls []) := by
    intro h15 H locs ls P hl ej
    subst ej
    have hF := hK2
    refine lv_aload_n (pc := 50) hx hb dX10_notes_50 rfl (lv_at hl 0 rfl) ?_
    refine r_gR (pc := 51) CX P hF fl_X10_20 dX10_notes_51 (fun a16 hF => ?_)
    refine lv_iconst (pc := 54) (v := 0) hx hb dX10_notes_54 (by decide) ?_
    refine lv_aload_n (pc := 55) hx hb dX10_notes_55 rfl (lv_at hl 0 rfl) ?_
    refine r_gR (pc := 56) CX P hF fl_X10_17 dX10_notes_56 (fun a17 hF => ?_)
    refine lv_sipush (pc := 59) (v := 559) hx hb dX10_notes_59 (by decide) ?_
    refine lv_aload_n (pc := 62) hx hb dX10_notes_62 rfl (lv_at hl 0 rfl) ?_
    refine r_gI (pc := 63) CX P hF fl_X10_77 dX10_notes_63 (fun v18 hF => ?_)
    refine lv_imul (pc := 66) hx hb dX10_notes_66 ?_
    refine r_cSv (pc := 67) (As := [.ref (B + a16), .int 0, .ref (B + a17), .int (559 * v18)]) (rest := []) CX P hl.1 hF ks_X10_73 (fun h1 q => c_X10_copies l G B _ _ _ _ _ _ q) rfl rfl ⟨Nat.le_of_ble_eq_true rfl, Nat.le_of_ble_eq_true rfl⟩ (Nat.le_of_ble_eq_true rfl) ⟨Nat.le_of_ble_eq_true rfl, Nat.le_of_ble_eq_true rfl⟩ dX10_notes_67 (fun h19 H locs P hF => ?_)
    refine lv_aload_n (pc := 70) hx hb dX10_notes_70 rfl (lv_at hl 0 rfl) ?_
    refine lv_dup (pc := 71) hx hb dX10_notes_71 rfl ?_
    refine r_gI (pc := 72) CX P hF fl_X10_77 dX10_notes_72 (fun v20 hF => ?_)
    refine lv_iconst (pc := 75) (v := 1) hx hb dX10_notes_75 (by decide) ?_
    refine lv_iadd (pc := 76) hx hb dX10_notes_76 ?_
    refine r_pI (pc := 77) CX P hF fl_X10_77 dX10_notes_77 (fun h21 H locs P hF => ?_)
    cases hF
    exact hret _ _ _ _ P dX10_notes_80
  replace hF := hA2
  refine lv_icmp_ne (pc := 6) (tgt := 50) hx hb dX10_notes_6 (by decide) (fun hc => ?_) (fun hc => ?_)
  · rw [if_neg hc] at hF
    exact hJ2 _ _ _ _ P (lv_sub hl [0] rfl) (Option.some.inj hF)
  · rw [if_pos hc] at hF
    refine lv_iconst (pc := 9) (v := 0) hx hb dX10_notes_9 (by decide) ?_
    refine lv_istore_n (pc := 10) hx hb dX10_notes_10 rfl hl (by decide) rfl (fun ls hl => ?_)
    replace hl : lv_has ls 2 [(1, .int 0), (0, .ref (B + a0))] := hl
    obtain ⟨r3, hLp3, hK3⟩ := bd_some hF
    have hX3 : ∀ (h12 : Hp) (H : Heap) (locs : List Loc) (ls : Array Slot), Pic G B h12 s H locs → lv_has ls 2 [(0, .ref (B + a0))] → h12 = r3 → W p l e (rmM 1 24 0 0) s m args below meth c H locs 0 0 Q (F0 m 40 ls []) := by
      intro h12 H locs ls P hl er
      subst er
      have hF := hK3
      refine lv_aload_n (pc := 40) hx hb dX10_notes_40 rfl (lv_at hl 0 rfl) ?_
      refine lv_dup (pc := 41) hx hb dX10_notes_41 rfl ?_
      refine r_gI (pc := 42) CX P hF fl_X10_77 dX10_notes_42 (fun v13 hF => ?_)
      refine lv_iconst (pc := 45) (v := 1) hx hb dX10_notes_45 (by decide) ?_
      refine lv_isub (pc := 46) hx hb dX10_notes_46 ?_
      refine r_pI (pc := 47) CX P hF fl_X10_77 dX10_notes_47 (fun h14 H locs P hF => ?_)
      exact hJ2 _ _ _ _ P (lv_sub hl [0] rfl) (Option.some.inj hF)
    have hL3 : ∀ (n : Nat) (v5 : Int32) (h6 : Hp) (H : Heap) (locs : List Loc) (ls : Array Slot), Pic G B h6 s H locs → lv_has ls 2 [(0, .ref (B + a0)), (1, .int v5)] → loopF (fun x => F_X10_notes_L11 a0 x.1 x.2) n (v5, h6) = some r3 → W p l e (rmM 1 24 0 0) s m args below meth c H locs 0 0 Q (F0 m 11 ls []) := by
      intro n
      induction n with
      | zero => intro v5 h6 H locs ls P hl hq; cases hq
      | succ n ih =>
        intro v5 h6 H locs ls P hl hq
        obtain ⟨z3, hS3, hI3, hR3⟩ := loop_some hq
        have hF : F_X10_notes_L11 a0 v5 h6 = some z3 := hS3
        unfold F_X10_notes_L11 at hF
        refine lv_iload_n (pc := 11) hx hb dX10_notes_11 rfl (lv_at hl 1 rfl) ?_
        refine lv_sipush (pc := 12) (v := 5031) hx hb dX10_notes_12 (by decide) ?_
        refine lv_icmp_ge (pc := 15) (tgt := 40) hx hb dX10_notes_15 (by decide) (fun hc => ?_) (fun hc => ?_)
        · rw [if_pos hc] at hF
          exact hX3 _ _ _ _ P (lv_sub hl [0] rfl) (hR3 _ (Option.some.inj hF).symm)
        · rw [if_neg hc] at hF
          refine lv_aload_n (pc := 18) hx hb dX10_notes_18 rfl (lv_at hl 0 rfl) ?_
          refine r_gR (pc := 19) CX P hF fl_X10_17 dX10_notes_19 (fun a7 hF => ?_)
          refine lv_iload_n (pc := 22) hx hb dX10_notes_22 rfl (lv_at hl 1 rfl) ?_
          refine lv_aload_n (pc := 23) hx hb dX10_notes_23 rfl (lv_at hl 0 rfl) ?_
          refine r_gR (pc := 24) CX P hF fl_X10_17 dX10_notes_24 (fun a8 hF => ?_)
          refine lv_sipush (pc := 27) (v := 559) hx hb dX10_notes_27 (by decide) ?_
          refine lv_iload_n (pc := 30) hx hb dX10_notes_30 rfl (lv_at hl 1 rfl) ?_
          refine lv_iadd (pc := 31) hx hb dX10_notes_31 ?_
          refine r_aI (pc := 32) CX P hF dX10_notes_32 (fun v9 hF => ?_)
          refine r_sI (pc := 33) CX P hF dX10_notes_33 (fun h10 H locs P hF => ?_)
          obtain ⟨v11, ev11, hF⟩ := bl_o hF
          refine lv_iinc (pc := 34) (k := 1) (v := v11) hx hb dX10_notes_34 hl rfl ev11 (by decide) rfl (fun ls hl => ?_)
          replace hl : lv_has ls 2 [(1, .int v11), (0, .ref (B + a0))] := hl
          refine lv_goto (pc := 37) (tgt := 11) hx hb dX10_notes_37 (by decide) ?_
          exact ih _ _ _ _ _ P (lv_sub hl [1, 0] rfl) (hI3 _ (Option.some.inj hF).symm)
    exact hL3 _ _ _ _ _ _ P (lv_sub hl [1, 0] rfl) hLp3
def F_X10_ends (h : Hp) (a0 : Nat) (vp1 : Int32) (vp2 : Int32) : Option (Int32 × Hp) :=
if vp2 = 0 then (
(gR h a0 10 3).bind fun a1 =>
(gR h a0 10 1).bind fun a2 =>
(F_X10_copies h a1 0 a2 0).bind fun h3 =>
some (vp1, h3)) else (
(cO h a0 10 (F_X10_notes h a0)).bind fun h4 =>
some (vp1, h4))
set_option maxRecDepth 100000 in
set_option maxHeartbeats 4000000 in
theorem c_X10_ends (l : Launch) (G : GG) (B : Nat) (h : Hp) (a0 : Nat) (vp1 : Int32) (vp2 : Int32) (r0 : Int32) (hr : Hp) (hF : F_X10_ends h a0 vp1 vp2 = some (r0, hr)) : CI l yX10_ends cX10_ends 3 .int 2 45 0 0 G B h [.ref (B + a0), .int vp1, .int vp2] r0 hr := by
  refine ent_i rfl (Nat.le_of_ble_eq_true rfl) ?_
  intro p e s m args below meth c ls Q CX hnm hret P hl
  have CX : Cxt p m c cX10_ends 3 s args RX10 G B := CX
  obtain ⟨⟨hx, hb, hml, hown, hts⟩, -, -⟩ := id CX
  replace hl : lv_has ls 3 [(0, .ref (B + a0)), (1, .int vp1), (2, .int vp2)] := hl
  generalize s.heap = H at P ⊢
  generalize ([] : List Loc) = locs at P ⊢
  unfold F_X10_ends at hF
  refine lv_iload_n (pc := 0) hx hb dX10_ends_0 rfl (lv_at hl 2 rfl) ?_
  refine lv_if_eq (pc := 1) (tgt := 11) hx hb dX10_ends_1 (by decide) (fun hc => ?_) (fun hc => ?_)
  · rw [if_pos hc] at hF
    refine lv_aload_n (pc := 11) hx hb dX10_ends_11 rfl (lv_at hl 0 rfl) ?_
    refine r_gR (pc := 12) CX P hF fl_X10_20 dX10_ends_12 (fun a1 hF => ?_)
    refine lv_iconst (pc := 15) (v := 0) hx hb dX10_ends_15 (by decide) ?_
    refine lv_aload_n (pc := 16) hx hb dX10_ends_16 rfl (lv_at hl 0 rfl) ?_
    refine r_gR (pc := 17) CX P hF fl_X10_13 dX10_ends_17 (fun a2 hF => ?_)
    refine lv_iconst (pc := 20) (v := 0) hx hb dX10_ends_20 (by decide) ?_
    refine r_cSv (pc := 21) (As := [.ref (B + a1), .int 0, .ref (B + a2), .int 0]) (rest := []) CX P hl.1 hF ks_X10_73 (fun h1 q => c_X10_copies l G B _ _ _ _ _ _ q) rfl rfl ⟨Nat.le_of_ble_eq_true rfl, Nat.le_of_ble_eq_true rfl⟩ (Nat.le_of_ble_eq_true rfl) ⟨Nat.le_of_ble_eq_true rfl, Nat.le_of_ble_eq_true rfl⟩ dX10_ends_21 (fun h3 H locs P hF => ?_)
    refine lv_iload_n (pc := 24) hx hb dX10_ends_24 rfl (lv_at hl 1 rfl) ?_
    cases hF
    exact hret _ _ _ _ P rfl dX10_ends_25
  · rw [if_neg hc] at hF
    refine lv_aload_n (pc := 4) hx hb dX10_ends_4 rfl (lv_at hl 0 rfl) ?_
    refine r_cVv (pc := 5) (As := []) (rest := []) CX P hl.1 hF kv_X10_80 (fun h1 q => c_X10_notes l G B _ _ _ q) rfl rfl ⟨Nat.le_of_ble_eq_true rfl, Nat.le_of_ble_eq_true rfl⟩ (Nat.le_of_ble_eq_true rfl) ⟨Nat.le_of_ble_eq_true rfl, Nat.le_of_ble_eq_true rfl⟩ dX10_ends_5 (fun h4 H locs P hF => ?_)
    refine lv_goto (pc := 8) (tgt := 24) hx hb dX10_ends_8 (by decide) ?_
    refine lv_iload_n (pc := 24) hx hb dX10_ends_24 rfl (lv_at hl 1 rfl) ?_
    cases hF
    exact hret _ _ _ _ P rfl dX10_ends_25
def F_X10_of (h : Hp) (a0 : Nat) (vp1 : Int32) (vp2 : Int32) (vp3 : Int32) : Option (Int32 × Hp) :=
(gR h a0 10 1).bind fun a1 =>
(aI h a1 ((7 + (34 * vp1)) + vp2)).bind fun v2 =>
(sI h a1 ((7 + (34 * vp1)) + vp2) (v2 + vp3)).bind fun h3 =>
(gR h3 a0 10 1).bind fun a4 =>
(aI h3 a4 ((7 + (34 * vp1)) + vp2)).bind fun v5 =>
some (v5, h3)
set_option maxRecDepth 100000 in
set_option maxHeartbeats 4000000 in
theorem c_X10_of (l : Launch) (G : GG) (B : Nat) (h : Hp) (a0 : Nat) (vp1 : Int32) (vp2 : Int32) (vp3 : Int32) (r0 : Int32) (hr : Hp) (hF : F_X10_of h a0 vp1 vp2 vp3 = some (r0, hr)) : CI l yX10_of cX10_of 4 .int 0 0 0 0 G B h [.ref (B + a0), .int vp1, .int vp2, .int vp3] r0 hr := by
  refine ent_i rfl (Nat.le_of_ble_eq_true rfl) ?_
  intro p e s m args below meth c ls Q CX hnm hret P hl
  have CX : Cxt p m c cX10_of 4 s args RX10 G B := CX
  obtain ⟨⟨hx, hb, hml, hown, hts⟩, -, -⟩ := id CX
  replace hl : lv_has ls 4 [(0, .ref (B + a0)), (1, .int vp1), (2, .int vp2), (3, .int vp3)] := hl
  generalize s.heap = H at P ⊢
  generalize ([] : List Loc) = locs at P ⊢
  unfold F_X10_of at hF
  refine lv_aload_n (pc := 0) hx hb dX10_of_0 rfl (lv_at hl 0 rfl) ?_
  refine r_gR (pc := 1) CX P hF fl_X10_13 dX10_of_1 (fun a1 hF => ?_)
  refine lv_bipush (pc := 4) (v := 7) hx hb dX10_of_4 (by decide) ?_
  refine lv_bipush (pc := 6) (v := 34) hx hb dX10_of_6 (by decide) ?_
  refine lv_iload_n (pc := 8) hx hb dX10_of_8 rfl (lv_at hl 1 rfl) ?_
  refine lv_imul (pc := 9) hx hb dX10_of_9 ?_
  refine lv_iadd (pc := 10) hx hb dX10_of_10 ?_
  refine lv_iload_n (pc := 11) hx hb dX10_of_11 rfl (lv_at hl 2 rfl) ?_
  refine lv_iadd (pc := 12) hx hb dX10_of_12 ?_
  refine lv_dup2_11 (pc := 13) hx hb dX10_of_13 rfl rfl ?_
  refine r_aI (pc := 14) CX P hF dX10_of_14 (fun v2 hF => ?_)
  refine lv_iload_n (pc := 15) hx hb dX10_of_15 rfl (lv_at hl 3 rfl) ?_
  refine lv_iadd (pc := 16) hx hb dX10_of_16 ?_
  refine r_sI (pc := 17) CX P hF dX10_of_17 (fun h3 H locs P hF => ?_)
  refine lv_aload_n (pc := 18) hx hb dX10_of_18 rfl (lv_at hl 0 rfl) ?_
  refine r_gR (pc := 19) CX P hF fl_X10_13 dX10_of_19 (fun a4 hF => ?_)
  refine lv_bipush (pc := 22) (v := 7) hx hb dX10_of_22 (by decide) ?_
  refine lv_bipush (pc := 24) (v := 34) hx hb dX10_of_24 (by decide) ?_
  refine lv_iload_n (pc := 26) hx hb dX10_of_26 rfl (lv_at hl 1 rfl) ?_
  refine lv_imul (pc := 27) hx hb dX10_of_27 ?_
  refine lv_iadd (pc := 28) hx hb dX10_of_28 ?_
  refine lv_iload_n (pc := 29) hx hb dX10_of_29 rfl (lv_at hl 2 rfl) ?_
  refine lv_iadd (pc := 30) hx hb dX10_of_30 ?_
  refine r_aI (pc := 31) CX P hF dX10_of_31 (fun v5 hF => ?_)
  cases hF
  exact hret _ _ _ _ P rfl dX10_of_32
def F_X10_ofProcess (h : Hp) (a0 : Nat) (vp1 : Int32) (vp2 : Int32) (vp3 : Int32) : Option (Int32 × Hp) :=
(gR h a0 10 1).bind fun a1 =>
(aI h a1 ((415 + (8 * vp1)) + vp2)).bind fun v2 =>
(sI h a1 ((415 + (8 * vp1)) + vp2) (v2 + vp3)).bind fun h3 =>
(gR h3 a0 10 1).bind fun a4 =>
(aI h3 a4 ((415 + (8 * vp1)) + vp2)).bind fun v5 =>
some (v5, h3)
set_option maxRecDepth 100000 in
set_option maxHeartbeats 4000000 in
theorem c_X10_ofProcess (l : Launch) (G : GG) (B : Nat) (h : Hp) (a0 : Nat) (vp1 : Int32) (vp2 : Int32) (vp3 : Int32) (r0 : Int32) (hr : Hp) (hF : F_X10_ofProcess h a0 vp1 vp2 vp3 = some (r0, hr)) : CI l yX10_ofProcess cX10_ofProcess 4 .int 0 0 0 0 G B h [.ref (B + a0), .int vp1, .int vp2, .int vp3] r0 hr := by
  refine ent_i rfl (Nat.le_of_ble_eq_true rfl) ?_
  intro p e s m args below meth c ls Q CX hnm hret P hl
  have CX : Cxt p m c cX10_ofProcess 4 s args RX10 G B := CX
  obtain ⟨⟨hx, hb, hml, hown, hts⟩, -, -⟩ := id CX
  replace hl : lv_has ls 4 [(0, .ref (B + a0)), (1, .int vp1), (2, .int vp2), (3, .int vp3)] := hl
  generalize s.heap = H at P ⊢
  generalize ([] : List Loc) = locs at P ⊢
  unfold F_X10_ofProcess at hF
  refine lv_aload_n (pc := 0) hx hb dX10_ofProcess_0 rfl (lv_at hl 0 rfl) ?_
  refine r_gR (pc := 1) CX P hF fl_X10_13 dX10_ofProcess_1 (fun a1 hF => ?_)
  refine lv_sipush (pc := 4) (v := 415) hx hb dX10_ofProcess_4 (by decide) ?_
  refine lv_bipush (pc := 7) (v := 8) hx hb dX10_ofProcess_7 (by decide) ?_
  refine lv_iload_n (pc := 9) hx hb dX10_ofProcess_9 rfl (lv_at hl 1 rfl) ?_
  refine lv_imul (pc := 10) hx hb dX10_ofProcess_10 ?_
  refine lv_iadd (pc := 11) hx hb dX10_ofProcess_11 ?_
  refine lv_iload_n (pc := 12) hx hb dX10_ofProcess_12 rfl (lv_at hl 2 rfl) ?_
  refine lv_iadd (pc := 13) hx hb dX10_ofProcess_13 ?_
  refine lv_dup2_11 (pc := 14) hx hb dX10_ofProcess_14 rfl rfl ?_
  refine r_aI (pc := 15) CX P hF dX10_ofProcess_15 (fun v2 hF => ?_)
  refine lv_iload_n (pc := 16) hx hb dX10_ofProcess_16 rfl (lv_at hl 3 rfl) ?_
  refine lv_iadd (pc := 17) hx hb dX10_ofProcess_17 ?_
  refine r_sI (pc := 18) CX P hF dX10_ofProcess_18 (fun h3 H locs P hF => ?_)
  refine lv_aload_n (pc := 19) hx hb dX10_ofProcess_19 rfl (lv_at hl 0 rfl) ?_
  refine r_gR (pc := 20) CX P hF fl_X10_13 dX10_ofProcess_20 (fun a4 hF => ?_)
  refine lv_sipush (pc := 23) (v := 415) hx hb dX10_ofProcess_23 (by decide) ?_
  refine lv_bipush (pc := 26) (v := 8) hx hb dX10_ofProcess_26 (by decide) ?_
  refine lv_iload_n (pc := 28) hx hb dX10_ofProcess_28 rfl (lv_at hl 1 rfl) ?_
  refine lv_imul (pc := 29) hx hb dX10_ofProcess_29 ?_
  refine lv_iadd (pc := 30) hx hb dX10_ofProcess_30 ?_
  refine lv_iload_n (pc := 31) hx hb dX10_ofProcess_31 rfl (lv_at hl 2 rfl) ?_
  refine lv_iadd (pc := 32) hx hb dX10_ofProcess_32 ?_
  refine r_aI (pc := 33) CX P hF dX10_ofProcess_33 (fun v5 hF => ?_)
  cases hF
  exact hret _ _ _ _ P rfl dX10_ofProcess_34
def F_X10_laysProcess (h : Hp) (a0 : Nat) (vp1 : Int32) (vp2 : Int32) (vp3 : Int32) : Option (Hp) :=
(gR h a0 10 1).bind fun a1 =>
(sI h a1 ((415 + (8 * vp1)) + vp2) vp3).bind fun h2 =>
some h2
set_option maxRecDepth 100000 in
set_option maxHeartbeats 4000000 in
theorem c_X10_laysProcess (l : Launch) (G : GG) (B : Nat) (h : Hp) (a0 : Nat) (vp1 : Int32) (vp2 : Int32) (vp3 : Int32) (hr : Hp) (hF : F_X10_laysProcess h a0 vp1 vp2 vp3 = some hr) : CV l yX10_laysProcess cX10_laysProcess 4 0 0 0 0 G B h [.ref (B + a0), .int vp1, .int vp2, .int vp3] hr := by
  refine ent_v rfl (Nat.le_of_ble_eq_true rfl) ?_
  intro p e s m args below meth c ls Q CX hnm hret P hl
  have CX : Cxt p m c cX10_laysProcess 4 s args RX10 G B := CX
  obtain ⟨⟨hx, hb, hml, hown, hts⟩, -, -⟩ := id CX
  replace hl : lv_has ls 4 [(0, .ref (B + a0)), (1, .int vp1), (2, .int vp2), (3, .int vp3)] := hl
  generalize s.heap = H at P ⊢
  generalize ([] : List Loc) = locs at P ⊢
  unfold F_X10_laysProcess at hF
  refine lv_aload_n (pc := 0) hx hb dX10_laysProcess_0 rfl (lv_at hl 0 rfl) ?_
  refine r_gR (pc := 1) CX P hF fl_X10_13 dX10_laysProcess_1 (fun a1 hF => ?_)
  refine lv_sipush (pc := 4) (v := 415) hx hb dX10_laysProcess_4 (by decide) ?_
  refine lv_bipush (pc := 7) (v := 8) hx hb dX10_laysProcess_7 (by decide) ?_
  refine lv_iload_n (pc := 9) hx hb dX10_laysProcess_9 rfl (lv_at hl 1 rfl) ?_
  refine lv_imul (pc := 10) hx hb dX10_laysProcess_10 ?_
  refine lv_iadd (pc := 11) hx hb dX10_laysProcess_11 ?_
  refine lv_iload_n (pc := 12) hx hb dX10_laysProcess_12 rfl (lv_at hl 2 rfl) ?_
  refine lv_iadd (pc := 13) hx hb dX10_laysProcess_13 ?_
  refine lv_iload_n (pc := 14) hx hb dX10_laysProcess_14 rfl (lv_at hl 3 rfl) ?_
  refine r_sI (pc := 15) CX P hF dX10_laysProcess_15 (fun h2 H locs P hF => ?_)
  cases hF
  exact hret _ _ _ _ P dX10_laysProcess_16
