def F_X10_isGroup (h : Hp) (a0 : Nat) (vp1 : Int32) : Option (Int32) :=
(F_X10_within h (Int32.toInt64 vp1) 0 11).bind fun v1 =>
if v1 = 0 then (
some 0) else (
(gR h a0 10 1).bind fun a2 =>
(aI h a2 0).bind fun v3 =>
(F_X10_has h v3 vp1).bind fun v4 =>
if v4 = 0 then (
some 0) else (
some 1))
set_option maxRecDepth 100000 in
set_option maxHeartbeats 4000000 in
theorem c_X10_isGroup (l : Launch) (G : GG) (B : Nat) (h : Hp) (a0 : Nat) (vp1 : Int32) (r0 : Int32) (hF : F_X10_isGroup h a0 vp1 = some r0) : CI l yX10_isGroup cX10_isGroup 2 .boolean 1 25 0 0 G B h [.ref (B + a0), .int vp1] r0 h := by
  refine ent_i rfl (Nat.le_of_ble_eq_true rfl) ?_
  intro p e s m args below meth c ls Q CX hnm hret P hl
  have CX : Cxt p m c cX10_isGroup 2 s args RX10 G B := CX
  obtain ⟨⟨hx, hb, hml, hown, hts⟩, -, -⟩ := id CX
  replace hl : lv_has ls 2 [(0, .ref (B + a0)), (1, .int vp1)] := hl
  generalize s.heap = H at P ⊢
  generalize ([] : List Loc) = locs at P ⊢
  unfold F_X10_isGroup at hF
  refine lv_iload_n (pc := 0) hx hb dX10_isGroup_0 rfl (lv_at hl 1 rfl) ?_
  refine lv_i2l (pc := 1) hx hb dX10_isGroup_1 rfl ?_
  refine lv_lconst (pc := 2) (v := 0) hx hb dX10_isGroup_2 (by decide) ?_
  refine lv_ldc2 (pc := 3) (v := 11) hx hb hown (hts _ tw_1035) dX10_isGroup_3 ?_
  refine r_cSp (pc := 6) (As := [.long (Int32.toInt64 vp1), .long 0, .long 11]) (rest := []) CX P hl.1 hF ks_X10_85 (fun r q => c_X10_within l G B _ _ _ _ _ q) rfl rfl ⟨Nat.le_of_ble_eq_true rfl, Nat.le_of_ble_eq_true rfl⟩ (Nat.le_of_ble_eq_true rfl) ⟨Nat.le_of_ble_eq_true rfl, Nat.le_of_ble_eq_true rfl⟩ dX10_isGroup_6 (fun v1 H locs P hF => ?_)
  refine lv_if_eq (pc := 9) (tgt := 29) hx hb dX10_isGroup_9 (by decide) (fun hc => ?_) (fun hc => ?_)
  · rw [if_pos hc] at hF
    refine lv_iconst (pc := 29) (v := 0) hx hb dX10_isGroup_29 (by decide) ?_
    cases hF
    exact hret _ _ _ _ P rfl dX10_isGroup_30
  · rw [if_neg hc] at hF
    refine lv_aload_n (pc := 12) hx hb dX10_isGroup_12 rfl (lv_at hl 0 rfl) ?_
    refine r_gR (pc := 13) CX P hF fl_X10_13 dX10_isGroup_13 (fun a2 hF => ?_)
    refine lv_iconst (pc := 16) (v := 0) hx hb dX10_isGroup_16 (by decide) ?_
    refine r_aI (pc := 17) CX P hF dX10_isGroup_17 (fun v3 hF => ?_)
    refine lv_iload_n (pc := 18) hx hb dX10_isGroup_18 rfl (lv_at hl 1 rfl) ?_
    refine r_cSp (pc := 19) (As := [.int v3, .int vp1]) (rest := []) CX P hl.1 hF ks_X10_89 (fun r q => c_X10_has l G B _ _ _ _ q) rfl rfl ⟨Nat.le_of_ble_eq_true rfl, Nat.le_of_ble_eq_true rfl⟩ (Nat.le_of_ble_eq_true rfl) ⟨Nat.le_of_ble_eq_true rfl, Nat.le_of_ble_eq_true rfl⟩ dX10_isGroup_19 (fun v4 H locs P hF => ?_)
    refine lv_if_eq (pc := 22) (tgt := 29) hx hb dX10_isGroup_22 (by decide) (fun hc => ?_) (fun hc => ?_)
    · rw [if_pos hc] at hF
      refine lv_iconst (pc := 29) (v := 0) hx hb dX10_isGroup_29 (by decide) ?_
      cases hF
      exact hret _ _ _ _ P rfl dX10_isGroup_30
    · rw [if_neg hc] at hF
      refine lv_iconst (pc := 25) (v := 1) hx hb dX10_isGroup_25 (by decide) ?_
      refine lv_goto (pc := 26) (tgt := 30) hx hb dX10_isGroup_26 (by decide) ?_
      cases hF
      exact hret _ _ _ _ P rfl dX10_isGroup_30
def F_X10_isProcess (h : Hp) (a0 : Nat) (vp1 : Int32) : Option (Int32) :=
(F_X10_within h (Int32.toInt64 vp1) 0 15).bind fun v1 =>
if v1 = 0 then (
some 0) else (
(gR h a0 10 1).bind fun a2 =>
(aI h a2 1).bind fun v3 =>
(F_X10_has h v3 vp1).bind fun v4 =>
if v4 = 0 then (
some 0) else (
some 1))
set_option maxRecDepth 100000 in
set_option maxHeartbeats 4000000 in
theorem c_X10_isProcess (l : Launch) (G : GG) (B : Nat) (h : Hp) (a0 : Nat) (vp1 : Int32) (r0 : Int32) (hF : F_X10_isProcess h a0 vp1 = some r0) : CI l yX10_isProcess cX10_isProcess 2 .boolean 1 25 0 0 G B h [.ref (B + a0), .int vp1] r0 h := by
  refine ent_i rfl (Nat.le_of_ble_eq_true rfl) ?_
  intro p e s m args below meth c ls Q CX hnm hret P hl
  have CX : Cxt p m c cX10_isProcess 2 s args RX10 G B := CX
  obtain ⟨⟨hx, hb, hml, hown, hts⟩, -, -⟩ := id CX
  replace hl : lv_has ls 2 [(0, .ref (B + a0)), (1, .int vp1)] := hl
  generalize s.heap = H at P ⊢
  generalize ([] : List Loc) = locs at P ⊢
  unfold F_X10_isProcess at hF
  refine lv_iload_n (pc := 0) hx hb dX10_isProcess_0 rfl (lv_at hl 1 rfl) ?_
  refine lv_i2l (pc := 1) hx hb dX10_isProcess_1 rfl ?_
  refine lv_lconst (pc := 2) (v := 0) hx hb dX10_isProcess_2 (by decide) ?_
  refine lv_ldc2 (pc := 3) (v := 15) hx hb hown (hts _ tw_1080) dX10_isProcess_3 ?_
  refine r_cSp (pc := 6) (As := [.long (Int32.toInt64 vp1), .long 0, .long 15]) (rest := []) CX P hl.1 hF ks_X10_85 (fun r q => c_X10_within l G B _ _ _ _ _ q) rfl rfl ⟨Nat.le_of_ble_eq_true rfl, Nat.le_of_ble_eq_true rfl⟩ (Nat.le_of_ble_eq_true rfl) ⟨Nat.le_of_ble_eq_true rfl, Nat.le_of_ble_eq_true rfl⟩ dX10_isProcess_6 (fun v1 H locs P hF => ?_)
  refine lv_if_eq (pc := 9) (tgt := 29) hx hb dX10_isProcess_9 (by decide) (fun hc => ?_) (fun hc => ?_)
  · rw [if_pos hc] at hF
    refine lv_iconst (pc := 29) (v := 0) hx hb dX10_isProcess_29 (by decide) ?_
    cases hF
    exact hret _ _ _ _ P rfl dX10_isProcess_30
  · rw [if_neg hc] at hF
    refine lv_aload_n (pc := 12) hx hb dX10_isProcess_12 rfl (lv_at hl 0 rfl) ?_
    refine r_gR (pc := 13) CX P hF fl_X10_13 dX10_isProcess_13 (fun a2 hF => ?_)
    refine lv_iconst (pc := 16) (v := 1) hx hb dX10_isProcess_16 (by decide) ?_
    refine r_aI (pc := 17) CX P hF dX10_isProcess_17 (fun v3 hF => ?_)
    refine lv_iload_n (pc := 18) hx hb dX10_isProcess_18 rfl (lv_at hl 1 rfl) ?_
    refine r_cSp (pc := 19) (As := [.int v3, .int vp1]) (rest := []) CX P hl.1 hF ks_X10_89 (fun r q => c_X10_has l G B _ _ _ _ q) rfl rfl ⟨Nat.le_of_ble_eq_true rfl, Nat.le_of_ble_eq_true rfl⟩ (Nat.le_of_ble_eq_true rfl) ⟨Nat.le_of_ble_eq_true rfl, Nat.le_of_ble_eq_true rfl⟩ dX10_isProcess_19 (fun v4 H locs P hF => ?_)
    refine lv_if_eq (pc := 22) (tgt := 29) hx hb dX10_isProcess_22 (by decide) (fun hc => ?_) (fun hc => ?_)
    · rw [if_pos hc] at hF
      refine lv_iconst (pc := 29) (v := 0) hx hb dX10_isProcess_29 (by decide) ?_
      cases hF
      exact hret _ _ _ _ P rfl dX10_isProcess_30
    · rw [if_neg hc] at hF
      refine lv_iconst (pc := 25) (v := 1) hx hb dX10_isProcess_25 (by decide) ?_
      refine lv_goto (pc := 26) (tgt := 30) hx hb dX10_isProcess_26 (by decide) ?_
      cases hF
      exact hret _ _ _ _ P rfl dX10_isProcess_30
def F_X10_freeIn_L2 (h5 : Hp) (v2 : Int32) (v3 : Int32) (v4 : Int32) : Option ((Int32) ⊕ (Int32)) :=
if v3 ≤ v4 then (
some (.inr v4)) else (
(F_X10_has h5 v2 v4).bind fun v6 =>
if v6 = 0 then (
some (.inr v4)) else (
bl (v4 + 1) fun v7 =>
some (.inl v7)))
def F_X10_freeIn (h : Hp) (vp0 : Int32) (vp1 : Int32) : Option (Int32) :=
(loopF (fun x => F_X10_freeIn_L2 h vp0 vp1 x) 6000 0).bind fun v8 =>
some v8
set_option maxRecDepth 100000 in
set_option maxHeartbeats 4000000 in
theorem c_X10_freeIn (l : Launch) (G : GG) (B : Nat) (h : Hp) (vp0 : Int32) (vp1 : Int32) (r0 : Int32) (hF : F_X10_freeIn h vp0 vp1 = some r0) : CI l yX10_freeIn cX10_freeIn 3 .int 1 21 0 0 G B h [.int vp0, .int vp1] r0 h := by
  refine ent_i rfl (Nat.le_of_ble_eq_true rfl) ?_
  intro p e s m args below meth c ls Q CX hnm hret P hl
  have CX : Cxt p m c cX10_freeIn 3 s args RX10 G B := CX
  obtain ⟨⟨hx, hb, hml, hown, hts⟩, -, -⟩ := id CX
  replace hl : lv_has ls 3 [(0, .int vp0), (1, .int vp1)] := hl
  generalize s.heap = H at P ⊢
  generalize ([] : List Loc) = locs at P ⊢
  unfold F_X10_freeIn at hF
  refine lv_iconst (pc := 0) (v := 0) hx hb dX10_freeIn_0 (by decide) ?_
  refine lv_istore_n (pc := 1) hx hb dX10_freeIn_1 rfl hl (by decide) rfl (fun ls hl => ?_)
  replace hl : lv_has ls 3 [(2, .int 0), (0, .int vp0), (1, .int vp1)] := hl
  obtain ⟨r1, hLp1, hK1⟩ := bd_some hF
  have hX1 : ∀ (v8 : Int32) (H : Heap) (locs : List Loc) (ls : Array Slot), Pic G B h s H locs → lv_has ls 3 [(2, .int v8)] → v8 = r1 → W p l e (rmM 1 21 0 0) s m args below meth c H locs 0 0 Q (F0 m 21 ls []) := by
    intro v8 H locs ls P hl er
    subst er
    have hF := hK1
    refine lv_iload_n (pc := 21) hx hb dX10_freeIn_21 rfl (lv_at hl 0 rfl) ?_
    cases hF
    exact hret _ _ _ _ P rfl dX10_freeIn_22
  have hL1 : ∀ (n : Nat) (v4 : Int32) (H : Heap) (locs : List Loc) (ls : Array Slot), Pic G B h s H locs → lv_has ls 3 [(0, .int vp0), (1, .int vp1), (2, .int v4)] → loopF (fun x => F_X10_freeIn_L2 h vp0 vp1 x) n v4 = some r1 → W p l e (rmM 1 21 0 0) s m args below meth c H locs 0 0 Q (F0 m 2 ls []) := by
    intro n
    induction n with
    | zero => intro v4 H locs ls P hl hq; cases hq
    | succ n ih =>
      intro v4 H locs ls P hl hq
      obtain ⟨z1, hS1, hI1, hR1⟩ := loop_some hq
      have hF : F_X10_freeIn_L2 h vp0 vp1 v4 = some z1 := hS1
      unfold F_X10_freeIn_L2 at hF
      refine lv_iload_n (pc := 2) hx hb dX10_freeIn_2 rfl (lv_at hl 2 rfl) ?_
      refine lv_iload_n (pc := 3) hx hb dX10_freeIn_3 rfl (lv_at hl 1 rfl) ?_
      refine lv_icmp_ge (pc := 4) (tgt := 21) hx hb dX10_freeIn_4 (by decide) (fun hc => ?_) (fun hc => ?_)
      · rw [if_pos hc] at hF
        exact hX1 _ _ _ _ P (lv_sub hl [2] rfl) (hR1 _ (Option.some.inj hF).symm)
      · rw [if_neg hc] at hF
        refine lv_iload_n (pc := 7) hx hb dX10_freeIn_7 rfl (lv_at hl 0 rfl) ?_
        refine lv_iload_n (pc := 8) hx hb dX10_freeIn_8 rfl (lv_at hl 2 rfl) ?_
        refine r_cSp (pc := 9) (As := [.int vp0, .int v4]) (rest := []) CX P hl.1 hF ks_X10_89 (fun r q => c_X10_has l G B _ _ _ _ q) rfl rfl ⟨Nat.le_of_ble_eq_true rfl, Nat.le_of_ble_eq_true rfl⟩ (Nat.le_of_ble_eq_true rfl) ⟨Nat.le_of_ble_eq_true rfl, Nat.le_of_ble_eq_true rfl⟩ dX10_freeIn_9 (fun v6 H locs P hF => ?_)
        refine lv_if_eq (pc := 12) (tgt := 21) hx hb dX10_freeIn_12 (by decide) (fun hc => ?_) (fun hc => ?_)
        · rw [if_pos hc] at hF
          exact hX1 _ _ _ _ P (lv_sub hl [2] rfl) (hR1 _ (Option.some.inj hF).symm)
        · rw [if_neg hc] at hF
          obtain ⟨v7, ev7, hF⟩ := bl_o hF
          refine lv_iinc (pc := 15) (k := 2) (v := v7) hx hb dX10_freeIn_15 hl rfl ev7 (by decide) rfl (fun ls hl => ?_)
          replace hl : lv_has ls 3 [(2, .int v7), (0, .int vp0), (1, .int vp1)] := hl
          refine lv_goto (pc := 18) (tgt := 2) hx hb dX10_freeIn_18 (by decide) ?_
          exact ih _ _ _ _ P (lv_sub hl [1, 2, 0] rfl) (hI1 _ (Option.some.inj hF).symm)
  exact hL1 _ _ _ _ _ P (lv_sub hl [1, 2, 0] rfl) hLp1
def F_X10_parentOf (h : Hp) (a0 : Nat) (vp1 : Int32) : Option (Int32 × Hp) :=
(cO h a0 10 (F_X10_of h a0 vp1 9 0)).bind (un fun v1 h2 =>
some (v1, h2))
set_option maxRecDepth 100000 in
set_option maxHeartbeats 4000000 in
theorem c_X10_parentOf (l : Launch) (G : GG) (B : Nat) (h : Hp) (a0 : Nat) (vp1 : Int32) (r0 : Int32) (hr : Hp) (hF : F_X10_parentOf h a0 vp1 = some (r0, hr)) : CI l yX10_parentOf cX10_parentOf 2 .int 1 23 0 0 G B h [.ref (B + a0), .int vp1] r0 hr := by
  refine ent_i rfl (Nat.le_of_ble_eq_true rfl) ?_
  intro p e s m args below meth c ls Q CX hnm hret P hl
  have CX : Cxt p m c cX10_parentOf 2 s args RX10 G B := CX
  obtain ⟨⟨hx, hb, hml, hown, hts⟩, -, -⟩ := id CX
  replace hl : lv_has ls 2 [(0, .ref (B + a0)), (1, .int vp1)] := hl
  generalize s.heap = H at P ⊢
  generalize ([] : List Loc) = locs at P ⊢
  unfold F_X10_parentOf at hF
  refine lv_aload_n (pc := 0) hx hb dX10_parentOf_0 rfl (lv_at hl 0 rfl) ?_
  refine lv_iload_n (pc := 1) hx hb dX10_parentOf_1 rfl (lv_at hl 1 rfl) ?_
  refine lv_bipush (pc := 2) (v := 9) hx hb dX10_parentOf_2 (by decide) ?_
  refine lv_iconst (pc := 4) (v := 0) hx hb dX10_parentOf_4 (by decide) ?_
  refine r_cVi (pc := 5) (As := [.int vp1, .int 9, .int 0]) (rest := []) CX P hl.1 hF kv_X10_99 (fun r h1 q => c_X10_of l G B _ _ _ _ _ _ _ q) rfl rfl ⟨Nat.le_of_ble_eq_true rfl, Nat.le_of_ble_eq_true rfl⟩ (Nat.le_of_ble_eq_true rfl) ⟨Nat.le_of_ble_eq_true rfl, Nat.le_of_ble_eq_true rfl⟩ dX10_parentOf_5 (fun v1 h2 H locs P hF => ?_)
  replace hF := un_i hF
  cases hF
  exact hret _ _ _ _ P rfl dX10_parentOf_8
def F_X10_isBelow_L2 (a2 : Nat) (v3 : Int32) (v4 : Int32) (h5 : Hp) : Option ((Int32 × Hp) ⊕ (Int32 × Hp)) :=
if v4 = (-1) then (
some (.inr (v4, h5))) else (
if v4 = v3 then (
some (.inr (v4, h5))) else (
(cO h5 a2 10 (F_X10_parentOf h5 a2 v4)).bind (un fun v6 h7 =>
some (.inl (v6, h7)))))
def F_X10_isBelow (h : Hp) (a0 : Nat) (vp1 : Int32) (vp2 : Int32) : Option (Int32 × Hp) :=
(loopF (fun x => F_X10_isBelow_L2 a0 vp2 x.1 x.2) 6000 (vp1, h)).bind fun q1 =>
bl q1.1 fun v8 =>
bl q1.2 fun h9 =>
if v8 = vp2 then (
some (1, h9)) else (
some (0, h9))
set_option maxRecDepth 100000 in
set_option maxHeartbeats 4000000 in
theorem c_X10_isBelow (l : Launch) (G : GG) (B : Nat) (h : Hp) (a0 : Nat) (vp1 : Int32) (vp2 : Int32) (r0 : Int32) (hr : Hp) (hF : F_X10_isBelow h a0 vp1 vp2 = some (r0, hr)) : CI l yX10_isBelow cX10_isBelow 4 .boolean 2 44 0 0 G B h [.ref (B + a0), .int vp1, .int vp2] r0 hr := by
  refine ent_i rfl (Nat.le_of_ble_eq_true rfl) ?_
  intro p e s m args below meth c ls Q CX hnm hret P hl
  have CX : Cxt p m c cX10_isBelow 4 s args RX10 G B := CX
  obtain ⟨⟨hx, hb, hml, hown, hts⟩, -, -⟩ := id CX
  replace hl : lv_has ls 4 [(0, .ref (B + a0)), (1, .int vp1), (2, .int vp2)] := hl
  generalize s.heap = H at P ⊢
  generalize ([] : List Loc) = locs at P ⊢
  unfold F_X10_isBelow at hF
  refine lv_iload_n (pc := 0) hx hb dX10_isBelow_0 rfl (lv_at hl 1 rfl) ?_
  refine lv_istore_n (pc := 1) hx hb dX10_isBelow_1 rfl hl (by decide) rfl (fun ls hl => ?_)
  replace hl : lv_has ls 4 [(3, .int vp1), (0, .ref (B + a0)), (1, .int vp1), (2, .int vp2)] := hl
  obtain ⟨r1, hLp1, hK1⟩ := bd_some hF
  have hX1 : ∀ (v8 : Int32) (h9 : Hp) (H : Heap) (locs : List Loc) (ls : Array Slot), Pic G B h9 s H locs → lv_has ls 4 [(2, .int vp2), (3, .int v8)] → (v8, h9) = r1 → W p l e (rmM 2 44 0 0) s m args below meth c H locs 0 0 Q (F0 m 21 ls []) := by
    intro v8 h9 H locs ls P hl er
    subst er
    have hF := hK1
    replace hF := bl_i hF
    replace hF := bl_i hF
    try dsimp only at hF
    refine lv_iload_n (pc := 21) hx hb dX10_isBelow_21 rfl (lv_at hl 1 rfl) ?_
    refine lv_iload_n (pc := 22) hx hb dX10_isBelow_22 rfl (lv_at hl 0 rfl) ?_
    refine lv_icmp_ne (pc := 23) (tgt := 30) hx hb dX10_isBelow_23 (by decide) (fun hc => ?_) (fun hc => ?_)
    · rw [if_neg hc] at hF
      refine lv_iconst (pc := 30) (v := 0) hx hb dX10_isBelow_30 (by decide) ?_
      cases hF
      exact hret _ _ _ _ P rfl dX10_isBelow_31
    · rw [if_pos hc] at hF
      refine lv_iconst (pc := 26) (v := 1) hx hb dX10_isBelow_26 (by decide) ?_
      refine lv_goto (pc := 27) (tgt := 31) hx hb dX10_isBelow_27 (by decide) ?_
      cases hF
      exact hret _ _ _ _ P rfl dX10_isBelow_31
  have hL1 : ∀ (n : Nat) (v4 : Int32) (h5 : Hp) (H : Heap) (locs : List Loc) (ls : Array Slot), Pic G B h5 s H locs → lv_has ls 4 [(0, .ref (B + a0)), (2, .int vp2), (3, .int v4)] → loopF (fun x => F_X10_isBelow_L2 a0 vp2 x.1 x.2) n (v4, h5) = some r1 → W p l e (rmM 2 44 0 0) s m args below meth c H locs 0 0 Q (F0 m 2 ls []) := by
    intro n
    induction n with
    | zero => intro v4 h5 H locs ls P hl hq; cases hq
    | succ n ih =>
      intro v4 h5 H locs ls P hl hq
      obtain ⟨z1, hS1, hI1, hR1⟩ := loop_some hq
      have hF : F_X10_isBelow_L2 a0 vp2 v4 h5 = some z1 := hS1
      unfold F_X10_isBelow_L2 at hF
      refine lv_iload_n (pc := 2) hx hb dX10_isBelow_2 rfl (lv_at hl 2 rfl) ?_
      refine lv_iconst (pc := 3) (v := (-1)) hx hb dX10_isBelow_3 (by decide) ?_
      refine lv_icmp_eq (pc := 4) (tgt := 21) hx hb dX10_isBelow_4 (by decide) (fun hc => ?_) (fun hc => ?_)
      · rw [if_pos hc] at hF
        exact hX1 _ _ _ _ _ P (lv_sub hl [1, 2] rfl) (hR1 _ (Option.some.inj hF).symm)
      · rw [if_neg hc] at hF
        refine lv_iload_n (pc := 7) hx hb dX10_isBelow_7 rfl (lv_at hl 2 rfl) ?_
        refine lv_iload_n (pc := 8) hx hb dX10_isBelow_8 rfl (lv_at hl 1 rfl) ?_
        refine lv_icmp_eq (pc := 9) (tgt := 21) hx hb dX10_isBelow_9 (by decide) (fun hc => ?_) (fun hc => ?_)
        · rw [if_pos hc] at hF
          exact hX1 _ _ _ _ _ P (lv_sub hl [1, 2] rfl) (hR1 _ (Option.some.inj hF).symm)
        · rw [if_neg hc] at hF
          refine lv_aload_n (pc := 12) hx hb dX10_isBelow_12 rfl (lv_at hl 0 rfl) ?_
          refine lv_iload_n (pc := 13) hx hb dX10_isBelow_13 rfl (lv_at hl 2 rfl) ?_
          refine r_cVi (pc := 14) (As := [.int v4]) (rest := []) CX P hl.1 hF kv_X10_103 (fun r h1 q => c_X10_parentOf l G B _ _ _ _ _ q) rfl rfl ⟨Nat.le_of_ble_eq_true rfl, Nat.le_of_ble_eq_true rfl⟩ (Nat.le_of_ble_eq_true rfl) ⟨Nat.le_of_ble_eq_true rfl, Nat.le_of_ble_eq_true rfl⟩ dX10_isBelow_14 (fun v6 h7 H locs P hF => ?_)
          replace hF := un_i hF
          refine lv_istore_n (pc := 17) hx hb dX10_isBelow_17 rfl hl (by decide) rfl (fun ls hl => ?_)
          replace hl : lv_has ls 4 [(3, .int v6), (0, .ref (B + a0)), (2, .int vp2)] := hl
          refine lv_goto (pc := 18) (tgt := 2) hx hb dX10_isBelow_18 (by decide) ?_
          exact ih _ _ _ _ _ P (lv_sub hl [1, 2, 0] rfl) (hI1 _ (Option.some.inj hF).symm)
  exact hL1 _ _ _ _ _ _ P (lv_sub hl [1, 3, 0] rfl) hLp1
def F_X10_groupsBelow_L4 (a2 : Nat) (v3 : Int32) (v4 : Int32) (v5 : Int32) (h6 : Hp) : Option ((Int32 × Int32 × Hp) ⊕ (Int32 × Hp)) :=
if 12 ≤ v5 then (
some (.inr (v4, h6))) else (
(cO h6 a2 10 (F_X10_isGroup h6 a2 v5)).bind fun v7 =>
(if v7 = 0 then (
some ((0 : Int32), h6)) else (
(cO h6 a2 10 (F_X10_isBelow h6 a2 v5 v3)).bind (un fun v9 h10 =>
if v9 = 0 then (
some ((0 : Int32), h10)) else (
some ((1 <<< (v5 &&& 31) : Int32), h10))))).bind fun q8 =>
bl q8.1 fun v11 =>
bl q8.2 fun h12 =>
bl (v4 ||| v11) fun v13 =>
bl (v5 + 1) fun v14 =>
some (.inl (v13, v14, h12)))
def F_X10_groupsBelow (h : Hp) (a0 : Nat) (vp1 : Int32) : Option (Int32 × Hp) :=
(loopF (fun x => F_X10_groupsBelow_L4 a0 vp1 x.1 x.2.1 x.2.2) 6000 (0, 0, h)).bind fun q1 =>
bl q1.1 fun v15 =>
bl q1.2 fun h16 =>
some (v15, h16)
set_option maxRecDepth 100000 in
set_option maxHeartbeats 4000000 in
theorem c_X10_groupsBelow (l : Launch) (G : GG) (B : Nat) (h : Hp) (a0 : Nat) (vp1 : Int32) (r0 : Int32) (hr : Hp) (hF : F_X10_groupsBelow h a0 vp1 = some (r0, hr)) : CI l yX10_groupsBelow cX10_groupsBelow 4 .int 3 67 0 0 G B h [.ref (B + a0), .int vp1] r0 hr := by
  refine ent_i rfl (Nat.le_of_ble_eq_true rfl) ?_
  intro p e s m args below meth c ls Q CX hnm hret P hl
  have CX : Cxt p m c cX10_groupsBelow 4 s args RX10 G B := CX
  obtain ⟨⟨hx, hb, hml, hown, hts⟩, -, -⟩ := id CX
  replace hl : lv_has ls 4 [(0, .ref (B + a0)), (1, .int vp1)] := hl
  generalize s.heap = H at P ⊢
  generalize ([] : List Loc) = locs at P ⊢
  unfold F_X10_groupsBelow at hF
  refine lv_iconst (pc := 0) (v := 0) hx hb dX10_groupsBelow_0 (by decide) ?_
  refine lv_istore_n (pc := 1) hx hb dX10_groupsBelow_1 rfl hl (by decide) rfl (fun ls hl => ?_)
  replace hl : lv_has ls 4 [(2, .int 0), (0, .ref (B + a0)), (1, .int vp1)] := hl
  refine lv_iconst (pc := 2) (v := 0) hx hb dX10_groupsBelow_2 (by decide) ?_
  refine lv_istore_n (pc := 3) hx hb dX10_groupsBelow_3 rfl hl (by decide) rfl (fun ls hl => ?_)
  replace hl : lv_has ls 4 [(3, .int 0), (2, .int 0), (0, .ref (B + a0)), (1, .int vp1)] := hl
  obtain ⟨r1, hLp1, hK1⟩ := bd_some hF
  have hX1 : ∀ (v15 : Int32) (h16 : Hp) (H : Heap) (locs : List Loc) (ls : Array Slot), Pic G B h16 s H locs → lv_has ls 4 [(2, .int v15)] → (v15, h16) = r1 → W p l e (rmM 3 67 0 0) s m args below meth c H locs 0 0 Q (F0 m 43 ls []) := by
    intro v15 h16 H locs ls P hl er
    subst er
    have hF := hK1
    replace hF := bl_i hF
    replace hF := bl_i hF
    try dsimp only at hF
    refine lv_iload_n (pc := 43) hx hb dX10_groupsBelow_43 rfl (lv_at hl 0 rfl) ?_
    cases hF
    exact hret _ _ _ _ P rfl dX10_groupsBelow_44
  have hL1 : ∀ (n : Nat) (v4 : Int32) (v5 : Int32) (h6 : Hp) (H : Heap) (locs : List Loc) (ls : Array Slot), Pic G B h6 s H locs → lv_has ls 4 [(0, .ref (B + a0)), (1, .int vp1), (2, .int v4), (3, .int v5)] → loopF (fun x => F_X10_groupsBelow_L4 a0 vp1 x.1 x.2.1 x.2.2) n (v4, v5, h6) = some r1 → W p l e (rmM 3 67 0 0) s m args below meth c H locs 0 0 Q (F0 m 4 ls []) := by
    intro n
    induction n with
    | zero => intro v4 v5 h6 H locs ls P hl hq; cases hq
    | succ n ih =>
      intro v4 v5 h6 H locs ls P hl hq
      obtain ⟨z1, hS1, hI1, hR1⟩ := loop_some hq
      have hF : F_X10_groupsBelow_L4 a0 vp1 v4 v5 h6 = some z1 := hS1
      unfold F_X10_groupsBelow_L4 at hF
      refine lv_iload_n (pc := 4) hx hb dX10_groupsBelow_4 rfl (lv_at hl 3 rfl) ?_
      refine lv_bipush (pc := 5) (v := 12) hx hb dX10_groupsBelow_5 (by decide) ?_
      refine lv_icmp_ge (pc := 7) (tgt := 43) hx hb dX10_groupsBelow_7 (by decide) (fun hc => ?_) (fun hc => ?_)
      · rw [if_pos hc] at hF
        exact hX1 _ _ _ _ _ P (lv_sub hl [2] rfl) (hR1 _ (Option.some.inj hF).symm)
      · rw [if_neg hc] at hF
        refine lv_iload_n (pc := 10) hx hb dX10_groupsBelow_10 rfl (lv_at hl 2 rfl) ?_
        refine lv_aload_n (pc := 11) hx hb dX10_groupsBelow_11 rfl (lv_at hl 0 rfl) ?_
        refine lv_iload_n (pc := 12) hx hb dX10_groupsBelow_12 rfl (lv_at hl 3 rfl) ?_
        refine r_cVp (pc := 13) (As := [.int v5]) (rest := [.int v4]) CX P hl.1 hF kv_X10_107 (fun r q => c_X10_isGroup l G B _ _ _ _ q) rfl rfl ⟨Nat.le_of_ble_eq_true rfl, Nat.le_of_ble_eq_true rfl⟩ (Nat.le_of_ble_eq_true rfl) ⟨Nat.le_of_ble_eq_true rfl, Nat.le_of_ble_eq_true rfl⟩ dX10_groupsBelow_13 (fun v7 H locs P hF => ?_)
        obtain ⟨j8, hA8, hK8⟩ := bd_some hF
        have hJ8 : ∀ (v11 : Int32) (h12 : Hp) (H : Heap) (locs : List Loc) (ls : Array Slot), Pic G B h12 s H locs → lv_has ls 4 [(0, .ref (B + a0)), (1, .int vp1), (3, .int v5)] → (v11, h12) = j8 → W p l e (rmM 3 67 0 0) s m args below meth c H locs 0 0 Q (F0 m 35 ls [.int v11, .int v4]) := by
          intro v11 h12 H locs ls P hl ej
          subst ej
          have hF := hK8
          replace hF := bl_i hF
          replace hF := bl_i hF
          try dsimp only at hF
          refine lv_ior (pc := 35) hx hb dX10_groupsBelow_35 ?_
          refine lv_topi (fun v13 ev13 => ?_)
          replace hF := bl_e hF ev13
          refine lv_istore_n (pc := 36) hx hb dX10_groupsBelow_36 rfl hl (by decide) rfl (fun ls hl => ?_)
          replace hl : lv_has ls 4 [(2, .int v13), (0, .ref (B + a0)), (1, .int vp1), (3, .int v5)] := hl
          obtain ⟨v14, ev14, hF⟩ := bl_o hF
          refine lv_iinc (pc := 37) (k := 3) (v := v14) hx hb dX10_groupsBelow_37 hl rfl ev14 (by decide) rfl (fun ls hl => ?_)
          replace hl : lv_has ls 4 [(3, .int v14), (2, .int v13), (0, .ref (B + a0)), (1, .int vp1)] := hl
          refine lv_goto (pc := 40) (tgt := 4) hx hb dX10_groupsBelow_40 (by decide) ?_
          exact ih _ _ _ _ _ _ P (lv_sub hl [2, 3, 1, 0] rfl) (hI1 _ (Option.some.inj hF).symm)
        replace hF := hA8
        refine lv_if_eq (pc := 16) (tgt := 34) hx hb dX10_groupsBelow_16 (by decide) (fun hc => ?_) (fun hc => ?_)
        · rw [if_pos hc] at hF
          refine lv_iconst (pc := 34) (v := 0) hx hb dX10_groupsBelow_34 (by decide) ?_
          exact hJ8 _ _ _ _ _ P (lv_sub hl [0, 1, 3] rfl) (Option.some.inj hF)
        · rw [if_neg hc] at hF
          refine lv_aload_n (pc := 19) hx hb dX10_groupsBelow_19 rfl (lv_at hl 0 rfl) ?_
          refine lv_iload_n (pc := 20) hx hb dX10_groupsBelow_20 rfl (lv_at hl 3 rfl) ?_
          refine lv_iload_n (pc := 21) hx hb dX10_groupsBelow_21 rfl (lv_at hl 1 rfl) ?_
          refine r_cVi (pc := 22) (As := [.int v5, .int vp1]) (rest := [.int v4]) CX P hl.1 hF kv_X10_111 (fun r h1 q => c_X10_isBelow l G B _ _ _ _ _ _ q) rfl rfl ⟨Nat.le_of_ble_eq_true rfl, Nat.le_of_ble_eq_true rfl⟩ (Nat.le_of_ble_eq_true rfl) ⟨Nat.le_of_ble_eq_true rfl, Nat.le_of_ble_eq_true rfl⟩ dX10_groupsBelow_22 (fun v9 h10 H locs P hF => ?_)
          replace hF := un_i hF
          refine lv_if_eq (pc := 25) (tgt := 34) hx hb dX10_groupsBelow_25 (by decide) (fun hc => ?_) (fun hc => ?_)
          · rw [if_pos hc] at hF
            refine lv_iconst (pc := 34) (v := 0) hx hb dX10_groupsBelow_34 (by decide) ?_
            exact hJ8 _ _ _ _ _ P (lv_sub hl [0, 1, 3] rfl) (Option.some.inj hF)
          · rw [if_neg hc] at hF
            refine lv_iconst (pc := 28) (v := 1) hx hb dX10_groupsBelow_28 (by decide) ?_
            refine lv_iload_n (pc := 29) hx hb dX10_groupsBelow_29 rfl (lv_at hl 3 rfl) ?_
            refine lv_ishl (pc := 30) hx hb dX10_groupsBelow_30 ?_
            refine lv_goto (pc := 31) (tgt := 35) hx hb dX10_groupsBelow_31 (by decide) ?_
            exact hJ8 _ _ _ _ _ P (lv_sub hl [0, 1, 3] rfl) (Option.some.inj hF)
  exact hL1 _ _ _ _ _ _ _ P (lv_sub hl [2, 3, 1, 0] rfl) hLp1
def F_X10_groupOf (h : Hp) (a0 : Nat) (vp1 : Int32) : Option (Int32 × Hp) :=
(cO h a0 10 (F_X10_ofProcess h a0 vp1 0 0)).bind (un fun v1 h2 =>
some (v1, h2))
set_option maxRecDepth 100000 in
set_option maxHeartbeats 4000000 in
theorem c_X10_groupOf (l : Launch) (G : GG) (B : Nat) (h : Hp) (a0 : Nat) (vp1 : Int32) (r0 : Int32) (hr : Hp) (hF : F_X10_groupOf h a0 vp1 = some (r0, hr)) : CI l yX10_groupOf cX10_groupOf 2 .int 1 23 0 0 G B h [.ref (B + a0), .int vp1] r0 hr := by
  refine ent_i rfl (Nat.le_of_ble_eq_true rfl) ?_
  intro p e s m args below meth c ls Q CX hnm hret P hl
  have CX : Cxt p m c cX10_groupOf 2 s args RX10 G B := CX
  obtain ⟨⟨hx, hb, hml, hown, hts⟩, -, -⟩ := id CX
  replace hl : lv_has ls 2 [(0, .ref (B + a0)), (1, .int vp1)] := hl
  generalize s.heap = H at P ⊢
  generalize ([] : List Loc) = locs at P ⊢
  unfold F_X10_groupOf at hF
  refine lv_aload_n (pc := 0) hx hb dX10_groupOf_0 rfl (lv_at hl 0 rfl) ?_
  refine lv_iload_n (pc := 1) hx hb dX10_groupOf_1 rfl (lv_at hl 1 rfl) ?_
  refine lv_iconst (pc := 2) (v := 0) hx hb dX10_groupOf_2 (by decide) ?_
  refine lv_iconst (pc := 3) (v := 0) hx hb dX10_groupOf_3 (by decide) ?_
  refine r_cVi (pc := 4) (As := [.int vp1, .int 0, .int 0]) (rest := []) CX P hl.1 hF kv_X10_114 (fun r h1 q => c_X10_ofProcess l G B _ _ _ _ _ _ _ q) rfl rfl ⟨Nat.le_of_ble_eq_true rfl, Nat.le_of_ble_eq_true rfl⟩ (Nat.le_of_ble_eq_true rfl) ⟨Nat.le_of_ble_eq_true rfl, Nat.le_of_ble_eq_true rfl⟩ dX10_groupOf_4 (fun v1 h2 H locs P hF => ?_)
  replace hF := un_i hF
  cases hF
  exact hret _ _ _ _ P rfl dX10_groupOf_7
def F_X10_processesBelow_L4 (a2 : Nat) (v3 : Int32) (v4 : Int32) (v5 : Int32) (h6 : Hp) : Option ((Int32 × Int32 × Hp) ⊕ (Int32 × Hp)) :=
if 16 ≤ v5 then (
some (.inr (v4, h6))) else (
(cO h6 a2 10 (F_X10_isProcess h6 a2 v5)).bind fun v7 =>
(if v7 = 0 then (
some ((0 : Int32), h6)) else (
(cO h6 a2 10 (F_X10_groupOf h6 a2 v5)).bind (un fun v9 h10 =>
(cO h10 a2 10 (F_X10_isBelow h10 a2 v9 v3)).bind (un fun v11 h12 =>
if v11 = 0 then (
some ((0 : Int32), h12)) else (
some ((1 <<< (v5 &&& 31) : Int32), h12)))))).bind fun q8 =>
bl q8.1 fun v13 =>
bl q8.2 fun h14 =>
bl (v4 ||| v13) fun v15 =>
bl (v5 + 1) fun v16 =>
some (.inl (v15, v16, h14)))
def F_X10_processesBelow (h : Hp) (a0 : Nat) (vp1 : Int32) : Option (Int32 × Hp) :=
(loopF (fun x => F_X10_processesBelow_L4 a0 vp1 x.1 x.2.1 x.2.2) 6000 (0, 0, h)).bind fun q1 =>
bl q1.1 fun v17 =>
bl q1.2 fun h18 =>
some (v17, h18)
set_option maxRecDepth 100000 in
set_option maxHeartbeats 4000000 in
theorem c_X10_processesBelow (l : Launch) (G : GG) (B : Nat) (h : Hp) (a0 : Nat) (vp1 : Int32) (r0 : Int32) (hr : Hp) (hF : F_X10_processesBelow h a0 vp1 = some (r0, hr)) : CI l yX10_processesBelow cX10_processesBelow 4 .int 3 67 0 0 G B h [.ref (B + a0), .int vp1] r0 hr := by
  refine ent_i rfl (Nat.le_of_ble_eq_true rfl) ?_
  intro p e s m args below meth c ls Q CX hnm hret P hl
  have CX : Cxt p m c cX10_processesBelow 4 s args RX10 G B := CX
  obtain ⟨⟨hx, hb, hml, hown, hts⟩, -, -⟩ := id CX
  replace hl : lv_has ls 4 [(0, .ref (B + a0)), (1, .int vp1)] := hl
  generalize s.heap = H at P ⊢
  generalize ([] : List Loc) = locs at P ⊢
  unfold F_X10_processesBelow at hF
  refine lv_iconst (pc := 0) (v := 0) hx hb dX10_processesBelow_0 (by decide) ?_
  refine lv_istore_n (pc := 1) hx hb dX10_processesBelow_1 rfl hl (by decide) rfl (fun ls hl => ?_)
  replace hl : lv_has ls 4 [(2, .int 0), (0, .ref (B + a0)), (1, .int vp1)] := hl
  refine lv_iconst (pc := 2) (v := 0) hx hb dX10_processesBelow_2 (by decide) ?_
  refine lv_istore_n (pc := 3) hx hb dX10_processesBelow_3 rfl hl (by decide) rfl (fun ls hl => ?_)
  replace hl : lv_has ls 4 [(3, .int 0), (2, .int 0), (0, .ref (B + a0)), (1, .int vp1)] := hl
  obtain ⟨r1, hLp1, hK1⟩ := bd_some hF
  have hX1 : ∀ (v17 : Int32) (h18 : Hp) (H : Heap) (locs : List Loc) (ls : Array Slot), Pic G B h18 s H locs → lv_has ls 4 [(2, .int v17)] → (v17, h18) = r1 → W p l e (rmM 3 67 0 0) s m args below meth c H locs 0 0 Q (F0 m 47 ls []) := by
    intro v17 h18 H locs ls P hl er
    subst er
    have hF := hK1
    replace hF := bl_i hF
    replace hF := bl_i hF
    try dsimp only at hF
    refine lv_iload_n (pc := 47) hx hb dX10_processesBelow_47 rfl (lv_at hl 0 rfl) ?_
    cases hF
    exact hret _ _ _ _ P rfl dX10_processesBelow_48
  have hL1 : ∀ (n : Nat) (v4 : Int32) (v5 : Int32) (h6 : Hp) (H : Heap) (locs : List Loc) (ls : Array Slot), Pic G B h6 s H locs → lv_has ls 4 [(0, .ref (B + a0)), (1, .int vp1), (2, .int v4), (3, .int v5)] → loopF (fun x => F_X10_processesBelow_L4 a0 vp1 x.1 x.2.1 x.2.2) n (v4, v5, h6) = some r1 → W p l e (rmM 3 67 0 0) s m args below meth c H locs 0 0 Q (F0 m 4 ls []) := by
    intro n
    induction n with
    | zero => intro v4 v5 h6 H locs ls P hl hq; cases hq
    | succ n ih =>
      intro v4 v5 h6 H locs ls P hl hq
      obtain ⟨z1, hS1, hI1, hR1⟩ := loop_some hq
      have hF : F_X10_processesBelow_L4 a0 vp1 v4 v5 h6 = some z1 := hS1
      unfold F_X10_processesBelow_L4 at hF
      refine lv_iload_n (pc := 4) hx hb dX10_processesBelow_4 rfl (lv_at hl 3 rfl) ?_
      refine lv_bipush (pc := 5) (v := 16) hx hb dX10_processesBelow_5 (by decide) ?_
      refine lv_icmp_ge (pc := 7) (tgt := 47) hx hb dX10_processesBelow_7 (by decide) (fun hc => ?_) (fun hc => ?_)
      · rw [if_pos hc] at hF
        exact hX1 _ _ _ _ _ P (lv_sub hl [2] rfl) (hR1 _ (Option.some.inj hF).symm)
      · rw [if_neg hc] at hF
        refine lv_iload_n (pc := 10) hx hb dX10_processesBelow_10 rfl (lv_at hl 2 rfl) ?_
        refine lv_aload_n (pc := 11) hx hb dX10_processesBelow_11 rfl (lv_at hl 0 rfl) ?_
        refine lv_iload_n (pc := 12) hx hb dX10_processesBelow_12 rfl (lv_at hl 3 rfl) ?_
        refine r_cVp (pc := 13) (As := [.int v5]) (rest := [.int v4]) CX P hl.1 hF kv_X10_117 (fun r q => c_X10_isProcess l G B _ _ _ _ q) rfl rfl ⟨Nat.le_of_ble_eq_true rfl, Nat.le_of_ble_eq_true rfl⟩ (Nat.le_of_ble_eq_true rfl) ⟨Nat.le_of_ble_eq_true rfl, Nat.le_of_ble_eq_true rfl⟩ dX10_processesBelow_13 (fun v7 H locs P hF => ?_)
        obtain ⟨j8, hA8, hK8⟩ := bd_some hF
        have hJ8 : ∀ (v13 : Int32) (h14 : Hp) (H : Heap) (locs : List Loc) (ls : Array Slot), Pic G B h14 s H locs → lv_has ls 4 [(0, .ref (B + a0)), (1, .int vp1), (3, .int v5)] → (v13, h14) = j8 → W p l e (rmM 3 67 0 0) s m args below meth c H locs 0 0 Q (F0 m 39 ls [.int v13, .int v4]) := by
          intro v13 h14 H locs ls P hl ej
          subst ej
          have hF := hK8
          replace hF := bl_i hF
          replace hF := bl_i hF
          try dsimp only at hF
          refine lv_ior (pc := 39) hx hb dX10_processesBelow_39 ?_
          refine lv_topi (fun v15 ev15 => ?_)
          replace hF := bl_e hF ev15
          refine lv_istore_n (pc := 40) hx hb dX10_processesBelow_40 rfl hl (by decide) rfl (fun ls hl => ?_)
          replace hl : lv_has ls 4 [(2, .int v15), (0, .ref (B + a0)), (1, .int vp1), (3, .int v5)] := hl
          obtain ⟨v16, ev16, hF⟩ := bl_o hF
          refine lv_iinc (pc := 41) (k := 3) (v := v16) hx hb dX10_processesBelow_41 hl rfl ev16 (by decide) rfl (fun ls hl => ?_)
          replace hl : lv_has ls 4 [(3, .int v16), (2, .int v15), (0, .ref (B + a0)), (1, .int vp1)] := hl
          refine lv_goto (pc := 44) (tgt := 4) hx hb dX10_processesBelow_44 (by decide) ?_
          exact ih _ _ _ _ _ _ P (lv_sub hl [2, 3, 1, 0] rfl) (hI1 _ (Option.some.inj hF).symm)
        replace hF := hA8
        refine lv_if_eq (pc := 16) (tgt := 38) hx hb dX10_processesBelow_16 (by decide) (fun hc => ?_) (fun hc => ?_)
        · rw [if_pos hc] at hF
          refine lv_iconst (pc := 38) (v := 0) hx hb dX10_processesBelow_38 (by decide) ?_
          exact hJ8 _ _ _ _ _ P (lv_sub hl [0, 1, 3] rfl) (Option.some.inj hF)
        · rw [if_neg hc] at hF
          refine lv_aload_n (pc := 19) hx hb dX10_processesBelow_19 rfl (lv_at hl 0 rfl) ?_
          refine lv_aload_n (pc := 20) hx hb dX10_processesBelow_20 rfl (lv_at hl 0 rfl) ?_
          refine lv_iload_n (pc := 21) hx hb dX10_processesBelow_21 rfl (lv_at hl 3 rfl) ?_
          refine r_cVi (pc := 22) (As := [.int v5]) (rest := [.ref (B + a0), .int v4]) CX P hl.1 hF kv_X10_120 (fun r h1 q => c_X10_groupOf l G B _ _ _ _ _ q) rfl rfl ⟨Nat.le_of_ble_eq_true rfl, Nat.le_of_ble_eq_true rfl⟩ (Nat.le_of_ble_eq_true rfl) ⟨Nat.le_of_ble_eq_true rfl, Nat.le_of_ble_eq_true rfl⟩ dX10_processesBelow_22 (fun v9 h10 H locs P hF => ?_)
          replace hF := un_i hF
          refine lv_iload_n (pc := 25) hx hb dX10_processesBelow_25 rfl (lv_at hl 1 rfl) ?_
          refine r_cVi (pc := 26) (As := [.int v9, .int vp1]) (rest := [.int v4]) CX P hl.1 hF kv_X10_111 (fun r h1 q => c_X10_isBelow l G B _ _ _ _ _ _ q) rfl rfl ⟨Nat.le_of_ble_eq_true rfl, Nat.le_of_ble_eq_true rfl⟩ (Nat.le_of_ble_eq_true rfl) ⟨Nat.le_of_ble_eq_true rfl, Nat.le_of_ble_eq_true rfl⟩ dX10_processesBelow_26 (fun v11 h12 H locs P hF => ?_)
          replace hF := un_i hF
          refine lv_if_eq (pc := 29) (tgt := 38) hx hb dX10_processesBelow_29 (by decide) (fun hc => ?_) (fun hc => ?_)
          · rw [if_pos hc] at hF
            refine lv_iconst (pc := 38) (v := 0) hx hb dX10_processesBelow_38 (by decide) ?_
            exact hJ8 _ _ _ _ _ P (lv_sub hl [0, 1, 3] rfl) (Option.some.inj hF)
          · rw [if_neg hc] at hF
            refine lv_iconst (pc := 32) (v := 1) hx hb dX10_processesBelow_32 (by decide) ?_
            refine lv_iload_n (pc := 33) hx hb dX10_processesBelow_33 rfl (lv_at hl 3 rfl) ?_
            refine lv_ishl (pc := 34) hx hb dX10_processesBelow_34 ?_
            refine lv_goto (pc := 35) (tgt := 39) hx hb dX10_processesBelow_35 (by decide) ?_
            exact hJ8 _ _ _ _ _ P (lv_sub hl [0, 1, 3] rfl) (Option.some.inj hF)
  exact hL1 _ _ _ _ _ _ _ P (lv_sub hl [2, 3, 1, 0] rfl) hLp1
def F_X10_pagesOf (h : Hp) (a0 : Nat) (vp1 : Int32) : Option (Int32 × Hp) :=
(cO h a0 10 (F_X10_ofProcess h a0 vp1 2 0)).bind (un fun v1 h2 =>
(cO h2 a0 10 (F_X10_ofProcess h2 a0 vp1 3 0)).bind (un fun v3 h4 =>
some ((v1 + v3), h4)))
set_option maxRecDepth 100000 in
set_option maxHeartbeats 4000000 in
theorem c_X10_pagesOf (l : Launch) (G : GG) (B : Nat) (h : Hp) (a0 : Nat) (vp1 : Int32) (r0 : Int32) (hr : Hp) (hF : F_X10_pagesOf h a0 vp1 = some (r0, hr)) : CI l yX10_pagesOf cX10_pagesOf 2 .int 1 23 0 0 G B h [.ref (B + a0), .int vp1] r0 hr := by
  refine ent_i rfl (Nat.le_of_ble_eq_true rfl) ?_
  intro p e s m args below meth c ls Q CX hnm hret P hl
  have CX : Cxt p m c cX10_pagesOf 2 s args RX10 G B := CX
  obtain ⟨⟨hx, hb, hml, hown, hts⟩, -, -⟩ := id CX
  replace hl : lv_has ls 2 [(0, .ref (B + a0)), (1, .int vp1)] := hl
  generalize s.heap = H at P ⊢
  generalize ([] : List Loc) = locs at P ⊢
  unfold F_X10_pagesOf at hF
  refine lv_aload_n (pc := 0) hx hb dX10_pagesOf_0 rfl (lv_at hl 0 rfl) ?_
  refine lv_iload_n (pc := 1) hx hb dX10_pagesOf_1 rfl (lv_at hl 1 rfl) ?_
  refine lv_iconst (pc := 2) (v := 2) hx hb dX10_pagesOf_2 (by decide) ?_
  refine lv_iconst (pc := 3) (v := 0) hx hb dX10_pagesOf_3 (by decide) ?_
  refine r_cVi (pc := 4) (As := [.int vp1, .int 2, .int 0]) (rest := []) CX P hl.1 hF kv_X10_114 (fun r h1 q => c_X10_ofProcess l G B _ _ _ _ _ _ _ q) rfl rfl ⟨Nat.le_of_ble_eq_true rfl, Nat.le_of_ble_eq_true rfl⟩ (Nat.le_of_ble_eq_true rfl) ⟨Nat.le_of_ble_eq_true rfl, Nat.le_of_ble_eq_true rfl⟩ dX10_pagesOf_4 (fun v1 h2 H locs P hF => ?_)
  replace hF := un_i hF
  refine lv_aload_n (pc := 7) hx hb dX10_pagesOf_7 rfl (lv_at hl 0 rfl) ?_
  refine lv_iload_n (pc := 8) hx hb dX10_pagesOf_8 rfl (lv_at hl 1 rfl) ?_
  refine lv_iconst (pc := 9) (v := 3) hx hb dX10_pagesOf_9 (by decide) ?_
  refine lv_iconst (pc := 10) (v := 0) hx hb dX10_pagesOf_10 (by decide) ?_
  refine r_cVi (pc := 11) (As := [.int vp1, .int 3, .int 0]) (rest := [.int v1]) CX P hl.1 hF kv_X10_114 (fun r h1 q => c_X10_ofProcess l G B _ _ _ _ _ _ _ q) rfl rfl ⟨Nat.le_of_ble_eq_true rfl, Nat.le_of_ble_eq_true rfl⟩ (Nat.le_of_ble_eq_true rfl) ⟨Nat.le_of_ble_eq_true rfl, Nat.le_of_ble_eq_true rfl⟩ dX10_pagesOf_11 (fun v3 h4 H locs P hF => ?_)
  replace hF := un_i hF
  refine lv_iadd (pc := 14) hx hb dX10_pagesOf_14 ?_
  cases hF
  exact hret _ _ _ _ P rfl dX10_pagesOf_15
def F_X10_pagesIn_L5 (a2 : Nat) (v3 : Int32) (v4 : Int32) (v5 : Int32) (v6 : Int32) (h7 : Hp) : Option ((Int32 × Int32 × Hp) ⊕ (Int32 × Hp)) :=
if 16 ≤ v6 then (
some (.inr (v5, h7))) else (
(cO h7 a2 10 (F_X10_isProcess h7 a2 v6)).bind fun v8 =>
(if v8 = 0 then (
some ((0 : Int32), h7)) else (
(cO h7 a2 10 (F_X10_groupOf h7 a2 v6)).bind (un fun v10 h11 =>
if v10 = v3 then (
(cO h11 a2 10 (F_X10_ofProcess h11 a2 v6 v4 0)).bind (un fun v12 h13 =>
some ((v12 : Int32), h13))) else (
some ((0 : Int32), h11))))).bind fun q9 =>
bl q9.1 fun v14 =>
bl q9.2 fun h15 =>
bl (v5 + v14) fun v16 =>
bl (v6 + 1) fun v17 =>
some (.inl (v16, v17, h15)))
def F_X10_pagesIn (h : Hp) (a0 : Nat) (vp1 : Int32) (vp2 : Int32) : Option (Int32 × Hp) :=
(loopF (fun x => F_X10_pagesIn_L5 a0 vp1 vp2 x.1 x.2.1 x.2.2) 6000 (0, 0, h)).bind fun q1 =>
bl q1.1 fun v18 =>
bl q1.2 fun h19 =>
some (v18, h19)
set_option maxRecDepth 100000 in
set_option maxHeartbeats 4000000 in
theorem c_X10_pagesIn (l : Launch) (G : GG) (B : Nat) (h : Hp) (a0 : Nat) (vp1 : Int32) (vp2 : Int32) (r0 : Int32) (hr : Hp) (hF : F_X10_pagesIn h a0 vp1 vp2 = some (r0, hr)) : CI l yX10_pagesIn cX10_pagesIn 5 .int 2 46 0 0 G B h [.ref (B + a0), .int vp1, .int vp2] r0 hr := by
  refine ent_i rfl (Nat.le_of_ble_eq_true rfl) ?_
  intro p e s m args below meth c ls Q CX hnm hret P hl
  have CX : Cxt p m c cX10_pagesIn 5 s args RX10 G B := CX
  obtain ⟨⟨hx, hb, hml, hown, hts⟩, -, -⟩ := id CX
  replace hl : lv_has ls 5 [(0, .ref (B + a0)), (1, .int vp1), (2, .int vp2)] := hl
  generalize s.heap = H at P ⊢
  generalize ([] : List Loc) = locs at P ⊢
  unfold F_X10_pagesIn at hF
  refine lv_iconst (pc := 0) (v := 0) hx hb dX10_pagesIn_0 (by decide) ?_
  refine lv_istore_n (pc := 1) hx hb dX10_pagesIn_1 rfl hl (by decide) rfl (fun ls hl => ?_)
  replace hl : lv_has ls 5 [(3, .int 0), (0, .ref (B + a0)), (1, .int vp1), (2, .int vp2)] := hl
  refine lv_iconst (pc := 2) (v := 0) hx hb dX10_pagesIn_2 (by decide) ?_
  refine lv_istore (pc := 3) hx hb dX10_pagesIn_3 hl (by decide) rfl (fun ls hl => ?_)
  replace hl : lv_has ls 5 [(4, .int 0), (3, .int 0), (0, .ref (B + a0)), (1, .int vp1), (2, .int vp2)] := hl
  obtain ⟨r1, hLp1, hK1⟩ := bd_some hF
  have hX1 : ∀ (v18 : Int32) (h19 : Hp) (H : Heap) (locs : List Loc) (ls : Array Slot), Pic G B h19 s H locs → lv_has ls 5 [(3, .int v18)] → (v18, h19) = r1 → W p l e (rmM 2 46 0 0) s m args below meth c H locs 0 0 Q (F0 m 52 ls []) := by
    intro v18 h19 H locs ls P hl er
    subst er
    have hF := hK1
    replace hF := bl_i hF
    replace hF := bl_i hF
    try dsimp only at hF
    refine lv_iload_n (pc := 52) hx hb dX10_pagesIn_52 rfl (lv_at hl 0 rfl) ?_
    cases hF
    exact hret _ _ _ _ P rfl dX10_pagesIn_53
  have hL1 : ∀ (n : Nat) (v5 : Int32) (v6 : Int32) (h7 : Hp) (H : Heap) (locs : List Loc) (ls : Array Slot), Pic G B h7 s H locs → lv_has ls 5 [(0, .ref (B + a0)), (1, .int vp1), (2, .int vp2), (3, .int v5), (4, .int v6)] → loopF (fun x => F_X10_pagesIn_L5 a0 vp1 vp2 x.1 x.2.1 x.2.2) n (v5, v6, h7) = some r1 → W p l e (rmM 2 46 0 0) s m args below meth c H locs 0 0 Q (F0 m 5 ls []) := by
    intro n
    induction n with
    | zero => intro v5 v6 h7 H locs ls P hl hq; cases hq
    | succ n ih =>
      intro v5 v6 h7 H locs ls P hl hq
      obtain ⟨z1, hS1, hI1, hR1⟩ := loop_some hq
      have hF : F_X10_pagesIn_L5 a0 vp1 vp2 v5 v6 h7 = some z1 := hS1
      unfold F_X10_pagesIn_L5 at hF
      refine lv_iload (pc := 5) hx hb dX10_pagesIn_5 (lv_at hl 4 rfl) ?_
      refine lv_bipush (pc := 7) (v := 16) hx hb dX10_pagesIn_7 (by decide) ?_
      refine lv_icmp_ge (pc := 9) (tgt := 52) hx hb dX10_pagesIn_9 (by decide) (fun hc => ?_) (fun hc => ?_)
      · rw [if_pos hc] at hF
        exact hX1 _ _ _ _ _ P (lv_sub hl [3] rfl) (hR1 _ (Option.some.inj hF).symm)
      · rw [if_neg hc] at hF
        refine lv_iload_n (pc := 12) hx hb dX10_pagesIn_12 rfl (lv_at hl 3 rfl) ?_
        refine lv_aload_n (pc := 13) hx hb dX10_pagesIn_13 rfl (lv_at hl 0 rfl) ?_
        refine lv_iload (pc := 14) hx hb dX10_pagesIn_14 (lv_at hl 4 rfl) ?_
        refine r_cVp (pc := 16) (As := [.int v6]) (rest := [.int v5]) CX P hl.1 hF kv_X10_117 (fun r q => c_X10_isProcess l G B _ _ _ _ q) rfl rfl ⟨Nat.le_of_ble_eq_true rfl, Nat.le_of_ble_eq_true rfl⟩ (Nat.le_of_ble_eq_true rfl) ⟨Nat.le_of_ble_eq_true rfl, Nat.le_of_ble_eq_true rfl⟩ dX10_pagesIn_16 (fun v8 H locs P hF => ?_)
        obtain ⟨j9, hA9, hK9⟩ := bd_some hF
        have hJ9 : ∀ (v14 : Int32) (h15 : Hp) (H : Heap) (locs : List Loc) (ls : Array Slot), Pic G B h15 s H locs → lv_has ls 5 [(0, .ref (B + a0)), (1, .int vp1), (2, .int vp2), (4, .int v6)] → (v14, h15) = j9 → W p l e (rmM 2 46 0 0) s m args below meth c H locs 0 0 Q (F0 m 44 ls [.int v14, .int v5]) := by
          intro v14 h15 H locs ls P hl ej
          subst ej
          have hF := hK9
          replace hF := bl_i hF
          replace hF := bl_i hF
          try dsimp only at hF
          refine lv_iadd (pc := 44) hx hb dX10_pagesIn_44 ?_
          refine lv_topi (fun v16 ev16 => ?_)
          replace hF := bl_e hF ev16
          refine lv_istore_n (pc := 45) hx hb dX10_pagesIn_45 rfl hl (by decide) rfl (fun ls hl => ?_)
          replace hl : lv_has ls 5 [(3, .int v16), (0, .ref (B + a0)), (1, .int vp1), (2, .int vp2), (4, .int v6)] := hl
          obtain ⟨v17, ev17, hF⟩ := bl_o hF
          refine lv_iinc (pc := 46) (k := 4) (v := v17) hx hb dX10_pagesIn_46 hl rfl ev17 (by decide) rfl (fun ls hl => ?_)
          replace hl : lv_has ls 5 [(4, .int v17), (3, .int v16), (0, .ref (B + a0)), (1, .int vp1), (2, .int vp2)] := hl
          refine lv_goto (pc := 49) (tgt := 5) hx hb dX10_pagesIn_49 (by decide) ?_
          exact ih _ _ _ _ _ _ P (lv_sub hl [2, 3, 4, 1, 0] rfl) (hI1 _ (Option.some.inj hF).symm)
        replace hF := hA9
        refine lv_if_eq (pc := 19) (tgt := 43) hx hb dX10_pagesIn_19 (by decide) (fun hc => ?_) (fun hc => ?_)
        · rw [if_pos hc] at hF
          refine lv_iconst (pc := 43) (v := 0) hx hb dX10_pagesIn_43 (by decide) ?_
          exact hJ9 _ _ _ _ _ P (lv_sub hl [0, 1, 2, 4] rfl) (Option.some.inj hF)
        · rw [if_neg hc] at hF
          refine lv_aload_n (pc := 22) hx hb dX10_pagesIn_22 rfl (lv_at hl 0 rfl) ?_
          refine lv_iload (pc := 23) hx hb dX10_pagesIn_23 (lv_at hl 4 rfl) ?_
          refine r_cVi (pc := 25) (As := [.int v6]) (rest := [.int v5]) CX P hl.1 hF kv_X10_120 (fun r h1 q => c_X10_groupOf l G B _ _ _ _ _ q) rfl rfl ⟨Nat.le_of_ble_eq_true rfl, Nat.le_of_ble_eq_true rfl⟩ (Nat.le_of_ble_eq_true rfl) ⟨Nat.le_of_ble_eq_true rfl, Nat.le_of_ble_eq_true rfl⟩ dX10_pagesIn_25 (fun v10 h11 H locs P hF => ?_)
          replace hF := un_i hF
          refine lv_iload_n (pc := 28) hx hb dX10_pagesIn_28 rfl (lv_at hl 1 rfl) ?_
          refine lv_icmp_ne (pc := 29) (tgt := 43) hx hb dX10_pagesIn_29 (by decide) (fun hc => ?_) (fun hc => ?_)
          · rw [if_neg hc] at hF
            refine lv_iconst (pc := 43) (v := 0) hx hb dX10_pagesIn_43 (by decide) ?_
            exact hJ9 _ _ _ _ _ P (lv_sub hl [0, 1, 2, 4] rfl) (Option.some.inj hF)
          · rw [if_pos hc] at hF
            refine lv_aload_n (pc := 32) hx hb dX10_pagesIn_32 rfl (lv_at hl 0 rfl) ?_
            refine lv_iload (pc := 33) hx hb dX10_pagesIn_33 (lv_at hl 4 rfl) ?_
            refine lv_iload_n (pc := 35) hx hb dX10_pagesIn_35 rfl (lv_at hl 2 rfl) ?_
            refine lv_iconst (pc := 36) (v := 0) hx hb dX10_pagesIn_36 (by decide) ?_
            refine r_cVi (pc := 37) (As := [.int v6, .int vp2, .int 0]) (rest := [.int v5]) CX P hl.1 hF kv_X10_114 (fun r h1 q => c_X10_ofProcess l G B _ _ _ _ _ _ _ q) rfl rfl ⟨Nat.le_of_ble_eq_true rfl, Nat.le_of_ble_eq_true rfl⟩ (Nat.le_of_ble_eq_true rfl) ⟨Nat.le_of_ble_eq_true rfl, Nat.le_of_ble_eq_true rfl⟩ dX10_pagesIn_37 (fun v12 h13 H locs P hF => ?_)
            replace hF := un_i hF
            refine lv_goto (pc := 40) (tgt := 44) hx hb dX10_pagesIn_40 (by decide) ?_
            exact hJ9 _ _ _ _ _ P (lv_sub hl [0, 1, 2, 4] rfl) (Option.some.inj hF)
  exact hL1 _ _ _ _ _ _ _ P (lv_sub hl [2, 3, 4, 1, 0] rfl) hLp1
def F_X10_ownOf (h : Hp) (a0 : Nat) (vp1 : Int32) : Option (Int32 × Hp) :=
(cO h a0 10 (F_X10_pagesIn h a0 vp1 2)).bind (un fun v1 h2 =>
(cO h2 a0 10 (F_X10_pagesIn h2 a0 vp1 3)).bind (un fun v3 h4 =>
some ((v1 + v3), h4)))
set_option maxRecDepth 100000 in
set_option maxHeartbeats 4000000 in
theorem c_X10_ownOf (l : Launch) (G : GG) (B : Nat) (h : Hp) (a0 : Nat) (vp1 : Int32) (r0 : Int32) (hr : Hp) (hF : F_X10_ownOf h a0 vp1 = some (r0, hr)) : CI l yX10_ownOf cX10_ownOf 2 .int 3 70 0 0 G B h [.ref (B + a0), .int vp1] r0 hr := by
  refine ent_i rfl (Nat.le_of_ble_eq_true rfl) ?_
  intro p e s m args below meth c ls Q CX hnm hret P hl
  have CX : Cxt p m c cX10_ownOf 2 s args RX10 G B := CX
  obtain ⟨⟨hx, hb, hml, hown, hts⟩, -, -⟩ := id CX
  replace hl : lv_has ls 2 [(0, .ref (B + a0)), (1, .int vp1)] := hl
  generalize s.heap = H at P ⊢
  generalize ([] : List Loc) = locs at P ⊢
  unfold F_X10_ownOf at hF
  refine lv_aload_n (pc := 0) hx hb dX10_ownOf_0 rfl (lv_at hl 0 rfl) ?_
  refine lv_iload_n (pc := 1) hx hb dX10_ownOf_1 rfl (lv_at hl 1 rfl) ?_
  refine lv_iconst (pc := 2) (v := 2) hx hb dX10_ownOf_2 (by decide) ?_
  refine r_cVi (pc := 3) (As := [.int vp1, .int 2]) (rest := []) CX P hl.1 hF kv_X10_123 (fun r h1 q => c_X10_pagesIn l G B _ _ _ _ _ _ q) rfl rfl ⟨Nat.le_of_ble_eq_true rfl, Nat.le_of_ble_eq_true rfl⟩ (Nat.le_of_ble_eq_true rfl) ⟨Nat.le_of_ble_eq_true rfl, Nat.le_of_ble_eq_true rfl⟩ dX10_ownOf_3 (fun v1 h2 H locs P hF => ?_)
  replace hF := un_i hF
  refine lv_aload_n (pc := 6) hx hb dX10_ownOf_6 rfl (lv_at hl 0 rfl) ?_
  refine lv_iload_n (pc := 7) hx hb dX10_ownOf_7 rfl (lv_at hl 1 rfl) ?_
  refine lv_iconst (pc := 8) (v := 3) hx hb dX10_ownOf_8 (by decide) ?_
  refine r_cVi (pc := 9) (As := [.int vp1, .int 3]) (rest := [.int v1]) CX P hl.1 hF kv_X10_123 (fun r h1 q => c_X10_pagesIn l G B _ _ _ _ _ _ q) rfl rfl ⟨Nat.le_of_ble_eq_true rfl, Nat.le_of_ble_eq_true rfl⟩ (Nat.le_of_ble_eq_true rfl) ⟨Nat.le_of_ble_eq_true rfl, Nat.le_of_ble_eq_true rfl⟩ dX10_ownOf_9 (fun v3 h4 H locs P hF => ?_)
  replace hF := un_i hF
  refine lv_iadd (pc := 12) hx hb dX10_ownOf_12 ?_
  cases hF
  exact hret _ _ _ _ P rfl dX10_ownOf_13
def F_X10_adds_L3 (a2 : Nat) (a3 : Nat) (v4 : Int32) (v5 : Int32) (h6 : Hp) : Option ((Int32 × Hp) ⊕ (Hp)) :=
if v5 = (-1) then (
some (.inr h6)) else (
(aI h6 a3 v5).bind fun v7 =>
(sI h6 a3 v5 (v7 + v4)).bind fun h8 =>
(cO h8 a2 10 (F_X10_parentOf h8 a2 v5)).bind (un fun v9 h10 =>
some (.inl (v9, h10))))
def F_X10_adds (h : Hp) (a0 : Nat) (ap1 : Nat) (vp2 : Int32) (vp3 : Int32) : Option (Hp) :=
(loopF (fun x => F_X10_adds_L3 a0 ap1 vp3 x.1 x.2) 6000 (vp2, h)).bind fun h11 =>
some h11
set_option maxRecDepth 100000 in
set_option maxHeartbeats 4000000 in
theorem c_X10_adds (l : Launch) (G : GG) (B : Nat) (h : Hp) (a0 : Nat) (ap1 : Nat) (vp2 : Int32) (vp3 : Int32) (hr : Hp) (hF : F_X10_adds h a0 ap1 vp2 vp3 = some hr) : CV l yX10_adds cX10_adds 5 2 44 0 0 G B h [.ref (B + a0), .ref (B + ap1), .int vp2, .int vp3] hr := by
  refine ent_v rfl (Nat.le_of_ble_eq_true rfl) ?_
  intro p e s m args below meth c ls Q CX hnm hret P hl
  have CX : Cxt p m c cX10_adds 5 s args RX10 G B := CX
  obtain ⟨⟨hx, hb, hml, hown, hts⟩, -, -⟩ := id CX
  replace hl : lv_has ls 5 [(0, .ref (B + a0)), (1, .ref (B + ap1)), (2, .int vp2), (3, .int vp3)] := hl
  generalize s.heap = H at P ⊢
  generalize ([] : List Loc) = locs at P ⊢
  unfold F_X10_adds at hF
  refine lv_iload_n (pc := 0) hx hb dX10_adds_0 rfl (lv_at hl 2 rfl) ?_
  refine lv_istore (pc := 1) hx hb dX10_adds_1 hl (by decide) rfl (fun ls hl => ?_)
  replace hl : lv_has ls 5 [(4, .int vp2), (0, .ref (B + a0)), (1, .ref (B + ap1)), (2, .int vp2), (3, .int vp3)] := hl
  obtain ⟨r1, hLp1, hK1⟩ := bd_some hF
  have hX1 : ∀ (h11 : Hp) (H : Heap) (locs : List Loc) (ls : Array Slot), Pic G B h11 s H locs → lv_has ls 5 [] → h11 = r1 → W p l e (rmM 2 44 0 0) s m args below meth c H locs 0 0 Q (F0 m 28 ls []) := by
    intro h11 H locs ls P hl er
    subst er
    have hF := hK1
    cases hF
    exact hret _ _ _ _ P dX10_adds_28
  have hL1 : ∀ (n : Nat) (v5 : Int32) (h6 : Hp) (H : Heap) (locs : List Loc) (ls : Array Slot), Pic G B h6 s H locs → lv_has ls 5 [(0, .ref (B + a0)), (1, .ref (B + ap1)), (3, .int vp3), (4, .int v5)] → loopF (fun x => F_X10_adds_L3 a0 ap1 vp3 x.1 x.2) n (v5, h6) = some r1 → W p l e (rmM 2 44 0 0) s m args below meth c H locs 0 0 Q (F0 m 3 ls []) := by
    intro n
    induction n with
    | zero => intro v5 h6 H locs ls P hl hq; cases hq
    | succ n ih =>
      intro v5 h6 H locs ls P hl hq
      obtain ⟨z1, hS1, hI1, hR1⟩ := loop_some hq
      have hF : F_X10_adds_L3 a0 ap1 vp3 v5 h6 = some z1 := hS1
      unfold F_X10_adds_L3 at hF
      refine lv_iload (pc := 3) hx hb dX10_adds_3 (lv_at hl 3 rfl) ?_
      refine lv_iconst (pc := 5) (v := (-1)) hx hb dX10_adds_5 (by decide) ?_
      refine lv_icmp_eq (pc := 6) (tgt := 28) hx hb dX10_adds_6 (by decide) (fun hc => ?_) (fun hc => ?_)
      · rw [if_pos hc] at hF
        exact hX1 _ _ _ _ P (lv_sub hl [] rfl) (hR1 _ (Option.some.inj hF).symm)
      · rw [if_neg hc] at hF
        refine lv_aload_n (pc := 9) hx hb dX10_adds_9 rfl (lv_at hl 1 rfl) ?_
        refine lv_iload (pc := 10) hx hb dX10_adds_10 (lv_at hl 3 rfl) ?_
        refine lv_dup2_11 (pc := 12) hx hb dX10_adds_12 rfl rfl ?_
        refine r_aI (pc := 13) CX P hF dX10_adds_13 (fun v7 hF => ?_)
        refine lv_iload_n (pc := 14) hx hb dX10_adds_14 rfl (lv_at hl 2 rfl) ?_
        refine lv_iadd (pc := 15) hx hb dX10_adds_15 ?_
        refine r_sI (pc := 16) CX P hF dX10_adds_16 (fun h8 H locs P hF => ?_)
        refine lv_aload_n (pc := 17) hx hb dX10_adds_17 rfl (lv_at hl 0 rfl) ?_
        refine lv_iload (pc := 18) hx hb dX10_adds_18 (lv_at hl 3 rfl) ?_
        refine r_cVi (pc := 20) (As := [.int v5]) (rest := []) CX P hl.1 hF kv_X10_103 (fun r h1 q => c_X10_parentOf l G B _ _ _ _ _ q) rfl rfl ⟨Nat.le_of_ble_eq_true rfl, Nat.le_of_ble_eq_true rfl⟩ (Nat.le_of_ble_eq_true rfl) ⟨Nat.le_of_ble_eq_true rfl, Nat.le_of_ble_eq_true rfl⟩ dX10_adds_20 (fun v9 h10 H locs P hF => ?_)
        replace hF := un_i hF
        refine lv_istore (pc := 23) hx hb dX10_adds_23 hl (by decide) rfl (fun ls hl => ?_)
        replace hl : lv_has ls 5 [(4, .int v9), (0, .ref (B + a0)), (1, .ref (B + ap1)), (3, .int vp3)] := hl
        refine lv_goto (pc := 25) (tgt := 3) hx hb dX10_adds_25 (by decide) ?_
        exact ih _ _ _ _ _ P (lv_sub hl [1, 2, 3, 0] rfl) (hI1 _ (Option.some.inj hF).symm)
  exact hL1 _ _ _ _ _ _ P (lv_sub hl [1, 2, 4, 0] rfl) hLp1
