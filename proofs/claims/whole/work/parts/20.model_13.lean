def F_X10_units (h : Hp) (a0 : Nat) (vp1 : Int32) (vp2 : Int32) : Option (Int32 × Hp) :=
(pI h a0 10 0 0).bind fun h1 =>
bl (fun (_ : Unit) =>
(cO h1 a0 10 (F_X10_opensPaper h1 a0)).bind fun h5 =>
(cO h5 a0 10 (F_X10_laysUnits h5 a0)).bind fun h6 =>
(cO h6 a0 10 (F_X10_closesPaper h6 a0)).bind fun h7 =>
(gR h7 a0 10 18).bind fun a8 =>
if vp2 = 0 then (
(aI h7 a8 vp1).bind fun v10 =>
some (v10, h7)) else (
(aI h7 a8 (12 + vp1)).bind fun v9 =>
some (v9, h7))) fun k2 =>
if vp2 = 0 then (
(cO h1 a0 10 (F_X10_isGroup h1 a0 vp1)).bind fun v4 =>
if v4 = 0 then (
some ((-2), h1)) else (
k2 ())) else (
if vp2 = 1 then (
(cO h1 a0 10 (F_X10_isProcess h1 a0 vp1)).bind fun v3 =>
if v3 = 0 then (
some ((-2), h1)) else (
k2 ())) else (
some ((-2), h1)))
set_option maxRecDepth 100000 in
set_option maxHeartbeats 4000000 in
theorem c_X10_units (l : Launch) (G : GG) (B : Nat) (h : Hp) (a0 : Nat) (vp1 : Int32) (vp2 : Int32) (r0 : Int32) (hr : Hp) (hF : F_X10_units h a0 vp1 vp2 = some (r0, hr)) : CI l yX10_units cX10_units 3 .int 19 920 0 0 G B h [.ref (B + a0), .int vp1, .int vp2] r0 hr := by
  refine ent_i rfl (Nat.le_of_ble_eq_true rfl) ?_
  intro p e s m args below meth c ls Q CX hnm hret P hl
  have CX : Cxt p m c cX10_units 3 s args RX10 G B := CX
  obtain ⟨⟨hx, hb, hml, hown, hts⟩, -, -⟩ := id CX
  replace hl : lv_has ls 3 [(0, .ref (B + a0)), (1, .int vp1), (2, .int vp2)] := hl
  generalize s.heap = H at P ⊢
  generalize ([] : List Loc) = locs at P ⊢
  unfold F_X10_units at hF
  refine lv_aload_n (pc := 0) hx hb dX10_units_0 rfl (lv_at hl 0 rfl) ?_
  refine lv_iconst (pc := 1) (v := 0) hx hb dX10_units_1 (by decide) ?_
  refine r_pI (pc := 2) CX P hF fl_X10_1 dX10_units_2 (fun h1 H locs P hF => ?_)
  refine lv_iload_n (pc := 5) hx hb dX10_units_5 rfl (lv_at hl 2 rfl) ?_
  obtain ⟨k2, ek2, hF⟩ := bl_o hF
  have hJ2 : ∀  (H : Heap) (locs : List Loc) (ls : Array Slot), Pic G B h1 s H locs → lv_has ls 3 [(0, .ref (B + a0)), (1, .int vp1), (2, .int vp2)] → k2 () = some (r0, hr) → W p l e (rmM 19 920 0 0) s m args below meth c H locs 0 0 Q (F0 m 36 ls []) := by
    intro  H locs ls P hl hF
    rw [← ek2] at hF
    try dsimp only at hF
    refine lv_aload_n (pc := 36) hx hb dX10_units_36 rfl (lv_at hl 0 rfl) ?_
    refine r_cVv (pc := 37) (As := []) (rest := []) CX P hl.1 hF kv_X10_321 (fun h1 q => c_X10_opensPaper l G B _ _ _ q) rfl rfl ⟨Nat.le_of_ble_eq_true rfl, Nat.le_of_ble_eq_true rfl⟩ (Nat.le_of_ble_eq_true rfl) ⟨Nat.le_of_ble_eq_true rfl, Nat.le_of_ble_eq_true rfl⟩ dX10_units_37 (fun h5 H locs P hF => ?_)
    refine lv_aload_n (pc := 40) hx hb dX10_units_40 rfl (lv_at hl 0 rfl) ?_
    refine r_cVv (pc := 41) (As := []) (rest := []) CX P hl.1 hF kv_X10_276 (fun h1 q => c_X10_laysUnits l G B _ _ _ q) rfl rfl ⟨Nat.le_of_ble_eq_true rfl, Nat.le_of_ble_eq_true rfl⟩ (Nat.le_of_ble_eq_true rfl) ⟨Nat.le_of_ble_eq_true rfl, Nat.le_of_ble_eq_true rfl⟩ dX10_units_41 (fun h6 H locs P hF => ?_)
    refine lv_aload_n (pc := 44) hx hb dX10_units_44 rfl (lv_at hl 0 rfl) ?_
    refine r_cVv (pc := 45) (As := []) (rest := []) CX P hl.1 hF kv_X10_324 (fun h1 q => c_X10_closesPaper l G B _ _ _ q) rfl rfl ⟨Nat.le_of_ble_eq_true rfl, Nat.le_of_ble_eq_true rfl⟩ (Nat.le_of_ble_eq_true rfl) ⟨Nat.le_of_ble_eq_true rfl, Nat.le_of_ble_eq_true rfl⟩ dX10_units_45 (fun h7 H locs P hF => ?_)
    refine lv_aload_n (pc := 48) hx hb dX10_units_48 rfl (lv_at hl 0 rfl) ?_
    refine r_gR (pc := 49) CX P hF fl_X10_63 dX10_units_49 (fun a8 hF => ?_)
    refine lv_iload_n (pc := 52) hx hb dX10_units_52 rfl (lv_at hl 2 rfl) ?_
    refine lv_if_ne (pc := 53) (tgt := 60) hx hb dX10_units_53 (by decide) (fun hc => ?_) (fun hc => ?_)
    · rw [if_neg hc] at hF
      refine lv_bipush (pc := 60) (v := 12) hx hb dX10_units_60 (by decide) ?_
      refine lv_iload_n (pc := 62) hx hb dX10_units_62 rfl (lv_at hl 1 rfl) ?_
      refine lv_iadd (pc := 63) hx hb dX10_units_63 ?_
      refine r_aI (pc := 64) CX P hF dX10_units_64 (fun v9 hF => ?_)
      cases hF
      exact hret _ _ _ _ P rfl dX10_units_65
    · rw [if_pos hc] at hF
      refine lv_iload_n (pc := 56) hx hb dX10_units_56 rfl (lv_at hl 1 rfl) ?_
      refine lv_goto (pc := 57) (tgt := 64) hx hb dX10_units_57 (by decide) ?_
      refine r_aI (pc := 64) CX P hF dX10_units_64 (fun v10 hF => ?_)
      cases hF
      exact hret _ _ _ _ P rfl dX10_units_65
  refine lv_if_ne (pc := 6) (tgt := 20) hx hb dX10_units_6 (by decide) (fun hc => ?_) (fun hc => ?_)
  · rw [if_neg hc] at hF
    refine lv_iload_n (pc := 20) hx hb dX10_units_20 rfl (lv_at hl 2 rfl) ?_
    refine lv_iconst (pc := 21) (v := 1) hx hb dX10_units_21 (by decide) ?_
    refine lv_icmp_ne (pc := 22) (tgt := 33) hx hb dX10_units_22 (by decide) (fun hc => ?_) (fun hc => ?_)
    · rw [if_neg hc] at hF
      refine lv_bipush (pc := 33) (v := (-2)) hx hb dX10_units_33 (by decide) ?_
      cases hF
      exact hret _ _ _ _ P rfl dX10_units_35
    · rw [if_pos hc] at hF
      refine lv_aload_n (pc := 25) hx hb dX10_units_25 rfl (lv_at hl 0 rfl) ?_
      refine lv_iload_n (pc := 26) hx hb dX10_units_26 rfl (lv_at hl 1 rfl) ?_
      refine r_cVp (pc := 27) (As := [.int vp1]) (rest := []) CX P hl.1 hF kv_X10_117 (fun r q => c_X10_isProcess l G B _ _ _ _ q) rfl rfl ⟨Nat.le_of_ble_eq_true rfl, Nat.le_of_ble_eq_true rfl⟩ (Nat.le_of_ble_eq_true rfl) ⟨Nat.le_of_ble_eq_true rfl, Nat.le_of_ble_eq_true rfl⟩ dX10_units_27 (fun v3 H locs P hF => ?_)
      refine lv_if_ne (pc := 30) (tgt := 36) hx hb dX10_units_30 (by decide) (fun hc => ?_) (fun hc => ?_)
      · rw [if_neg hc] at hF
        exact hJ2  _ _ _ P (lv_sub hl [0, 1, 2] rfl) hF
      · rw [if_pos hc] at hF
        refine lv_bipush (pc := 33) (v := (-2)) hx hb dX10_units_33 (by decide) ?_
        cases hF
        exact hret _ _ _ _ P rfl dX10_units_35
  · rw [if_pos hc] at hF
    refine lv_aload_n (pc := 9) hx hb dX10_units_9 rfl (lv_at hl 0 rfl) ?_
    refine lv_iload_n (pc := 10) hx hb dX10_units_10 rfl (lv_at hl 1 rfl) ?_
    refine r_cVp (pc := 11) (As := [.int vp1]) (rest := []) CX P hl.1 hF kv_X10_107 (fun r q => c_X10_isGroup l G B _ _ _ _ q) rfl rfl ⟨Nat.le_of_ble_eq_true rfl, Nat.le_of_ble_eq_true rfl⟩ (Nat.le_of_ble_eq_true rfl) ⟨Nat.le_of_ble_eq_true rfl, Nat.le_of_ble_eq_true rfl⟩ dX10_units_11 (fun v4 H locs P hF => ?_)
    refine lv_if_ne (pc := 14) (tgt := 36) hx hb dX10_units_14 (by decide) (fun hc => ?_) (fun hc => ?_)
    · rw [if_neg hc] at hF
      exact hJ2  _ _ _ P (lv_sub hl [0, 1, 2] rfl) hF
    · rw [if_pos hc] at hF
      refine lv_goto (pc := 17) (tgt := 33) hx hb dX10_units_17 (by decide) ?_
      refine lv_bipush (pc := 33) (v := (-2)) hx hb dX10_units_33 (by decide) ?_
      cases hF
      exact hret _ _ _ _ P rfl dX10_units_35
def F_X10_due_L22 (a5 : Nat) (v6 : Int32) (v7 : Int32) (h8 : Hp) : Option ((Int32 × Hp) ⊕ (Hp)) :=
if 12 ≤ v7 then (
some (.inr h8)) else (
(cO h8 a5 10 (F_X10_lays h8 a5 v7 24 0)).bind fun h9 =>
bl (v7 + 1) fun v10 =>
some (.inl (v10, h9)))
def F_X10_due_L44 (a13 : Nat) (v14 : Int32) (v15 : Int32) (h16 : Hp) : Option ((Int32 × Hp) ⊕ (Hp)) :=
if 16 ≤ v15 then (
some (.inr h16)) else (
(cO h16 a13 10 (F_X10_laysProcess h16 a13 v15 6 999)).bind fun h17 =>
(cO h17 a13 10 (F_X10_laysProcess h17 a13 v15 4 0)).bind fun h18 =>
bl (v15 + 1) fun v19 =>
some (.inl (v19, h18)))
def F_X10_due (h : Hp) (a0 : Nat) (vp1 : Int32) : Option (Int32 × Hp) :=
(pI h a0 10 0 0).bind fun h1 =>
(cO h1 a0 10 (F_X10_isGroup h1 a0 vp1)).bind fun v2 =>
if v2 = 0 then (
some ((-2), h1)) else (
(cO h1 a0 10 (F_X10_opensPaper h1 a0)).bind fun h3 =>
(loopF (fun x => F_X10_due_L22 a0 vp1 x.1 x.2) 6000 (0, h3)).bind fun h11 =>
(loopF (fun x => F_X10_due_L44 a0 vp1 x.1 x.2) 6000 (0, h11)).bind fun h20 =>
(cO h20 a0 10 (F_X10_laysUnits h20 a0)).bind fun h21 =>
(cO h21 a0 10 (F_X10_closesPaper h21 a0)).bind fun h22 =>
(gR h22 a0 10 18).bind fun a23 =>
(aI h22 a23 vp1).bind fun v24 =>
some (v24, h22))
set_option maxRecDepth 100000 in
set_option maxHeartbeats 4000000 in
theorem c_X10_due (l : Launch) (G : GG) (B : Nat) (h : Hp) (a0 : Nat) (vp1 : Int32) (r0 : Int32) (hr : Hp) (hF : F_X10_due h a0 vp1 = some (r0, hr)) : CI l yX10_due cX10_due 3 .int 19 920 0 0 G B h [.ref (B + a0), .int vp1] r0 hr := by
  refine ent_i rfl (Nat.le_of_ble_eq_true rfl) ?_
  intro p e s m args below meth c ls Q CX hnm hret P hl
  have CX : Cxt p m c cX10_due 3 s args RX10 G B := CX
  obtain ⟨⟨hx, hb, hml, hown, hts⟩, -, -⟩ := id CX
  replace hl : lv_has ls 3 [(0, .ref (B + a0)), (1, .int vp1)] := hl
  generalize s.heap = H at P ⊢
  generalize ([] : List Loc) = locs at P ⊢
  unfold F_X10_due at hF
  refine lv_aload_n (pc := 0) hx hb dX10_due_0 rfl (lv_at hl 0 rfl) ?_
  refine lv_iconst (pc := 1) (v := 0) hx hb dX10_due_1 (by decide) ?_
  refine r_pI (pc := 2) CX P hF fl_X10_1 dX10_due_2 (fun h1 H locs P hF => ?_)
  refine lv_aload_n (pc := 5) hx hb dX10_due_5 rfl (lv_at hl 0 rfl) ?_
  refine lv_iload_n (pc := 6) hx hb dX10_due_6 rfl (lv_at hl 1 rfl) ?_
  refine r_cVp (pc := 7) (As := [.int vp1]) (rest := []) CX P hl.1 hF kv_X10_107 (fun r q => c_X10_isGroup l G B _ _ _ _ q) rfl rfl ⟨Nat.le_of_ble_eq_true rfl, Nat.le_of_ble_eq_true rfl⟩ (Nat.le_of_ble_eq_true rfl) ⟨Nat.le_of_ble_eq_true rfl, Nat.le_of_ble_eq_true rfl⟩ dX10_due_7 (fun v2 H locs P hF => ?_)
  refine lv_if_ne (pc := 10) (tgt := 16) hx hb dX10_due_10 (by decide) (fun hc => ?_) (fun hc => ?_)
  · rw [if_neg hc] at hF
    refine lv_aload_n (pc := 16) hx hb dX10_due_16 rfl (lv_at hl 0 rfl) ?_
    refine r_cVv (pc := 17) (As := []) (rest := []) CX P hl.1 hF kv_X10_321 (fun h1 q => c_X10_opensPaper l G B _ _ _ q) rfl rfl ⟨Nat.le_of_ble_eq_true rfl, Nat.le_of_ble_eq_true rfl⟩ (Nat.le_of_ble_eq_true rfl) ⟨Nat.le_of_ble_eq_true rfl, Nat.le_of_ble_eq_true rfl⟩ dX10_due_17 (fun h3 H locs P hF => ?_)
    refine lv_iconst (pc := 20) (v := 0) hx hb dX10_due_20 (by decide) ?_
    refine lv_istore_n (pc := 21) hx hb dX10_due_21 rfl hl (by decide) rfl (fun ls hl => ?_)
    replace hl : lv_has ls 3 [(2, .int 0), (0, .ref (B + a0)), (1, .int vp1)] := hl
    obtain ⟨r4, hLp4, hK4⟩ := bd_some hF
    have hX4 : ∀ (h11 : Hp) (H : Heap) (locs : List Loc) (ls : Array Slot), Pic G B h11 s H locs → lv_has ls 3 [(0, .ref (B + a0)), (1, .int vp1)] → h11 = r4 → W p l e (rmM 19 920 0 0) s m args below meth c H locs 0 0 Q (F0 m 42 ls []) := by
      intro h11 H locs ls P hl er
      subst er
      have hF := hK4
      refine lv_iconst (pc := 42) (v := 0) hx hb dX10_due_42 (by decide) ?_
      refine lv_istore_n (pc := 43) hx hb dX10_due_43 rfl hl (by decide) rfl (fun ls hl => ?_)
      replace hl : lv_has ls 3 [(2, .int 0), (0, .ref (B + a0)), (1, .int vp1)] := hl
      obtain ⟨r12, hLp12, hK12⟩ := bd_some hF
      have hX12 : ∀ (h20 : Hp) (H : Heap) (locs : List Loc) (ls : Array Slot), Pic G B h20 s H locs → lv_has ls 3 [(0, .ref (B + a0)), (1, .int vp1)] → h20 = r12 → W p l e (rmM 19 920 0 0) s m args below meth c H locs 0 0 Q (F0 m 73 ls []) := by
        intro h20 H locs ls P hl er
        subst er
        have hF := hK12
        refine lv_aload_n (pc := 73) hx hb dX10_due_73 rfl (lv_at hl 0 rfl) ?_
        refine r_cVv (pc := 74) (As := []) (rest := []) CX P hl.1 hF kv_X10_276 (fun h1 q => c_X10_laysUnits l G B _ _ _ q) rfl rfl ⟨Nat.le_of_ble_eq_true rfl, Nat.le_of_ble_eq_true rfl⟩ (Nat.le_of_ble_eq_true rfl) ⟨Nat.le_of_ble_eq_true rfl, Nat.le_of_ble_eq_true rfl⟩ dX10_due_74 (fun h21 H locs P hF => ?_)
        refine lv_aload_n (pc := 77) hx hb dX10_due_77 rfl (lv_at hl 0 rfl) ?_
        refine r_cVv (pc := 78) (As := []) (rest := []) CX P hl.1 hF kv_X10_324 (fun h1 q => c_X10_closesPaper l G B _ _ _ q) rfl rfl ⟨Nat.le_of_ble_eq_true rfl, Nat.le_of_ble_eq_true rfl⟩ (Nat.le_of_ble_eq_true rfl) ⟨Nat.le_of_ble_eq_true rfl, Nat.le_of_ble_eq_true rfl⟩ dX10_due_78 (fun h22 H locs P hF => ?_)
        refine lv_aload_n (pc := 81) hx hb dX10_due_81 rfl (lv_at hl 0 rfl) ?_
        refine r_gR (pc := 82) CX P hF fl_X10_63 dX10_due_82 (fun a23 hF => ?_)
        refine lv_iload_n (pc := 85) hx hb dX10_due_85 rfl (lv_at hl 1 rfl) ?_
        refine r_aI (pc := 86) CX P hF dX10_due_86 (fun v24 hF => ?_)
        cases hF
        exact hret _ _ _ _ P rfl dX10_due_87
      have hL12 : ∀ (n : Nat) (v15 : Int32) (h16 : Hp) (H : Heap) (locs : List Loc) (ls : Array Slot), Pic G B h16 s H locs → lv_has ls 3 [(0, .ref (B + a0)), (1, .int vp1), (2, .int v15)] → loopF (fun x => F_X10_due_L44 a0 vp1 x.1 x.2) n (v15, h16) = some r12 → W p l e (rmM 19 920 0 0) s m args below meth c H locs 0 0 Q (F0 m 44 ls []) := by
        intro n
        induction n with
        | zero => intro v15 h16 H locs ls P hl hq; cases hq
        | succ n ih =>
          intro v15 h16 H locs ls P hl hq
          obtain ⟨z12, hS12, hI12, hR12⟩ := loop_some hq
          have hF : F_X10_due_L44 a0 vp1 v15 h16 = some z12 := hS12
          unfold F_X10_due_L44 at hF
          refine lv_iload_n (pc := 44) hx hb dX10_due_44 rfl (lv_at hl 2 rfl) ?_
          refine lv_bipush (pc := 45) (v := 16) hx hb dX10_due_45 (by decide) ?_
          refine lv_icmp_ge (pc := 47) (tgt := 73) hx hb dX10_due_47 (by decide) (fun hc => ?_) (fun hc => ?_)
          · rw [if_pos hc] at hF
            exact hX12 _ _ _ _ P (lv_sub hl [0, 1] rfl) (hR12 _ (Option.some.inj hF).symm)
          · rw [if_neg hc] at hF
            refine lv_aload_n (pc := 50) hx hb dX10_due_50 rfl (lv_at hl 0 rfl) ?_
            refine lv_iload_n (pc := 51) hx hb dX10_due_51 rfl (lv_at hl 2 rfl) ?_
            refine lv_bipush (pc := 52) (v := 6) hx hb dX10_due_52 (by decide) ?_
            refine lv_sipush (pc := 54) (v := 999) hx hb dX10_due_54 (by decide) ?_
            refine r_cVv (pc := 57) (As := [.int v15, .int 6, .int 999]) (rest := []) CX P hl.1 hF kv_X10_174 (fun h1 q => c_X10_laysProcess l G B _ _ _ _ _ _ q) rfl rfl ⟨Nat.le_of_ble_eq_true rfl, Nat.le_of_ble_eq_true rfl⟩ (Nat.le_of_ble_eq_true rfl) ⟨Nat.le_of_ble_eq_true rfl, Nat.le_of_ble_eq_true rfl⟩ dX10_due_57 (fun h17 H locs P hF => ?_)
            refine lv_aload_n (pc := 60) hx hb dX10_due_60 rfl (lv_at hl 0 rfl) ?_
            refine lv_iload_n (pc := 61) hx hb dX10_due_61 rfl (lv_at hl 2 rfl) ?_
            refine lv_iconst (pc := 62) (v := 4) hx hb dX10_due_62 (by decide) ?_
            refine lv_iconst (pc := 63) (v := 0) hx hb dX10_due_63 (by decide) ?_
            refine r_cVv (pc := 64) (As := [.int v15, .int 4, .int 0]) (rest := []) CX P hl.1 hF kv_X10_174 (fun h1 q => c_X10_laysProcess l G B _ _ _ _ _ _ q) rfl rfl ⟨Nat.le_of_ble_eq_true rfl, Nat.le_of_ble_eq_true rfl⟩ (Nat.le_of_ble_eq_true rfl) ⟨Nat.le_of_ble_eq_true rfl, Nat.le_of_ble_eq_true rfl⟩ dX10_due_64 (fun h18 H locs P hF => ?_)
            obtain ⟨v19, ev19, hF⟩ := bl_o hF
            refine lv_iinc (pc := 67) (k := 2) (v := v19) hx hb dX10_due_67 hl rfl ev19 (by decide) rfl (fun ls hl => ?_)
            replace hl : lv_has ls 3 [(2, .int v19), (0, .ref (B + a0)), (1, .int vp1)] := hl
            refine lv_goto (pc := 70) (tgt := 44) hx hb dX10_due_70 (by decide) ?_
            exact ih _ _ _ _ _ P (lv_sub hl [1, 2, 0] rfl) (hI12 _ (Option.some.inj hF).symm)
      exact hL12 _ _ _ _ _ _ P (lv_sub hl [1, 2, 0] rfl) hLp12
    have hL4 : ∀ (n : Nat) (v7 : Int32) (h8 : Hp) (H : Heap) (locs : List Loc) (ls : Array Slot), Pic G B h8 s H locs → lv_has ls 3 [(0, .ref (B + a0)), (1, .int vp1), (2, .int v7)] → loopF (fun x => F_X10_due_L22 a0 vp1 x.1 x.2) n (v7, h8) = some r4 → W p l e (rmM 19 920 0 0) s m args below meth c H locs 0 0 Q (F0 m 22 ls []) := by
      intro n
      induction n with
      | zero => intro v7 h8 H locs ls P hl hq; cases hq
      | succ n ih =>
        intro v7 h8 H locs ls P hl hq
        obtain ⟨z4, hS4, hI4, hR4⟩ := loop_some hq
        have hF : F_X10_due_L22 a0 vp1 v7 h8 = some z4 := hS4
        unfold F_X10_due_L22 at hF
        refine lv_iload_n (pc := 22) hx hb dX10_due_22 rfl (lv_at hl 2 rfl) ?_
        refine lv_bipush (pc := 23) (v := 12) hx hb dX10_due_23 (by decide) ?_
        refine lv_icmp_ge (pc := 25) (tgt := 42) hx hb dX10_due_25 (by decide) (fun hc => ?_) (fun hc => ?_)
        · rw [if_pos hc] at hF
          exact hX4 _ _ _ _ P (lv_sub hl [0, 1] rfl) (hR4 _ (Option.some.inj hF).symm)
        · rw [if_neg hc] at hF
          refine lv_aload_n (pc := 28) hx hb dX10_due_28 rfl (lv_at hl 0 rfl) ?_
          refine lv_iload_n (pc := 29) hx hb dX10_due_29 rfl (lv_at hl 2 rfl) ?_
          refine lv_bipush (pc := 30) (v := 24) hx hb dX10_due_30 (by decide) ?_
          refine lv_iconst (pc := 32) (v := 0) hx hb dX10_due_32 (by decide) ?_
          refine r_cVv (pc := 33) (As := [.int v7, .int 24, .int 0]) (rest := []) CX P hl.1 hF kv_X10_95 (fun h1 q => c_X10_lays l G B _ _ _ _ _ _ q) rfl rfl ⟨Nat.le_of_ble_eq_true rfl, Nat.le_of_ble_eq_true rfl⟩ (Nat.le_of_ble_eq_true rfl) ⟨Nat.le_of_ble_eq_true rfl, Nat.le_of_ble_eq_true rfl⟩ dX10_due_33 (fun h9 H locs P hF => ?_)
          obtain ⟨v10, ev10, hF⟩ := bl_o hF
          refine lv_iinc (pc := 36) (k := 2) (v := v10) hx hb dX10_due_36 hl rfl ev10 (by decide) rfl (fun ls hl => ?_)
          replace hl : lv_has ls 3 [(2, .int v10), (0, .ref (B + a0)), (1, .int vp1)] := hl
          refine lv_goto (pc := 39) (tgt := 22) hx hb dX10_due_39 (by decide) ?_
          exact ih _ _ _ _ _ P (lv_sub hl [1, 2, 0] rfl) (hI4 _ (Option.some.inj hF).symm)
    exact hL4 _ _ _ _ _ _ P (lv_sub hl [1, 2, 0] rfl) hLp4
  · rw [if_pos hc] at hF
    refine lv_bipush (pc := 13) (v := (-2)) hx hb dX10_due_13 (by decide) ?_
    cases hF
    exact hret _ _ _ _ P rfl dX10_due_15
def F_X10_isIdle_L2 (a2 : Nat) (v3 : Int32) (h4 : Hp) : Option ((Int32 × Hp) ⊕ ((Int32 × Hp) ⊕ (Hp))) :=
if 16 ≤ v3 then (
some (.inr (.inr h4))) else (
(cO h4 a2 10 (F_X10_isProcess h4 a2 v3)).bind fun v5 =>
if v5 = 0 then (
bl (v3 + 1) fun v6 =>
some (.inl (v6, h4))) else (
(cO h4 a2 10 (F_X10_ofProcess h4 a2 v3 6 0)).bind (un fun v7 h8 =>
if v7 ≤ 0 then (
bl (v3 + 1) fun v9 =>
some (.inl (v9, h8))) else (
some (.inr (.inl (0, h8)))))))
def F_X10_isIdle (h : Hp) (a0 : Nat) : Option (Int32 × Hp) :=
(loopF (fun x => F_X10_isIdle_L2 a0 x.1 x.2) 6000 (0, h)).bind (sE (fun x => some x) (fun h10 =>
some (1, h10)))
set_option maxRecDepth 100000 in
set_option maxHeartbeats 4000000 in
theorem c_X10_isIdle (l : Launch) (G : GG) (B : Nat) (h : Hp) (a0 : Nat) (r0 : Int32) (hr : Hp) (hF : F_X10_isIdle h a0 = some (r0, hr)) : CI l yX10_isIdle cX10_isIdle 2 .boolean 2 46 0 0 G B h [.ref (B + a0)] r0 hr := by
  refine ent_i rfl (Nat.le_of_ble_eq_true rfl) ?_
  intro p e s m args below meth c ls Q CX hnm hret P hl
  have CX : Cxt p m c cX10_isIdle 2 s args RX10 G B := CX
  obtain ⟨⟨hx, hb, hml, hown, hts⟩, -, -⟩ := id CX
  replace hl : lv_has ls 2 [(0, .ref (B + a0))] := hl
  generalize s.heap = H at P ⊢
  generalize ([] : List Loc) = locs at P ⊢
  unfold F_X10_isIdle at hF
  refine lv_iconst (pc := 0) (v := 0) hx hb dX10_isIdle_0 (by decide) ?_
  refine lv_istore_n (pc := 1) hx hb dX10_isIdle_1 rfl hl (by decide) rfl (fun ls hl => ?_)
  replace hl : lv_has ls 2 [(1, .int 0), (0, .ref (B + a0))] := hl
  obtain ⟨r1, hLp1, hK1⟩ := bd_some hF
  have hX1 : ∀ (h10 : Hp) (H : Heap) (locs : List Loc) (ls : Array Slot), Pic G B h10 s H locs → lv_has ls 2 [] → .inr h10 = r1 → W p l e (rmM 2 46 0 0) s m args below meth c H locs 0 0 Q (F0 m 35 ls []) := by
    intro h10 H locs ls P hl er
    subst er
    have hF := sE_ri hK1
    refine lv_iconst (pc := 35) (v := 1) hx hb dX10_isIdle_35 (by decide) ?_
    cases hF
    exact hret _ _ _ _ P rfl dX10_isIdle_36
  have hL1 : ∀ (n : Nat) (v3 : Int32) (h4 : Hp) (H : Heap) (locs : List Loc) (ls : Array Slot), Pic G B h4 s H locs → lv_has ls 2 [(0, .ref (B + a0)), (1, .int v3)] → loopF (fun x => F_X10_isIdle_L2 a0 x.1 x.2) n (v3, h4) = some r1 → W p l e (rmM 2 46 0 0) s m args below meth c H locs 0 0 Q (F0 m 2 ls []) := by
    intro n
    induction n with
    | zero => intro v3 h4 H locs ls P hl hq; cases hq
    | succ n ih =>
      intro v3 h4 H locs ls P hl hq
      obtain ⟨z1, hS1, hI1, hR1⟩ := loop_some hq
      have hF : F_X10_isIdle_L2 a0 v3 h4 = some z1 := hS1
      unfold F_X10_isIdle_L2 at hF
      refine lv_iload_n (pc := 2) hx hb dX10_isIdle_2 rfl (lv_at hl 1 rfl) ?_
      refine lv_bipush (pc := 3) (v := 16) hx hb dX10_isIdle_3 (by decide) ?_
      refine lv_icmp_ge (pc := 5) (tgt := 35) hx hb dX10_isIdle_5 (by decide) (fun hc => ?_) (fun hc => ?_)
      · rw [if_pos hc] at hF
        exact hX1 _ _ _ _ P (lv_sub hl [] rfl) (hR1 _ (Option.some.inj hF).symm)
      · rw [if_neg hc] at hF
        refine lv_aload_n (pc := 8) hx hb dX10_isIdle_8 rfl (lv_at hl 0 rfl) ?_
        refine lv_iload_n (pc := 9) hx hb dX10_isIdle_9 rfl (lv_at hl 1 rfl) ?_
        refine r_cVp (pc := 10) (As := [.int v3]) (rest := []) CX P hl.1 hF kv_X10_117 (fun r q => c_X10_isProcess l G B _ _ _ _ q) rfl rfl ⟨Nat.le_of_ble_eq_true rfl, Nat.le_of_ble_eq_true rfl⟩ (Nat.le_of_ble_eq_true rfl) ⟨Nat.le_of_ble_eq_true rfl, Nat.le_of_ble_eq_true rfl⟩ dX10_isIdle_10 (fun v5 H locs P hF => ?_)
        refine lv_if_eq (pc := 13) (tgt := 29) hx hb dX10_isIdle_13 (by decide) (fun hc => ?_) (fun hc => ?_)
        · rw [if_pos hc] at hF
          obtain ⟨v6, ev6, hF⟩ := bl_o hF
          refine lv_iinc (pc := 29) (k := 1) (v := v6) hx hb dX10_isIdle_29 hl rfl ev6 (by decide) rfl (fun ls hl => ?_)
          replace hl : lv_has ls 2 [(1, .int v6), (0, .ref (B + a0))] := hl
          refine lv_goto (pc := 32) (tgt := 2) hx hb dX10_isIdle_32 (by decide) ?_
          exact ih _ _ _ _ _ P (lv_sub hl [1, 0] rfl) (hI1 _ (Option.some.inj hF).symm)
        · rw [if_neg hc] at hF
          refine lv_aload_n (pc := 16) hx hb dX10_isIdle_16 rfl (lv_at hl 0 rfl) ?_
          refine lv_iload_n (pc := 17) hx hb dX10_isIdle_17 rfl (lv_at hl 1 rfl) ?_
          refine lv_bipush (pc := 18) (v := 6) hx hb dX10_isIdle_18 (by decide) ?_
          refine lv_iconst (pc := 20) (v := 0) hx hb dX10_isIdle_20 (by decide) ?_
          refine r_cVi (pc := 21) (As := [.int v3, .int 6, .int 0]) (rest := []) CX P hl.1 hF kv_X10_114 (fun r h1 q => c_X10_ofProcess l G B _ _ _ _ _ _ _ q) rfl rfl ⟨Nat.le_of_ble_eq_true rfl, Nat.le_of_ble_eq_true rfl⟩ (Nat.le_of_ble_eq_true rfl) ⟨Nat.le_of_ble_eq_true rfl, Nat.le_of_ble_eq_true rfl⟩ dX10_isIdle_21 (fun v7 h8 H locs P hF => ?_)
          replace hF := un_i hF
          refine lv_if_le (pc := 24) (tgt := 29) hx hb dX10_isIdle_24 (by decide) (fun hc => ?_) (fun hc => ?_)
          · rw [if_pos hc] at hF
            obtain ⟨v9, ev9, hF⟩ := bl_o hF
            refine lv_iinc (pc := 29) (k := 1) (v := v9) hx hb dX10_isIdle_29 hl rfl ev9 (by decide) rfl (fun ls hl => ?_)
            replace hl : lv_has ls 2 [(1, .int v9), (0, .ref (B + a0))] := hl
            refine lv_goto (pc := 32) (tgt := 2) hx hb dX10_isIdle_32 (by decide) ?_
            exact ih _ _ _ _ _ P (lv_sub hl [1, 0] rfl) (hI1 _ (Option.some.inj hF).symm)
          · rw [if_neg hc] at hF
            refine lv_iconst (pc := 27) (v := 0) hx hb dX10_isIdle_27 (by decide) ?_
            have hE := hR1 _ (Option.some.inj hF).symm
            subst hE
            replace hF := sE_li hK1
            cases hF
            exact hret _ _ _ _ P rfl dX10_isIdle_28
  exact hL1 _ _ _ _ _ _ P (lv_sub hl [1, 0] rfl) hLp1
def F_X10_idle_L11 (a4 : Nat) (v5 : Int32) (h6 : Hp) : Option ((Int32 × Hp) ⊕ (Int32 × Hp)) :=
if 100 ≤ v5 then (
some (.inr (v5, h6))) else (
(cO h6 a4 10 (F_X10_isIdle h6 a4)).bind (un fun v7 h8 =>
if v7 = 0 then (
(cO h8 a4 10 (F_X10_ticks h8 a4)).bind fun h9 =>
bl (v5 + 1) fun v10 =>
some (.inl (v10, h9))) else (
some (.inr (v5, h8)))))
def F_X10_idle (h : Hp) (a0 : Nat) : Option (Int32 × Hp) :=
(pI h a0 10 0 0).bind fun h1 =>
(cO h1 a0 10 (F_X10_opensPaper h1 a0)).bind fun h2 =>
(loopF (fun x => F_X10_idle_L11 a0 x.1 x.2) 6000 (0, h2)).bind fun q3 =>
bl q3.1 fun v11 =>
bl q3.2 fun h12 =>
(cO h12 a0 10 (F_X10_isIdle h12 a0)).bind (un fun v13 h14 =>
(cO h14 a0 10 (F_X10_closesPaper h14 a0)).bind fun h15 =>
if v13 = 0 then (
some ((-1), h15)) else (
some (v11, h15)))
set_option maxRecDepth 100000 in
set_option maxHeartbeats 4000000 in
theorem c_X10_idle (l : Launch) (G : GG) (B : Nat) (h : Hp) (a0 : Nat) (r0 : Int32) (hr : Hp) (hF : F_X10_idle h a0 = some (r0, hr)) : CI l yX10_idle cX10_idle 3 .int 21 965 0 0 G B h [.ref (B + a0)] r0 hr := by
  refine ent_i rfl (Nat.le_of_ble_eq_true rfl) ?_
  intro p e s m args below meth c ls Q CX hnm hret P hl
  have CX : Cxt p m c cX10_idle 3 s args RX10 G B := CX
  obtain ⟨⟨hx, hb, hml, hown, hts⟩, -, -⟩ := id CX
  replace hl : lv_has ls 3 [(0, .ref (B + a0))] := hl
  generalize s.heap = H at P ⊢
  generalize ([] : List Loc) = locs at P ⊢
  unfold F_X10_idle at hF
  refine lv_aload_n (pc := 0) hx hb dX10_idle_0 rfl (lv_at hl 0 rfl) ?_
  refine lv_iconst (pc := 1) (v := 0) hx hb dX10_idle_1 (by decide) ?_
  refine r_pI (pc := 2) CX P hF fl_X10_1 dX10_idle_2 (fun h1 H locs P hF => ?_)
  refine lv_aload_n (pc := 5) hx hb dX10_idle_5 rfl (lv_at hl 0 rfl) ?_
  refine r_cVv (pc := 6) (As := []) (rest := []) CX P hl.1 hF kv_X10_321 (fun h1 q => c_X10_opensPaper l G B _ _ _ q) rfl rfl ⟨Nat.le_of_ble_eq_true rfl, Nat.le_of_ble_eq_true rfl⟩ (Nat.le_of_ble_eq_true rfl) ⟨Nat.le_of_ble_eq_true rfl, Nat.le_of_ble_eq_true rfl⟩ dX10_idle_6 (fun h2 H locs P hF => ?_)
  refine lv_iconst (pc := 9) (v := 0) hx hb dX10_idle_9 (by decide) ?_
  refine lv_istore_n (pc := 10) hx hb dX10_idle_10 rfl hl (by decide) rfl (fun ls hl => ?_)
  replace hl : lv_has ls 3 [(1, .int 0), (0, .ref (B + a0))] := hl
  obtain ⟨r3, hLp3, hK3⟩ := bd_some hF
  have hX3 : ∀ (v11 : Int32) (h12 : Hp) (H : Heap) (locs : List Loc) (ls : Array Slot), Pic G B h12 s H locs → lv_has ls 3 [(0, .ref (B + a0)), (1, .int v11)] → (v11, h12) = r3 → W p l e (rmM 21 965 0 0) s m args below meth c H locs 0 0 Q (F0 m 34 ls []) := by
    intro v11 h12 H locs ls P hl er
    subst er
    have hF := hK3
    replace hF := bl_i hF
    replace hF := bl_i hF
    try dsimp only at hF
    refine lv_aload_n (pc := 34) hx hb dX10_idle_34 rfl (lv_at hl 0 rfl) ?_
    refine r_cVi (pc := 35) (As := []) (rest := []) CX P hl.1 hF kv_X10_327 (fun r h1 q => c_X10_isIdle l G B _ _ _ _ q) rfl rfl ⟨Nat.le_of_ble_eq_true rfl, Nat.le_of_ble_eq_true rfl⟩ (Nat.le_of_ble_eq_true rfl) ⟨Nat.le_of_ble_eq_true rfl, Nat.le_of_ble_eq_true rfl⟩ dX10_idle_35 (fun v13 h14 H locs P hF => ?_)
    replace hF := un_i hF
    refine lv_istore_n (pc := 38) hx hb dX10_idle_38 rfl hl (by decide) rfl (fun ls hl => ?_)
    replace hl : lv_has ls 3 [(2, .int v13), (0, .ref (B + a0)), (1, .int v11)] := hl
    refine lv_aload_n (pc := 39) hx hb dX10_idle_39 rfl (lv_at hl 1 rfl) ?_
    refine r_cVv (pc := 40) (As := []) (rest := []) CX P hl.1 hF kv_X10_324 (fun h1 q => c_X10_closesPaper l G B _ _ _ q) rfl rfl ⟨Nat.le_of_ble_eq_true rfl, Nat.le_of_ble_eq_true rfl⟩ (Nat.le_of_ble_eq_true rfl) ⟨Nat.le_of_ble_eq_true rfl, Nat.le_of_ble_eq_true rfl⟩ dX10_idle_40 (fun h15 H locs P hF => ?_)
    refine lv_iload_n (pc := 43) hx hb dX10_idle_43 rfl (lv_at hl 0 rfl) ?_
    refine lv_if_eq (pc := 44) (tgt := 51) hx hb dX10_idle_44 (by decide) (fun hc => ?_) (fun hc => ?_)
    · rw [if_pos hc] at hF
      refine lv_iconst (pc := 51) (v := (-1)) hx hb dX10_idle_51 (by decide) ?_
      cases hF
      exact hret _ _ _ _ P rfl dX10_idle_52
    · rw [if_neg hc] at hF
      refine lv_iload_n (pc := 47) hx hb dX10_idle_47 rfl (lv_at hl 2 rfl) ?_
      refine lv_goto (pc := 48) (tgt := 52) hx hb dX10_idle_48 (by decide) ?_
      cases hF
      exact hret _ _ _ _ P rfl dX10_idle_52
  have hL3 : ∀ (n : Nat) (v5 : Int32) (h6 : Hp) (H : Heap) (locs : List Loc) (ls : Array Slot), Pic G B h6 s H locs → lv_has ls 3 [(0, .ref (B + a0)), (1, .int v5)] → loopF (fun x => F_X10_idle_L11 a0 x.1 x.2) n (v5, h6) = some r3 → W p l e (rmM 21 965 0 0) s m args below meth c H locs 0 0 Q (F0 m 11 ls []) := by
    intro n
    induction n with
    | zero => intro v5 h6 H locs ls P hl hq; cases hq
    | succ n ih =>
      intro v5 h6 H locs ls P hl hq
      obtain ⟨z3, hS3, hI3, hR3⟩ := loop_some hq
      have hF : F_X10_idle_L11 a0 v5 h6 = some z3 := hS3
      unfold F_X10_idle_L11 at hF
      refine lv_iload_n (pc := 11) hx hb dX10_idle_11 rfl (lv_at hl 1 rfl) ?_
      refine lv_bipush (pc := 12) (v := 100) hx hb dX10_idle_12 (by decide) ?_
      refine lv_icmp_ge (pc := 14) (tgt := 34) hx hb dX10_idle_14 (by decide) (fun hc => ?_) (fun hc => ?_)
      · rw [if_pos hc] at hF
        exact hX3 _ _ _ _ _ P (lv_sub hl [0, 1] rfl) (hR3 _ (Option.some.inj hF).symm)
      · rw [if_neg hc] at hF
        refine lv_aload_n (pc := 17) hx hb dX10_idle_17 rfl (lv_at hl 0 rfl) ?_
        refine r_cVi (pc := 18) (As := []) (rest := []) CX P hl.1 hF kv_X10_327 (fun r h1 q => c_X10_isIdle l G B _ _ _ _ q) rfl rfl ⟨Nat.le_of_ble_eq_true rfl, Nat.le_of_ble_eq_true rfl⟩ (Nat.le_of_ble_eq_true rfl) ⟨Nat.le_of_ble_eq_true rfl, Nat.le_of_ble_eq_true rfl⟩ dX10_idle_18 (fun v7 h8 H locs P hF => ?_)
        replace hF := un_i hF
        refine lv_if_ne (pc := 21) (tgt := 34) hx hb dX10_idle_21 (by decide) (fun hc => ?_) (fun hc => ?_)
        · rw [if_neg hc] at hF
          exact hX3 _ _ _ _ _ P (lv_sub hl [0, 1] rfl) (hR3 _ (Option.some.inj hF).symm)
        · rw [if_pos hc] at hF
          refine lv_aload_n (pc := 24) hx hb dX10_idle_24 rfl (lv_at hl 0 rfl) ?_
          refine r_cVv (pc := 25) (As := []) (rest := []) CX P hl.1 hF kv_X10_307 (fun h1 q => c_X10_ticks l G B _ _ _ q) rfl rfl ⟨Nat.le_of_ble_eq_true rfl, Nat.le_of_ble_eq_true rfl⟩ (Nat.le_of_ble_eq_true rfl) ⟨Nat.le_of_ble_eq_true rfl, Nat.le_of_ble_eq_true rfl⟩ dX10_idle_25 (fun h9 H locs P hF => ?_)
          obtain ⟨v10, ev10, hF⟩ := bl_o hF
          refine lv_iinc (pc := 28) (k := 1) (v := v10) hx hb dX10_idle_28 hl rfl ev10 (by decide) rfl (fun ls hl => ?_)
          replace hl : lv_has ls 3 [(1, .int v10), (0, .ref (B + a0))] := hl
          refine lv_goto (pc := 31) (tgt := 11) hx hb dX10_idle_31 (by decide) ?_
          exact ih _ _ _ _ _ P (lv_sub hl [1, 0] rfl) (hI3 _ (Option.some.inj hF).symm)
  exact hL3 _ _ _ _ _ _ P (lv_sub hl [1, 0] rfl) hLp3
def F_X10_weigh_L41 (a5 : Nat) (v6 : Int32) (v7 : Int32) (v8 : Int32) (v9 : Int32) (h10 : Hp) : Option ((Int32 × Int32 × Hp) ⊕ (Int32 × Hp)) :=
if v9 ≤ 0 then (
some (.inr (v8, h10))) else (
(cO h10 a5 10 (F_X10_opensPaper h10 a5)).bind fun h11 =>
(cO h11 a5 10 (F_X10_lays h11 a5 v6 6 v9)).bind fun h12 =>
(cO h12 a5 10 (F_X10_laysUnits h12 a5)).bind fun h13 =>
(cO h13 a5 10 (F_X10_closesPaper h13 a5)).bind fun h14 =>
(gR h14 a5 10 18).bind fun a15 =>
(aI h14 a15 v6).bind fun v16 =>
if v16 < v7 then (
bl (v9 + (-1)) fun v17 =>
some (.inl (v8, v17, h14))) else (
bl (v9 + (-1)) fun v18 =>
some (.inl (v9, v18, h14))))
def F_X10_weigh (h : Hp) (a0 : Nat) (vp1 : Int32) (vp2 : Int32) : Option (Int32 × Hp) :=
(pI h a0 10 0 0).bind fun h1 =>
(cO h1 a0 10 (F_X10_isGroup h1 a0 vp1)).bind fun v2 =>
if v2 = 0 then (
some ((-2), h1)) else (
if vp1 = 0 then (
some ((-2), h1)) else (
(F_X10_within h1 (Int32.toInt64 vp2) 1 99).bind fun v3 =>
if v3 = 0 then (
some ((-3), h1)) else (
(loopF (fun x => F_X10_weigh_L41 a0 vp1 vp2 x.1 x.2.1 x.2.2) 6000 ((-1), 9, h1)).bind fun q4 =>
bl q4.1 fun v19 =>
bl q4.2 fun h20 =>
some (v19, h20))))
set_option maxRecDepth 100000 in
set_option maxHeartbeats 4000000 in
theorem c_X10_weigh (l : Launch) (G : GG) (B : Nat) (h : Hp) (a0 : Nat) (vp1 : Int32) (vp2 : Int32) (r0 : Int32) (hr : Hp) (hF : F_X10_weigh h a0 vp1 vp2 = some (r0, hr)) : CI l yX10_weigh cX10_weigh 5 .int 19 920 0 0 G B h [.ref (B + a0), .int vp1, .int vp2] r0 hr := by
  refine ent_i rfl (Nat.le_of_ble_eq_true rfl) ?_
  intro p e s m args below meth c ls Q CX hnm hret P hl
  have CX : Cxt p m c cX10_weigh 5 s args RX10 G B := CX
  obtain ⟨⟨hx, hb, hml, hown, hts⟩, -, -⟩ := id CX
  replace hl : lv_has ls 5 [(0, .ref (B + a0)), (1, .int vp1), (2, .int vp2)] := hl
  generalize s.heap = H at P ⊢
  generalize ([] : List Loc) = locs at P ⊢
  unfold F_X10_weigh at hF
  refine lv_aload_n (pc := 0) hx hb dX10_weigh_0 rfl (lv_at hl 0 rfl) ?_
  refine lv_iconst (pc := 1) (v := 0) hx hb dX10_weigh_1 (by decide) ?_
  refine r_pI (pc := 2) CX P hF fl_X10_1 dX10_weigh_2 (fun h1 H locs P hF => ?_)
  refine lv_aload_n (pc := 5) hx hb dX10_weigh_5 rfl (lv_at hl 0 rfl) ?_
  refine lv_iload_n (pc := 6) hx hb dX10_weigh_6 rfl (lv_at hl 1 rfl) ?_
  refine r_cVp (pc := 7) (As := [.int vp1]) (rest := []) CX P hl.1 hF kv_X10_107 (fun r q => c_X10_isGroup l G B _ _ _ _ q) rfl rfl ⟨Nat.le_of_ble_eq_true rfl, Nat.le_of_ble_eq_true rfl⟩ (Nat.le_of_ble_eq_true rfl) ⟨Nat.le_of_ble_eq_true rfl, Nat.le_of_ble_eq_true rfl⟩ dX10_weigh_7 (fun v2 H locs P hF => ?_)
  refine lv_if_eq (pc := 10) (tgt := 17) hx hb dX10_weigh_10 (by decide) (fun hc => ?_) (fun hc => ?_)
  · rw [if_pos hc] at hF
    refine lv_bipush (pc := 17) (v := (-2)) hx hb dX10_weigh_17 (by decide) ?_
    cases hF
    exact hret _ _ _ _ P rfl dX10_weigh_19
  · rw [if_neg hc] at hF
    refine lv_iload_n (pc := 13) hx hb dX10_weigh_13 rfl (lv_at hl 1 rfl) ?_
    refine lv_if_ne (pc := 14) (tgt := 20) hx hb dX10_weigh_14 (by decide) (fun hc => ?_) (fun hc => ?_)
    · rw [if_neg hc] at hF
      refine lv_iload_n (pc := 20) hx hb dX10_weigh_20 rfl (lv_at hl 2 rfl) ?_
      refine lv_i2l (pc := 21) hx hb dX10_weigh_21 rfl ?_
      refine lv_lconst (pc := 22) (v := 1) hx hb dX10_weigh_22 (by decide) ?_
      refine lv_ldc2 (pc := 23) (v := 99) hx hb hown (hts _ tw_1213) dX10_weigh_23 ?_
      refine r_cSp (pc := 26) (As := [.long (Int32.toInt64 vp2), .long 1, .long 99]) (rest := []) CX P hl.1 hF ks_X10_85 (fun r q => c_X10_within l G B _ _ _ _ _ q) rfl rfl ⟨Nat.le_of_ble_eq_true rfl, Nat.le_of_ble_eq_true rfl⟩ (Nat.le_of_ble_eq_true rfl) ⟨Nat.le_of_ble_eq_true rfl, Nat.le_of_ble_eq_true rfl⟩ dX10_weigh_26 (fun v3 H locs P hF => ?_)
      refine lv_if_ne (pc := 29) (tgt := 35) hx hb dX10_weigh_29 (by decide) (fun hc => ?_) (fun hc => ?_)
      · rw [if_neg hc] at hF
        refine lv_iconst (pc := 35) (v := (-1)) hx hb dX10_weigh_35 (by decide) ?_
        refine lv_istore_n (pc := 36) hx hb dX10_weigh_36 rfl hl (by decide) rfl (fun ls hl => ?_)
        replace hl : lv_has ls 5 [(3, .int (-1)), (0, .ref (B + a0)), (1, .int vp1), (2, .int vp2)] := hl
        refine lv_bipush (pc := 37) (v := 9) hx hb dX10_weigh_37 (by decide) ?_
        refine lv_istore (pc := 39) hx hb dX10_weigh_39 hl (by decide) rfl (fun ls hl => ?_)
        replace hl : lv_has ls 5 [(4, .int 9), (3, .int (-1)), (0, .ref (B + a0)), (1, .int vp1), (2, .int vp2)] := hl
        obtain ⟨r4, hLp4, hK4⟩ := bd_some hF
        have hX4 : ∀ (v19 : Int32) (h20 : Hp) (H : Heap) (locs : List Loc) (ls : Array Slot), Pic G B h20 s H locs → lv_has ls 5 [(3, .int v19)] → (v19, h20) = r4 → W p l e (rmM 19 920 0 0) s m args below meth c H locs 0 0 Q (F0 m 90 ls []) := by
          intro v19 h20 H locs ls P hl er
          subst er
          have hF := hK4
          replace hF := bl_i hF
          replace hF := bl_i hF
          try dsimp only at hF
          refine lv_iload_n (pc := 90) hx hb dX10_weigh_90 rfl (lv_at hl 0 rfl) ?_
          cases hF
          exact hret _ _ _ _ P rfl dX10_weigh_91
        have hL4 : ∀ (n : Nat) (v8 : Int32) (v9 : Int32) (h10 : Hp) (H : Heap) (locs : List Loc) (ls : Array Slot), Pic G B h10 s H locs → lv_has ls 5 [(0, .ref (B + a0)), (1, .int vp1), (2, .int vp2), (3, .int v8), (4, .int v9)] → loopF (fun x => F_X10_weigh_L41 a0 vp1 vp2 x.1 x.2.1 x.2.2) n (v8, v9, h10) = some r4 → W p l e (rmM 19 920 0 0) s m args below meth c H locs 0 0 Q (F0 m 41 ls []) := by
          intro n
          induction n with
          | zero => intro v8 v9 h10 H locs ls P hl hq; cases hq
          | succ n ih =>
            intro v8 v9 h10 H locs ls P hl hq
            obtain ⟨z4, hS4, hI4, hR4⟩ := loop_some hq
            have hF : F_X10_weigh_L41 a0 vp1 vp2 v8 v9 h10 = some z4 := hS4
            unfold F_X10_weigh_L41 at hF
            refine lv_iload (pc := 41) hx hb dX10_weigh_41 (lv_at hl 4 rfl) ?_
            refine lv_if_le (pc := 43) (tgt := 90) hx hb dX10_weigh_43 (by decide) (fun hc => ?_) (fun hc => ?_)
            · rw [if_pos hc] at hF
              exact hX4 _ _ _ _ _ P (lv_sub hl [3] rfl) (hR4 _ (Option.some.inj hF).symm)
            · rw [if_neg hc] at hF
              refine lv_aload_n (pc := 46) hx hb dX10_weigh_46 rfl (lv_at hl 0 rfl) ?_
              refine r_cVv (pc := 47) (As := []) (rest := []) CX P hl.1 hF kv_X10_321 (fun h1 q => c_X10_opensPaper l G B _ _ _ q) rfl rfl ⟨Nat.le_of_ble_eq_true rfl, Nat.le_of_ble_eq_true rfl⟩ (Nat.le_of_ble_eq_true rfl) ⟨Nat.le_of_ble_eq_true rfl, Nat.le_of_ble_eq_true rfl⟩ dX10_weigh_47 (fun h11 H locs P hF => ?_)
              refine lv_aload_n (pc := 50) hx hb dX10_weigh_50 rfl (lv_at hl 0 rfl) ?_
              refine lv_iload_n (pc := 51) hx hb dX10_weigh_51 rfl (lv_at hl 1 rfl) ?_
              refine lv_bipush (pc := 52) (v := 6) hx hb dX10_weigh_52 (by decide) ?_
              refine lv_iload (pc := 54) hx hb dX10_weigh_54 (lv_at hl 4 rfl) ?_
              refine r_cVv (pc := 56) (As := [.int vp1, .int 6, .int v9]) (rest := []) CX P hl.1 hF kv_X10_95 (fun h1 q => c_X10_lays l G B _ _ _ _ _ _ q) rfl rfl ⟨Nat.le_of_ble_eq_true rfl, Nat.le_of_ble_eq_true rfl⟩ (Nat.le_of_ble_eq_true rfl) ⟨Nat.le_of_ble_eq_true rfl, Nat.le_of_ble_eq_true rfl⟩ dX10_weigh_56 (fun h12 H locs P hF => ?_)
              refine lv_aload_n (pc := 59) hx hb dX10_weigh_59 rfl (lv_at hl 0 rfl) ?_
              refine r_cVv (pc := 60) (As := []) (rest := []) CX P hl.1 hF kv_X10_276 (fun h1 q => c_X10_laysUnits l G B _ _ _ q) rfl rfl ⟨Nat.le_of_ble_eq_true rfl, Nat.le_of_ble_eq_true rfl⟩ (Nat.le_of_ble_eq_true rfl) ⟨Nat.le_of_ble_eq_true rfl, Nat.le_of_ble_eq_true rfl⟩ dX10_weigh_60 (fun h13 H locs P hF => ?_)
              refine lv_aload_n (pc := 63) hx hb dX10_weigh_63 rfl (lv_at hl 0 rfl) ?_
              refine r_cVv (pc := 64) (As := []) (rest := []) CX P hl.1 hF kv_X10_324 (fun h1 q => c_X10_closesPaper l G B _ _ _ q) rfl rfl ⟨Nat.le_of_ble_eq_true rfl, Nat.le_of_ble_eq_true rfl⟩ (Nat.le_of_ble_eq_true rfl) ⟨Nat.le_of_ble_eq_true rfl, Nat.le_of_ble_eq_true rfl⟩ dX10_weigh_64 (fun h14 H locs P hF => ?_)
              refine lv_aload_n (pc := 67) hx hb dX10_weigh_67 rfl (lv_at hl 0 rfl) ?_
              refine r_gR (pc := 68) CX P hF fl_X10_63 dX10_weigh_68 (fun a15 hF => ?_)
              refine lv_iload_n (pc := 71) hx hb dX10_weigh_71 rfl (lv_at hl 1 rfl) ?_
              refine r_aI (pc := 72) CX P hF dX10_weigh_72 (fun v16 hF => ?_)
              refine lv_iload_n (pc := 73) hx hb dX10_weigh_73 rfl (lv_at hl 2 rfl) ?_
              refine lv_icmp_lt (pc := 74) (tgt := 82) hx hb dX10_weigh_74 (by decide) (fun hc => ?_) (fun hc => ?_)
              · rw [if_pos hc] at hF
                refine lv_iload_n (pc := 82) hx hb dX10_weigh_82 rfl (lv_at hl 3 rfl) ?_
                refine lv_istore_n (pc := 83) hx hb dX10_weigh_83 rfl hl (by decide) rfl (fun ls hl => ?_)
                replace hl : lv_has ls 5 [(3, .int v8), (0, .ref (B + a0)), (1, .int vp1), (2, .int vp2), (4, .int v9)] := hl
                obtain ⟨v17, ev17, hF⟩ := bl_o hF
                refine lv_iinc (pc := 84) (k := 4) (v := v17) hx hb dX10_weigh_84 hl rfl ev17 (by decide) rfl (fun ls hl => ?_)
                replace hl : lv_has ls 5 [(4, .int v17), (3, .int v8), (0, .ref (B + a0)), (1, .int vp1), (2, .int vp2)] := hl
                refine lv_goto (pc := 87) (tgt := 41) hx hb dX10_weigh_87 (by decide) ?_
                exact ih _ _ _ _ _ _ P (lv_sub hl [2, 3, 4, 1, 0] rfl) (hI4 _ (Option.some.inj hF).symm)
              · rw [if_neg hc] at hF
                refine lv_iload (pc := 77) hx hb dX10_weigh_77 (lv_at hl 4 rfl) ?_
                refine lv_goto (pc := 79) (tgt := 83) hx hb dX10_weigh_79 (by decide) ?_
                refine lv_istore_n (pc := 83) hx hb dX10_weigh_83 rfl hl (by decide) rfl (fun ls hl => ?_)
                replace hl : lv_has ls 5 [(3, .int v9), (0, .ref (B + a0)), (1, .int vp1), (2, .int vp2), (4, .int v9)] := hl
                obtain ⟨v18, ev18, hF⟩ := bl_o hF
                refine lv_iinc (pc := 84) (k := 4) (v := v18) hx hb dX10_weigh_84 hl rfl ev18 (by decide) rfl (fun ls hl => ?_)
                replace hl : lv_has ls 5 [(4, .int v18), (3, .int v9), (0, .ref (B + a0)), (1, .int vp1), (2, .int vp2)] := hl
                refine lv_goto (pc := 87) (tgt := 41) hx hb dX10_weigh_87 (by decide) ?_
                exact ih _ _ _ _ _ _ P (lv_sub hl [2, 3, 4, 1, 0] rfl) (hI4 _ (Option.some.inj hF).symm)
        exact hL4 _ _ _ _ _ _ _ P (lv_sub hl [2, 3, 4, 1, 0] rfl) hLp4
      · rw [if_pos hc] at hF
        refine lv_bipush (pc := 32) (v := (-3)) hx hb dX10_weigh_32 (by decide) ?_
        cases hF
        exact hret _ _ _ _ P rfl dX10_weigh_34
    · rw [if_pos hc] at hF
      refine lv_bipush (pc := 17) (v := (-2)) hx hb dX10_weigh_17 (by decide) ?_
      cases hF
      exact hret _ _ _ _ P rfl dX10_weigh_19
def F_X10_fired (h : Hp) (a0 : Nat) (vp1 : Int32) (vp2 : Int32) : Option (Int32 × Hp) :=
(pI h a0 10 0 0).bind fun h1 =>
(gR h1 a0 10 1).bind fun a2 =>
(aI h1 a2 4).bind fun v3 =>
(F_X10_within h1 (Int32.toInt64 vp1) 0 (Int32.toInt64 (v3 - 1))).bind fun v4 =>
if v4 = 0 then (
some ((-2), h1)) else (
(F_X10_within h1 (Int32.toInt64 vp2) 0 1).bind fun v5 =>
if v5 = 0 then (
some ((-2), h1)) else (
(gR h1 a0 10 1).bind fun a6 =>
if vp2 = 0 then (
(aI h1 a6 ((543 + (4 * vp1)) + 3)).bind fun v8 =>
some (v8, h1)) else (
(aI h1 a6 ((543 + (4 * vp1)) + 0)).bind fun v7 =>
some (v7, h1))))
set_option maxRecDepth 100000 in
set_option maxHeartbeats 4000000 in
theorem c_X10_fired (l : Launch) (G : GG) (B : Nat) (h : Hp) (a0 : Nat) (vp1 : Int32) (vp2 : Int32) (r0 : Int32) (hr : Hp) (hF : F_X10_fired h a0 vp1 vp2 = some (r0, hr)) : CI l yX10_fired cX10_fired 3 .int 1 25 0 0 G B h [.ref (B + a0), .int vp1, .int vp2] r0 hr := by
  refine ent_i rfl (Nat.le_of_ble_eq_true rfl) ?_
  intro p e s m args below meth c ls Q CX hnm hret P hl
  have CX : Cxt p m c cX10_fired 3 s args RX10 G B := CX
  obtain ⟨⟨hx, hb, hml, hown, hts⟩, -, -⟩ := id CX
  replace hl : lv_has ls 3 [(0, .ref (B + a0)), (1, .int vp1), (2, .int vp2)] := hl
  generalize s.heap = H at P ⊢
  generalize ([] : List Loc) = locs at P ⊢
  unfold F_X10_fired at hF
  refine lv_aload_n (pc := 0) hx hb dX10_fired_0 rfl (lv_at hl 0 rfl) ?_
  refine lv_iconst (pc := 1) (v := 0) hx hb dX10_fired_1 (by decide) ?_
  refine r_pI (pc := 2) CX P hF fl_X10_1 dX10_fired_2 (fun h1 H locs P hF => ?_)
  refine lv_iload_n (pc := 5) hx hb dX10_fired_5 rfl (lv_at hl 1 rfl) ?_
  refine lv_i2l (pc := 6) hx hb dX10_fired_6 rfl ?_
  refine lv_lconst (pc := 7) (v := 0) hx hb dX10_fired_7 (by decide) ?_
  refine lv_aload_n (pc := 8) hx hb dX10_fired_8 rfl (lv_at hl 0 rfl) ?_
  refine r_gR (pc := 9) CX P hF fl_X10_13 dX10_fired_9 (fun a2 hF => ?_)
  refine lv_iconst (pc := 12) (v := 4) hx hb dX10_fired_12 (by decide) ?_
  refine r_aI (pc := 13) CX P hF dX10_fired_13 (fun v3 hF => ?_)
  refine lv_iconst (pc := 14) (v := 1) hx hb dX10_fired_14 (by decide) ?_
  refine lv_isub (pc := 15) hx hb dX10_fired_15 ?_
  refine lv_i2l (pc := 16) hx hb dX10_fired_16 rfl ?_
  refine r_cSp (pc := 17) (As := [.long (Int32.toInt64 vp1), .long 0, .long (Int32.toInt64 (v3 - 1))]) (rest := []) CX P hl.1 hF ks_X10_85 (fun r q => c_X10_within l G B _ _ _ _ _ q) rfl rfl ⟨Nat.le_of_ble_eq_true rfl, Nat.le_of_ble_eq_true rfl⟩ (Nat.le_of_ble_eq_true rfl) ⟨Nat.le_of_ble_eq_true rfl, Nat.le_of_ble_eq_true rfl⟩ dX10_fired_17 (fun v4 H locs P hF => ?_)
  refine lv_if_eq (pc := 20) (tgt := 33) hx hb dX10_fired_20 (by decide) (fun hc => ?_) (fun hc => ?_)
  · rw [if_pos hc] at hF
    refine lv_bipush (pc := 33) (v := (-2)) hx hb dX10_fired_33 (by decide) ?_
    cases hF
    exact hret _ _ _ _ P rfl dX10_fired_35
  · rw [if_neg hc] at hF
    refine lv_iload_n (pc := 23) hx hb dX10_fired_23 rfl (lv_at hl 2 rfl) ?_
    refine lv_i2l (pc := 24) hx hb dX10_fired_24 rfl ?_
    refine lv_lconst (pc := 25) (v := 0) hx hb dX10_fired_25 (by decide) ?_
    refine lv_lconst (pc := 26) (v := 1) hx hb dX10_fired_26 (by decide) ?_
    refine r_cSp (pc := 27) (As := [.long (Int32.toInt64 vp2), .long 0, .long 1]) (rest := []) CX P hl.1 hF ks_X10_85 (fun r q => c_X10_within l G B _ _ _ _ _ q) rfl rfl ⟨Nat.le_of_ble_eq_true rfl, Nat.le_of_ble_eq_true rfl⟩ (Nat.le_of_ble_eq_true rfl) ⟨Nat.le_of_ble_eq_true rfl, Nat.le_of_ble_eq_true rfl⟩ dX10_fired_27 (fun v5 H locs P hF => ?_)
    refine lv_if_ne (pc := 30) (tgt := 36) hx hb dX10_fired_30 (by decide) (fun hc => ?_) (fun hc => ?_)
    · rw [if_neg hc] at hF
      refine lv_aload_n (pc := 36) hx hb dX10_fired_36 rfl (lv_at hl 0 rfl) ?_
      refine r_gR (pc := 37) CX P hF fl_X10_13 dX10_fired_37 (fun a6 hF => ?_)
      refine lv_sipush (pc := 40) (v := 543) hx hb dX10_fired_40 (by decide) ?_
      refine lv_iconst (pc := 43) (v := 4) hx hb dX10_fired_43 (by decide) ?_
      refine lv_iload_n (pc := 44) hx hb dX10_fired_44 rfl (lv_at hl 1 rfl) ?_
      refine lv_imul (pc := 45) hx hb dX10_fired_45 ?_
      refine lv_iadd (pc := 46) hx hb dX10_fired_46 ?_
      refine lv_iload_n (pc := 47) hx hb dX10_fired_47 rfl (lv_at hl 2 rfl) ?_
      refine lv_if_ne (pc := 48) (tgt := 55) hx hb dX10_fired_48 (by decide) (fun hc => ?_) (fun hc => ?_)
      · rw [if_neg hc] at hF
        refine lv_iconst (pc := 55) (v := 0) hx hb dX10_fired_55 (by decide) ?_
        refine lv_iadd (pc := 56) hx hb dX10_fired_56 ?_
        refine r_aI (pc := 57) CX P hF dX10_fired_57 (fun v7 hF => ?_)
        cases hF
        exact hret _ _ _ _ P rfl dX10_fired_58
      · rw [if_pos hc] at hF
        refine lv_iconst (pc := 51) (v := 3) hx hb dX10_fired_51 (by decide) ?_
        refine lv_goto (pc := 52) (tgt := 56) hx hb dX10_fired_52 (by decide) ?_
        refine lv_iadd (pc := 56) hx hb dX10_fired_56 ?_
        refine r_aI (pc := 57) CX P hF dX10_fired_57 (fun v8 hF => ?_)
        cases hF
        exact hret _ _ _ _ P rfl dX10_fired_58
    · rw [if_pos hc] at hF
      refine lv_bipush (pc := 33) (v := (-2)) hx hb dX10_fired_33 (by decide) ?_
      cases hF
      exact hret _ _ _ _ P rfl dX10_fired_35
def F_X10_events (h : Hp) (a0 : Nat) (vp1 : Int32) (vp2 : Int32) : Option (Int32 × Hp) :=
(pI h a0 10 0 0).bind fun h1 =>
(cO h1 a0 10 (F_X10_isGroup h1 a0 vp1)).bind fun v2 =>
if v2 = 0 then (
some ((-2), h1)) else (
(F_X10_within h1 (Int32.toInt64 vp2) 0 3).bind fun v3 =>
if v3 = 0 then (
some ((-2), h1)) else (
(cO h1 a0 10 (F_X10_of h1 a0 vp1 (11 + vp2) 0)).bind (un fun v4 h5 =>
some (v4, h5))))
set_option maxRecDepth 100000 in
set_option maxHeartbeats 4000000 in
theorem c_X10_events (l : Launch) (G : GG) (B : Nat) (h : Hp) (a0 : Nat) (vp1 : Int32) (vp2 : Int32) (r0 : Int32) (hr : Hp) (hF : F_X10_events h a0 vp1 vp2 = some (r0, hr)) : CI l yX10_events cX10_events 3 .int 2 46 0 0 G B h [.ref (B + a0), .int vp1, .int vp2] r0 hr := by
  refine ent_i rfl (Nat.le_of_ble_eq_true rfl) ?_
  intro p e s m args below meth c ls Q CX hnm hret P hl
  have CX : Cxt p m c cX10_events 3 s args RX10 G B := CX
  obtain ⟨⟨hx, hb, hml, hown, hts⟩, -, -⟩ := id CX
  replace hl : lv_has ls 3 [(0, .ref (B + a0)), (1, .int vp1), (2, .int vp2)] := hl
  generalize s.heap = H at P ⊢
  generalize ([] : List Loc) = locs at P ⊢
  unfold F_X10_events at hF
  refine lv_aload_n (pc := 0) hx hb dX10_events_0 rfl (lv_at hl 0 rfl) ?_
  refine lv_iconst (pc := 1) (v := 0) hx hb dX10_events_1 (by decide) ?_
  refine r_pI (pc := 2) CX P hF fl_X10_1 dX10_events_2 (fun h1 H locs P hF => ?_)
  refine lv_aload_n (pc := 5) hx hb dX10_events_5 rfl (lv_at hl 0 rfl) ?_
  refine lv_iload_n (pc := 6) hx hb dX10_events_6 rfl (lv_at hl 1 rfl) ?_
  refine r_cVp (pc := 7) (As := [.int vp1]) (rest := []) CX P hl.1 hF kv_X10_107 (fun r q => c_X10_isGroup l G B _ _ _ _ q) rfl rfl ⟨Nat.le_of_ble_eq_true rfl, Nat.le_of_ble_eq_true rfl⟩ (Nat.le_of_ble_eq_true rfl) ⟨Nat.le_of_ble_eq_true rfl, Nat.le_of_ble_eq_true rfl⟩ dX10_events_7 (fun v2 H locs P hF => ?_)
  refine lv_if_eq (pc := 10) (tgt := 38) hx hb dX10_events_10 (by decide) (fun hc => ?_) (fun hc => ?_)
  · rw [if_pos hc] at hF
    refine lv_bipush (pc := 38) (v := (-2)) hx hb dX10_events_38 (by decide) ?_
    cases hF
    exact hret _ _ _ _ P rfl dX10_events_40
  · rw [if_neg hc] at hF
    refine lv_iload_n (pc := 13) hx hb dX10_events_13 rfl (lv_at hl 2 rfl) ?_
    refine lv_i2l (pc := 14) hx hb dX10_events_14 rfl ?_
    refine lv_lconst (pc := 15) (v := 0) hx hb dX10_events_15 (by decide) ?_
    refine lv_ldc2 (pc := 16) (v := 3) hx hb hown (hts _ tw_1463) dX10_events_16 ?_
    refine r_cSp (pc := 19) (As := [.long (Int32.toInt64 vp2), .long 0, .long 3]) (rest := []) CX P hl.1 hF ks_X10_85 (fun r q => c_X10_within l G B _ _ _ _ _ q) rfl rfl ⟨Nat.le_of_ble_eq_true rfl, Nat.le_of_ble_eq_true rfl⟩ (Nat.le_of_ble_eq_true rfl) ⟨Nat.le_of_ble_eq_true rfl, Nat.le_of_ble_eq_true rfl⟩ dX10_events_19 (fun v3 H locs P hF => ?_)
    refine lv_if_eq (pc := 22) (tgt := 38) hx hb dX10_events_22 (by decide) (fun hc => ?_) (fun hc => ?_)
    · rw [if_pos hc] at hF
      refine lv_bipush (pc := 38) (v := (-2)) hx hb dX10_events_38 (by decide) ?_
      cases hF
      exact hret _ _ _ _ P rfl dX10_events_40
    · rw [if_neg hc] at hF
      refine lv_aload_n (pc := 25) hx hb dX10_events_25 rfl (lv_at hl 0 rfl) ?_
      refine lv_iload_n (pc := 26) hx hb dX10_events_26 rfl (lv_at hl 1 rfl) ?_
      refine lv_bipush (pc := 27) (v := 11) hx hb dX10_events_27 (by decide) ?_
      refine lv_iload_n (pc := 29) hx hb dX10_events_29 rfl (lv_at hl 2 rfl) ?_
      refine lv_iadd (pc := 30) hx hb dX10_events_30 ?_
      refine lv_iconst (pc := 31) (v := 0) hx hb dX10_events_31 (by decide) ?_
      refine r_cVi (pc := 32) (As := [.int vp1, .int (11 + vp2), .int 0]) (rest := []) CX P hl.1 hF kv_X10_99 (fun r h1 q => c_X10_of l G B _ _ _ _ _ _ _ q) rfl rfl ⟨Nat.le_of_ble_eq_true rfl, Nat.le_of_ble_eq_true rfl⟩ (Nat.le_of_ble_eq_true rfl) ⟨Nat.le_of_ble_eq_true rfl, Nat.le_of_ble_eq_true rfl⟩ dX10_events_32 (fun v4 h5 H locs P hF => ?_)
      replace hF := un_i hF
      refine lv_goto (pc := 35) (tgt := 40) hx hb dX10_events_35 (by decide) ?_
      cases hF
      exact hret _ _ _ _ P rfl dX10_events_40
def F_X10_victim (h : Hp) (a0 : Nat) (vp1 : Int32) : Option (Int32 × Hp) :=
(pI h a0 10 0 0).bind fun h1 =>
(cO h1 a0 10 (F_X10_isGroup h1 a0 vp1)).bind fun v2 =>
if v2 = 0 then (
some ((-2), h1)) else (
(cO h1 a0 10 (F_X10_victimBelow h1 a0 vp1)).bind (un fun v3 h4 =>
some (v3, h4)))
set_option maxRecDepth 100000 in
set_option maxHeartbeats 4000000 in
theorem c_X10_victim (l : Launch) (G : GG) (B : Nat) (h : Hp) (a0 : Nat) (vp1 : Int32) (r0 : Int32) (hr : Hp) (hF : F_X10_victim h a0 vp1 = some (r0, hr)) : CI l yX10_victim cX10_victim 2 .int 4 90 0 0 G B h [.ref (B + a0), .int vp1] r0 hr := by
  refine ent_i rfl (Nat.le_of_ble_eq_true rfl) ?_
  intro p e s m args below meth c ls Q CX hnm hret P hl
  have CX : Cxt p m c cX10_victim 2 s args RX10 G B := CX
  obtain ⟨⟨hx, hb, hml, hown, hts⟩, -, -⟩ := id CX
  replace hl : lv_has ls 2 [(0, .ref (B + a0)), (1, .int vp1)] := hl
  generalize s.heap = H at P ⊢
  generalize ([] : List Loc) = locs at P ⊢
  unfold F_X10_victim at hF
  refine lv_aload_n (pc := 0) hx hb dX10_victim_0 rfl (lv_at hl 0 rfl) ?_
  refine lv_iconst (pc := 1) (v := 0) hx hb dX10_victim_1 (by decide) ?_
  refine r_pI (pc := 2) CX P hF fl_X10_1 dX10_victim_2 (fun h1 H locs P hF => ?_)
  refine lv_aload_n (pc := 5) hx hb dX10_victim_5 rfl (lv_at hl 0 rfl) ?_
  refine lv_iload_n (pc := 6) hx hb dX10_victim_6 rfl (lv_at hl 1 rfl) ?_
  refine r_cVp (pc := 7) (As := [.int vp1]) (rest := []) CX P hl.1 hF kv_X10_107 (fun r q => c_X10_isGroup l G B _ _ _ _ q) rfl rfl ⟨Nat.le_of_ble_eq_true rfl, Nat.le_of_ble_eq_true rfl⟩ (Nat.le_of_ble_eq_true rfl) ⟨Nat.le_of_ble_eq_true rfl, Nat.le_of_ble_eq_true rfl⟩ dX10_victim_7 (fun v2 H locs P hF => ?_)
  refine lv_if_eq (pc := 10) (tgt := 21) hx hb dX10_victim_10 (by decide) (fun hc => ?_) (fun hc => ?_)
  · rw [if_pos hc] at hF
    refine lv_bipush (pc := 21) (v := (-2)) hx hb dX10_victim_21 (by decide) ?_
    cases hF
    exact hret _ _ _ _ P rfl dX10_victim_23
  · rw [if_neg hc] at hF
    refine lv_aload_n (pc := 13) hx hb dX10_victim_13 rfl (lv_at hl 0 rfl) ?_
    refine lv_iload_n (pc := 14) hx hb dX10_victim_14 rfl (lv_at hl 1 rfl) ?_
    refine r_cVi (pc := 15) (As := [.int vp1]) (rest := []) CX P hl.1 hF kv_X10_168 (fun r h1 q => c_X10_victimBelow l G B _ _ _ _ _ q) rfl rfl ⟨Nat.le_of_ble_eq_true rfl, Nat.le_of_ble_eq_true rfl⟩ (Nat.le_of_ble_eq_true rfl) ⟨Nat.le_of_ble_eq_true rfl, Nat.le_of_ble_eq_true rfl⟩ dX10_victim_15 (fun v3 h4 H locs P hF => ?_)
    replace hF := un_i hF
    refine lv_goto (pc := 18) (tgt := 23) hx hb dX10_victim_18 (by decide) ?_
    cases hF
    exact hret _ _ _ _ P rfl dX10_victim_23
def F_X10_dying (h : Hp) (a0 : Nat) (vp1 : Int32) : Option (Int32 × Hp) :=
(pI h a0 10 0 0).bind fun h1 =>
(cO h1 a0 10 (F_X10_isGroup h1 a0 vp1)).bind fun v2 =>
if v2 = 0 then (
some ((-2), h1)) else (
(cO h1 a0 10 (F_X10_dyingBelow h1 a0 vp1)).bind (un fun v3 h4 =>
some (v3, h4)))
set_option maxRecDepth 100000 in
set_option maxHeartbeats 4000000 in
theorem c_X10_dying (l : Launch) (G : GG) (B : Nat) (h : Hp) (a0 : Nat) (vp1 : Int32) (r0 : Int32) (hr : Hp) (hF : F_X10_dying h a0 vp1 = some (r0, hr)) : CI l yX10_dying cX10_dying 2 .int 5 115 0 0 G B h [.ref (B + a0), .int vp1] r0 hr := by
  refine ent_i rfl (Nat.le_of_ble_eq_true rfl) ?_
  intro p e s m args below meth c ls Q CX hnm hret P hl
  have CX : Cxt p m c cX10_dying 2 s args RX10 G B := CX
  obtain ⟨⟨hx, hb, hml, hown, hts⟩, -, -⟩ := id CX
  replace hl : lv_has ls 2 [(0, .ref (B + a0)), (1, .int vp1)] := hl
  generalize s.heap = H at P ⊢
  generalize ([] : List Loc) = locs at P ⊢
  unfold F_X10_dying at hF
  refine lv_aload_n (pc := 0) hx hb dX10_dying_0 rfl (lv_at hl 0 rfl) ?_
  refine lv_iconst (pc := 1) (v := 0) hx hb dX10_dying_1 (by decide) ?_
  refine r_pI (pc := 2) CX P hF fl_X10_1 dX10_dying_2 (fun h1 H locs P hF => ?_)
  refine lv_aload_n (pc := 5) hx hb dX10_dying_5 rfl (lv_at hl 0 rfl) ?_
  refine lv_iload_n (pc := 6) hx hb dX10_dying_6 rfl (lv_at hl 1 rfl) ?_
  refine r_cVp (pc := 7) (As := [.int vp1]) (rest := []) CX P hl.1 hF kv_X10_107 (fun r q => c_X10_isGroup l G B _ _ _ _ q) rfl rfl ⟨Nat.le_of_ble_eq_true rfl, Nat.le_of_ble_eq_true rfl⟩ (Nat.le_of_ble_eq_true rfl) ⟨Nat.le_of_ble_eq_true rfl, Nat.le_of_ble_eq_true rfl⟩ dX10_dying_7 (fun v2 H locs P hF => ?_)
  refine lv_if_eq (pc := 10) (tgt := 21) hx hb dX10_dying_10 (by decide) (fun hc => ?_) (fun hc => ?_)
  · rw [if_pos hc] at hF
    refine lv_bipush (pc := 21) (v := (-2)) hx hb dX10_dying_21 (by decide) ?_
    cases hF
    exact hret _ _ _ _ P rfl dX10_dying_23
  · rw [if_neg hc] at hF
    refine lv_aload_n (pc := 13) hx hb dX10_dying_13 rfl (lv_at hl 0 rfl) ?_
    refine lv_iload_n (pc := 14) hx hb dX10_dying_14 rfl (lv_at hl 1 rfl) ?_
    refine r_cVi (pc := 15) (As := [.int vp1]) (rest := []) CX P hl.1 hF kv_X10_177 (fun r h1 q => c_X10_dyingBelow l G B _ _ _ _ _ q) rfl rfl ⟨Nat.le_of_ble_eq_true rfl, Nat.le_of_ble_eq_true rfl⟩ (Nat.le_of_ble_eq_true rfl) ⟨Nat.le_of_ble_eq_true rfl, Nat.le_of_ble_eq_true rfl⟩ dX10_dying_15 (fun v3 h4 H locs P hF => ?_)
    replace hF := un_i hF
    refine lv_goto (pc := 18) (tgt := 23) hx hb dX10_dying_18 (by decide) ?_
    cases hF
    exact hret _ _ _ _ P rfl dX10_dying_23
def F_X10_deathsBy (h : Hp) (a0 : Nat) (vp1 : Int32) (vp2 : Int32) : Option (Int32 × Hp) :=
(gR h a0 10 1).bind fun a1 =>
(aI h a1 1).bind fun v2 =>
(cO h a0 10 (F_X10_opensPaper h a0)).bind fun h3 =>
(cO h3 a0 10 (F_X10_limits h3 a0 vp1 3 vp2)).bind (un fun v4 h5 =>
(if v4 = 0 then (
some (0 : Int32)) else (
(gR h5 a0 10 1).bind fun a7 =>
(aI h5 a7 1).bind fun v8 =>
some (v2 &&& (v8 ^^^ (-1)) : Int32))).bind fun v9 =>
(cO h5 a0 10 (F_X10_closesPaper h5 a0)).bind fun h10 =>
some (v9, h10))
set_option maxRecDepth 100000 in
set_option maxHeartbeats 4000000 in
theorem c_X10_deathsBy (l : Launch) (G : GG) (B : Nat) (h : Hp) (a0 : Nat) (vp1 : Int32) (vp2 : Int32) (r0 : Int32) (hr : Hp) (hF : F_X10_deathsBy h a0 vp1 vp2 = some (r0, hr)) : CI l yX10_deathsBy cX10_deathsBy 6 .int 9 215 0 0 G B h [.ref (B + a0), .int vp1, .int vp2] r0 hr := by
  refine ent_i rfl (Nat.le_of_ble_eq_true rfl) ?_
  intro p e s m args below meth c ls Q CX hnm hret P hl
  have CX : Cxt p m c cX10_deathsBy 6 s args RX10 G B := CX
  obtain ⟨⟨hx, hb, hml, hown, hts⟩, -, -⟩ := id CX
  replace hl : lv_has ls 6 [(0, .ref (B + a0)), (1, .int vp1), (2, .int vp2)] := hl
  generalize s.heap = H at P ⊢
  generalize ([] : List Loc) = locs at P ⊢
  unfold F_X10_deathsBy at hF
  refine lv_aload_n (pc := 0) hx hb dX10_deathsBy_0 rfl (lv_at hl 0 rfl) ?_
  refine r_gR (pc := 1) CX P hF fl_X10_13 dX10_deathsBy_1 (fun a1 hF => ?_)
  refine lv_iconst (pc := 4) (v := 1) hx hb dX10_deathsBy_4 (by decide) ?_
  refine r_aI (pc := 5) CX P hF dX10_deathsBy_5 (fun v2 hF => ?_)
  refine lv_istore_n (pc := 6) hx hb dX10_deathsBy_6 rfl hl (by decide) rfl (fun ls hl => ?_)
  replace hl : lv_has ls 6 [(3, .int v2), (0, .ref (B + a0)), (1, .int vp1), (2, .int vp2)] := hl
  refine lv_aload_n (pc := 7) hx hb dX10_deathsBy_7 rfl (lv_at hl 1 rfl) ?_
  refine r_cVv (pc := 8) (As := []) (rest := []) CX P hl.1 hF kv_X10_321 (fun h1 q => c_X10_opensPaper l G B _ _ _ q) rfl rfl ⟨Nat.le_of_ble_eq_true rfl, Nat.le_of_ble_eq_true rfl⟩ (Nat.le_of_ble_eq_true rfl) ⟨Nat.le_of_ble_eq_true rfl, Nat.le_of_ble_eq_true rfl⟩ dX10_deathsBy_8 (fun h3 H locs P hF => ?_)
  refine lv_aload_n (pc := 11) hx hb dX10_deathsBy_11 rfl (lv_at hl 1 rfl) ?_
  refine lv_iload_n (pc := 12) hx hb dX10_deathsBy_12 rfl (lv_at hl 2 rfl) ?_
  refine lv_iconst (pc := 13) (v := 3) hx hb dX10_deathsBy_13 (by decide) ?_
  refine lv_iload_n (pc := 14) hx hb dX10_deathsBy_14 rfl (lv_at hl 3 rfl) ?_
  refine r_cVi (pc := 15) (As := [.int vp1, .int 3, .int vp2]) (rest := []) CX P hl.1 hF kv_X10_223 (fun r h1 q => c_X10_limits l G B _ _ _ _ _ _ _ q) rfl rfl ⟨Nat.le_of_ble_eq_true rfl, Nat.le_of_ble_eq_true rfl⟩ (Nat.le_of_ble_eq_true rfl) ⟨Nat.le_of_ble_eq_true rfl, Nat.le_of_ble_eq_true rfl⟩ dX10_deathsBy_15 (fun v4 h5 H locs P hF => ?_)
  replace hF := un_i hF
  refine lv_istore (pc := 18) hx hb dX10_deathsBy_18 hl (by decide) rfl (fun ls hl => ?_)
  replace hl : lv_has ls 6 [(4, .int v4), (3, .int v2), (0, .ref (B + a0)), (1, .int vp1), (2, .int vp2)] := hl
  refine lv_iload (pc := 20) hx hb dX10_deathsBy_20 (lv_at hl 0 rfl) ?_
  obtain ⟨j6, hA6, hK6⟩ := bd_some hF
  have hJ6 : ∀ (v9 : Int32) (H : Heap) (locs : List Loc) (ls : Array Slot), Pic G B h5 s H locs → lv_has ls 6 [(0, .ref (B + a0))] → v9 = j6 → W p l e (rmM 9 215 0 0) s m args below meth c H locs 0 0 Q (F0 m 39 ls [.int v9]) := by
    intro v9 H locs ls P hl ej
    subst ej
    have hF := hK6
    refine lv_istore (pc := 39) hx hb dX10_deathsBy_39 hl (by decide) rfl (fun ls hl => ?_)
    replace hl : lv_has ls 6 [(5, .int v9), (0, .ref (B + a0))] := hl
    refine lv_aload_n (pc := 41) hx hb dX10_deathsBy_41 rfl (lv_at hl 1 rfl) ?_
    refine r_cVv (pc := 42) (As := []) (rest := []) CX P hl.1 hF kv_X10_324 (fun h1 q => c_X10_closesPaper l G B _ _ _ q) rfl rfl ⟨Nat.le_of_ble_eq_true rfl, Nat.le_of_ble_eq_true rfl⟩ (Nat.le_of_ble_eq_true rfl) ⟨Nat.le_of_ble_eq_true rfl, Nat.le_of_ble_eq_true rfl⟩ dX10_deathsBy_42 (fun h10 H locs P hF => ?_)
    refine lv_iload (pc := 45) hx hb dX10_deathsBy_45 (lv_at hl 0 rfl) ?_
    cases hF
    exact hret _ _ _ _ P rfl dX10_deathsBy_47
  replace hF := hA6
  refine lv_if_eq (pc := 22) (tgt := 38) hx hb dX10_deathsBy_22 (by decide) (fun hc => ?_) (fun hc => ?_)
  · rw [if_pos hc] at hF
    refine lv_iconst (pc := 38) (v := 0) hx hb dX10_deathsBy_38 (by decide) ?_
    exact hJ6 _ _ _ _ P (lv_sub hl [2] rfl) (Option.some.inj hF)
  · rw [if_neg hc] at hF
    refine lv_iload_n (pc := 25) hx hb dX10_deathsBy_25 rfl (lv_at hl 1 rfl) ?_
    refine lv_aload_n (pc := 26) hx hb dX10_deathsBy_26 rfl (lv_at hl 2 rfl) ?_
    refine r_gR (pc := 27) CX P hF fl_X10_13 dX10_deathsBy_27 (fun a7 hF => ?_)
    refine lv_iconst (pc := 30) (v := 1) hx hb dX10_deathsBy_30 (by decide) ?_
    refine r_aI (pc := 31) CX P hF dX10_deathsBy_31 (fun v8 hF => ?_)
    refine lv_iconst (pc := 32) (v := (-1)) hx hb dX10_deathsBy_32 (by decide) ?_
    refine lv_ixor (pc := 33) hx hb dX10_deathsBy_33 ?_
    refine lv_iand (pc := 34) hx hb dX10_deathsBy_34 ?_
    refine lv_goto (pc := 35) (tgt := 39) hx hb dX10_deathsBy_35 (by decide) ?_
    exact hJ6 _ _ _ _ P (lv_sub hl [2] rfl) (Option.some.inj hF)
def F_X10_deaths (h : Hp) (a0 : Nat) (vp1 : Int32) (vp2 : Int32) : Option (Int32 × Hp) :=
(pI h a0 10 0 0).bind fun h1 =>
(cO h1 a0 10 (F_X10_isGroup h1 a0 vp1)).bind fun v2 =>
if v2 = 0 then (
some ((-2), h1)) else (
(F_X10_within h1 (Int32.toInt64 vp2) 0 999).bind fun v3 =>
if v3 = 0 then (
some ((-3), h1)) else (
(cO h1 a0 10 (F_X10_deathsBy h1 a0 vp1 vp2)).bind (un fun v4 h5 =>
some (v4, h5))))
set_option maxRecDepth 100000 in
set_option maxHeartbeats 4000000 in
theorem c_X10_deaths (l : Launch) (G : GG) (B : Nat) (h : Hp) (a0 : Nat) (vp1 : Int32) (vp2 : Int32) (r0 : Int32) (hr : Hp) (hF : F_X10_deaths h a0 vp1 vp2 = some (r0, hr)) : CI l yX10_deaths cX10_deaths 3 .int 10 240 0 0 G B h [.ref (B + a0), .int vp1, .int vp2] r0 hr := by
  refine ent_i rfl (Nat.le_of_ble_eq_true rfl) ?_
  intro p e s m args below meth c ls Q CX hnm hret P hl
  have CX : Cxt p m c cX10_deaths 3 s args RX10 G B := CX
  obtain ⟨⟨hx, hb, hml, hown, hts⟩, -, -⟩ := id CX
  replace hl : lv_has ls 3 [(0, .ref (B + a0)), (1, .int vp1), (2, .int vp2)] := hl
  generalize s.heap = H at P ⊢
  generalize ([] : List Loc) = locs at P ⊢
  unfold F_X10_deaths at hF
  refine lv_aload_n (pc := 0) hx hb dX10_deaths_0 rfl (lv_at hl 0 rfl) ?_
  refine lv_iconst (pc := 1) (v := 0) hx hb dX10_deaths_1 (by decide) ?_
  refine r_pI (pc := 2) CX P hF fl_X10_1 dX10_deaths_2 (fun h1 H locs P hF => ?_)
  refine lv_aload_n (pc := 5) hx hb dX10_deaths_5 rfl (lv_at hl 0 rfl) ?_
  refine lv_iload_n (pc := 6) hx hb dX10_deaths_6 rfl (lv_at hl 1 rfl) ?_
  refine r_cVp (pc := 7) (As := [.int vp1]) (rest := []) CX P hl.1 hF kv_X10_107 (fun r q => c_X10_isGroup l G B _ _ _ _ q) rfl rfl ⟨Nat.le_of_ble_eq_true rfl, Nat.le_of_ble_eq_true rfl⟩ (Nat.le_of_ble_eq_true rfl) ⟨Nat.le_of_ble_eq_true rfl, Nat.le_of_ble_eq_true rfl⟩ dX10_deaths_7 (fun v2 H locs P hF => ?_)
  refine lv_if_ne (pc := 10) (tgt := 16) hx hb dX10_deaths_10 (by decide) (fun hc => ?_) (fun hc => ?_)
  · rw [if_neg hc] at hF
    refine lv_iload_n (pc := 16) hx hb dX10_deaths_16 rfl (lv_at hl 2 rfl) ?_
    refine lv_i2l (pc := 17) hx hb dX10_deaths_17 rfl ?_
    refine lv_lconst (pc := 18) (v := 0) hx hb dX10_deaths_18 (by decide) ?_
    refine lv_ldc2 (pc := 19) (v := 999) hx hb hown (hts _ tw_1255) dX10_deaths_19 ?_
    refine r_cSp (pc := 22) (As := [.long (Int32.toInt64 vp2), .long 0, .long 999]) (rest := []) CX P hl.1 hF ks_X10_85 (fun r q => c_X10_within l G B _ _ _ _ _ q) rfl rfl ⟨Nat.le_of_ble_eq_true rfl, Nat.le_of_ble_eq_true rfl⟩ (Nat.le_of_ble_eq_true rfl) ⟨Nat.le_of_ble_eq_true rfl, Nat.le_of_ble_eq_true rfl⟩ dX10_deaths_22 (fun v3 H locs P hF => ?_)
    refine lv_if_eq (pc := 25) (tgt := 37) hx hb dX10_deaths_25 (by decide) (fun hc => ?_) (fun hc => ?_)
    · rw [if_pos hc] at hF
      refine lv_bipush (pc := 37) (v := (-3)) hx hb dX10_deaths_37 (by decide) ?_
      cases hF
      exact hret _ _ _ _ P rfl dX10_deaths_39
    · rw [if_neg hc] at hF
      refine lv_aload_n (pc := 28) hx hb dX10_deaths_28 rfl (lv_at hl 0 rfl) ?_
      refine lv_iload_n (pc := 29) hx hb dX10_deaths_29 rfl (lv_at hl 1 rfl) ?_
      refine lv_iload_n (pc := 30) hx hb dX10_deaths_30 rfl (lv_at hl 2 rfl) ?_
      refine r_cVi (pc := 31) (As := [.int vp1, .int vp2]) (rest := []) CX P hl.1 hF kv_X10_333 (fun r h1 q => c_X10_deathsBy l G B _ _ _ _ _ _ q) rfl rfl ⟨Nat.le_of_ble_eq_true rfl, Nat.le_of_ble_eq_true rfl⟩ (Nat.le_of_ble_eq_true rfl) ⟨Nat.le_of_ble_eq_true rfl, Nat.le_of_ble_eq_true rfl⟩ dX10_deaths_31 (fun v4 h5 H locs P hF => ?_)
      replace hF := un_i hF
      refine lv_goto (pc := 34) (tgt := 39) hx hb dX10_deaths_34 (by decide) ?_
      cases hF
      exact hret _ _ _ _ P rfl dX10_deaths_39
  · rw [if_pos hc] at hF
    refine lv_bipush (pc := 13) (v := (-2)) hx hb dX10_deaths_13 (by decide) ?_
    cases hF
    exact hret _ _ _ _ P rfl dX10_deaths_15
