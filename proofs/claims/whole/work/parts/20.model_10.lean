def F_X10_pressureOf_L14 (h8 : Hp) (v4 : Int32) (v5 : Int64) (v6 : Int32) (v7 : Int32) : Option ((Int32 × Int32) ⊕ (Int32)) :=
if v4 ≤ v7 then (
some (.inr v6)) else (
(if (lg_cmp ((v5 >>> (Int32.toInt64 v7 &&& 63)) &&& 1) 1) = 0 then (
some (1 : Int32)) else (
some (0 : Int32))).bind fun v10 =>
bl (v6 + v10) fun v11 =>
bl (v7 + 1) fun v12 =>
some (.inl (v11, v12)))
def F_X10_pressureOf (h : Hp) (a0 : Nat) (vp1 : Int32) (vp2 : Int32) (vp3 : Int32) : Option (Int32 × Hp) :=
(cO h a0 10 (F_X10_latestOf h a0 vp1 vp2)).bind (un fun v1 h2 =>
(loopF (fun x => F_X10_pressureOf_L14 h2 vp3 v1 x.1 x.2) 6000 (0, 0)).bind fun v13 =>
some (v13, h2))
set_option maxRecDepth 100000 in
set_option maxHeartbeats 4000000 in
theorem c_X10_pressureOf (l : Launch) (G : GG) (B : Nat) (h : Hp) (a0 : Nat) (vp1 : Int32) (vp2 : Int32) (vp3 : Int32) (r0 : Int32) (hr : Hp) (hF : F_X10_pressureOf h a0 vp1 vp2 vp3 = some (r0, hr)) : CI l yX10_pressureOf cX10_pressureOf 8 .int 2 45 0 0 G B h [.ref (B + a0), .int vp1, .int vp2, .int vp3] r0 hr := by
  refine ent_i rfl (Nat.le_of_ble_eq_true rfl) ?_
  intro p e s m args below meth c ls Q CX hnm hret P hl
  have CX : Cxt p m c cX10_pressureOf 8 s args RX10 G B := CX
  obtain ⟨⟨hx, hb, hml, hown, hts⟩, -, -⟩ := id CX
  replace hl : lv_has ls 8 [(0, .ref (B + a0)), (1, .int vp1), (2, .int vp2), (3, .int vp3)] := hl
  generalize s.heap = H at P ⊢
  generalize ([] : List Loc) = locs at P ⊢
  unfold F_X10_pressureOf at hF
  refine lv_iconst (pc := 0) (v := 0) hx hb dX10_pressureOf_0 (by decide) ?_
  refine lv_istore (pc := 1) hx hb dX10_pressureOf_1 hl (by decide) rfl (fun ls hl => ?_)
  replace hl : lv_has ls 8 [(4, .int 0), (0, .ref (B + a0)), (1, .int vp1), (2, .int vp2), (3, .int vp3)] := hl
  refine lv_aload_n (pc := 3) hx hb dX10_pressureOf_3 rfl (lv_at hl 1 rfl) ?_
  refine lv_iload_n (pc := 4) hx hb dX10_pressureOf_4 rfl (lv_at hl 2 rfl) ?_
  refine lv_iload_n (pc := 5) hx hb dX10_pressureOf_5 rfl (lv_at hl 3 rfl) ?_
  refine r_cVl (pc := 6) (As := [.int vp1, .int vp2]) (rest := []) CX P hl.1 hF kv_X10_281 (fun r h1 q => c_X10_latestOf l G B _ _ _ _ _ _ q) rfl rfl ⟨Nat.le_of_ble_eq_true rfl, Nat.le_of_ble_eq_true rfl⟩ (Nat.le_of_ble_eq_true rfl) ⟨Nat.le_of_ble_eq_true rfl, Nat.le_of_ble_eq_true rfl⟩ dX10_pressureOf_6 (fun v1 h2 H locs P hF => ?_)
  replace hF := un_i hF
  refine lv_lstore (pc := 9) hx hb dX10_pressureOf_9 hl (by decide) rfl (fun ls hl => ?_)
  replace hl : lv_has ls 8 [(5, .long v1), (4, .int 0), (0, .ref (B + a0)), (1, .int vp1), (2, .int vp2), (3, .int vp3)] := hl
  refine lv_iconst (pc := 11) (v := 0) hx hb dX10_pressureOf_11 (by decide) ?_
  refine lv_istore (pc := 12) hx hb dX10_pressureOf_12 hl (by decide) rfl (fun ls hl => ?_)
  replace hl : lv_has ls 8 [(7, .int 0), (5, .long v1), (4, .int 0), (0, .ref (B + a0)), (1, .int vp1), (2, .int vp2), (3, .int vp3)] := hl
  obtain ⟨r3, hLp3, hK3⟩ := bd_some hF
  have hX3 : ∀ (v13 : Int32) (H : Heap) (locs : List Loc) (ls : Array Slot), Pic G B h2 s H locs → lv_has ls 8 [(4, .int v13)] → v13 = r3 → W p l e (rmM 2 45 0 0) s m args below meth c H locs 0 0 Q (F0 m 48 ls []) := by
    intro v13 H locs ls P hl er
    subst er
    have hF := hK3
    refine lv_iload (pc := 48) hx hb dX10_pressureOf_48 (lv_at hl 0 rfl) ?_
    cases hF
    exact hret _ _ _ _ P rfl dX10_pressureOf_50
  have hL3 : ∀ (n : Nat) (v6 : Int32) (v7 : Int32) (H : Heap) (locs : List Loc) (ls : Array Slot), Pic G B h2 s H locs → lv_has ls 8 [(3, .int vp3), (4, .int v6), (5, .long v1), (7, .int v7)] → loopF (fun x => F_X10_pressureOf_L14 h2 vp3 v1 x.1 x.2) n (v6, v7) = some r3 → W p l e (rmM 2 45 0 0) s m args below meth c H locs 0 0 Q (F0 m 14 ls []) := by
    intro n
    induction n with
    | zero => intro v6 v7 H locs ls P hl hq; cases hq
    | succ n ih =>
      intro v6 v7 H locs ls P hl hq
      obtain ⟨z3, hS3, hI3, hR3⟩ := loop_some hq
      have hF : F_X10_pressureOf_L14 h2 vp3 v1 v6 v7 = some z3 := hS3
      unfold F_X10_pressureOf_L14 at hF
      refine lv_iload (pc := 14) hx hb dX10_pressureOf_14 (lv_at hl 3 rfl) ?_
      refine lv_iload_n (pc := 16) hx hb dX10_pressureOf_16 rfl (lv_at hl 0 rfl) ?_
      refine lv_icmp_ge (pc := 17) (tgt := 48) hx hb dX10_pressureOf_17 (by decide) (fun hc => ?_) (fun hc => ?_)
      · rw [if_pos hc] at hF
        exact hX3 _ _ _ _ P (lv_sub hl [1] rfl) (hR3 _ (Option.some.inj hF).symm)
      · rw [if_neg hc] at hF
        refine lv_iload (pc := 20) hx hb dX10_pressureOf_20 (lv_at hl 1 rfl) ?_
        refine lv_lload (pc := 22) hx hb dX10_pressureOf_22 (lv_at hl 2 rfl) ?_
        refine lv_iload (pc := 24) hx hb dX10_pressureOf_24 (lv_at hl 3 rfl) ?_
        refine lv_lshr (pc := 26) hx hb dX10_pressureOf_26 rfl ?_
        refine lv_lconst (pc := 27) (v := 1) hx hb dX10_pressureOf_27 (by decide) ?_
        refine lv_land (pc := 28) hx hb dX10_pressureOf_28 ?_
        refine lv_lconst (pc := 29) (v := 1) hx hb dX10_pressureOf_29 (by decide) ?_
        refine W.lcmp (pc := 30) hx hb dX10_pressureOf_30 ?_
        obtain ⟨j9, hA9, hK9⟩ := bd_some hF
        have hJ9 : ∀ (v10 : Int32) (H : Heap) (locs : List Loc) (ls : Array Slot), Pic G B h2 s H locs → lv_has ls 8 [(3, .int vp3), (5, .long v1), (7, .int v7)] → v10 = j9 → W p l e (rmM 2 45 0 0) s m args below meth c H locs 0 0 Q (F0 m 39 ls [.int v10, .int v6]) := by
          intro v10 H locs ls P hl ej
          subst ej
          have hF := hK9
          refine lv_iadd (pc := 39) hx hb dX10_pressureOf_39 ?_
          refine lv_topi (fun v11 ev11 => ?_)
          replace hF := bl_e hF ev11
          refine lv_istore (pc := 40) hx hb dX10_pressureOf_40 hl (by decide) rfl (fun ls hl => ?_)
          replace hl : lv_has ls 8 [(4, .int v11), (3, .int vp3), (5, .long v1), (7, .int v7)] := hl
          obtain ⟨v12, ev12, hF⟩ := bl_o hF
          refine lv_iinc (pc := 42) (k := 3) (v := v12) hx hb dX10_pressureOf_42 hl rfl ev12 (by decide) rfl (fun ls hl => ?_)
          replace hl : lv_has ls 8 [(7, .int v12), (4, .int v11), (3, .int vp3), (5, .long v1)] := hl
          refine lv_goto (pc := 45) (tgt := 14) hx hb dX10_pressureOf_45 (by decide) ?_
          exact ih _ _ _ _ _ P (lv_sub hl [2, 1, 3, 0] rfl) (hI3 _ (Option.some.inj hF).symm)
        replace hF := hA9
        refine lv_if_ne (pc := 31) (tgt := 38) hx hb dX10_pressureOf_31 (by decide) (fun hc => ?_) (fun hc => ?_)
        · rw [if_neg hc] at hF
          refine lv_iconst (pc := 38) (v := 0) hx hb dX10_pressureOf_38 (by decide) ?_
          exact hJ9 _ _ _ _ P (lv_sub hl [0, 2, 3] rfl) (Option.some.inj hF)
        · rw [if_pos hc] at hF
          refine lv_iconst (pc := 34) (v := 1) hx hb dX10_pressureOf_34 (by decide) ?_
          refine lv_goto (pc := 35) (tgt := 39) hx hb dX10_pressureOf_35 (by decide) ?_
          exact hJ9 _ _ _ _ P (lv_sub hl [0, 2, 3] rfl) (Option.some.inj hF)
  exact hL3 _ _ _ _ _ _ P (lv_sub hl [6, 2, 1, 0] rfl) hLp3
def F_X10_isStalled_L15 (a4 : Nat) (v5 : Int32) (v6 : Int32) (v7 : Int32) (v8 : Int32) (v9 : Int32) (h10 : Hp) : Option ((Int32 × Int32 × Int32 × Hp) ⊕ (Int32 × Int32 × Hp)) :=
if 16 ≤ v9 then (
some (.inr (v7, v8, h10))) else (
(F_X10_has h10 v6 v9).bind fun v11 =>
(if v11 = 0 then (
some ((0 : Int32), h10)) else (
(cO h10 a4 10 (F_X10_ofProcess h10 a4 v9 4 0)).bind (un fun v13 h14 =>
if v13 ≤ 0 then (
some ((0 : Int32), h14)) else (
some ((1 <<< (v9 &&& 31) : Int32), h14))))).bind fun q12 =>
bl q12.1 fun v15 =>
bl q12.2 fun h16 =>
bl (v7 ||| v15) fun v17 =>
(F_X10_has h16 v6 v9).bind fun v18 =>
(if v18 = 0 then (
some ((0 : Int32), h16)) else (
(cO h16 a4 10 (F_X10_ofProcess h16 a4 v9 4 0)).bind (un fun v20 h21 =>
if v20 = 0 then (
(cO h21 a4 10 (F_X10_ofProcess h21 a4 v9 6 0)).bind (un fun v22 h23 =>
if v22 ≤ 0 then (
some ((0 : Int32), h23)) else (
some ((1 <<< (v9 &&& 31) : Int32), h23)))) else (
some ((0 : Int32), h21))))).bind fun q19 =>
bl q19.1 fun v24 =>
bl q19.2 fun h25 =>
bl (v8 ||| v24) fun v26 =>
bl (v9 + 1) fun v27 =>
some (.inl (v17, v26, v27, h25)))
def F_X10_isStalled (h : Hp) (a0 : Nat) (vp1 : Int32) (vp2 : Int32) : Option (Int32 × Hp) :=
(cO h a0 10 (F_X10_processesBelow h a0 vp1)).bind (un fun v1 h2 =>
(loopF (fun x => F_X10_isStalled_L15 a0 vp2 v1 x.1 x.2.1 x.2.2.1 x.2.2.2) 6000 (0, 0, 0, h2)).bind fun q3 =>
bl q3.1 fun v28 =>
bl q3.2.1 fun v29 =>
bl q3.2.2 fun h30 =>
if vp2 = 2 then (
if v29 = 0 then (
some (0, h30)) else (
some (1, h30))) else (
if v28 = 0 then (
some (0, h30)) else (
if vp2 = 0 then (
some (1, h30)) else (
if v28 = v1 then (
some (1, h30)) else (
some (0, h30))))))
set_option maxRecDepth 100000 in
set_option maxHeartbeats 4000000 in
theorem c_X10_isStalled (l : Launch) (G : GG) (B : Nat) (h : Hp) (a0 : Nat) (vp1 : Int32) (vp2 : Int32) (r0 : Int32) (hr : Hp) (hF : F_X10_isStalled h a0 vp1 vp2 = some (r0, hr)) : CI l yX10_isStalled cX10_isStalled 7 .boolean 4 90 0 0 G B h [.ref (B + a0), .int vp1, .int vp2] r0 hr := by
  refine ent_i rfl (Nat.le_of_ble_eq_true rfl) ?_
  intro p e s m args below meth c ls Q CX hnm hret P hl
  have CX : Cxt p m c cX10_isStalled 7 s args RX10 G B := CX
  obtain ⟨⟨hx, hb, hml, hown, hts⟩, -, -⟩ := id CX
  replace hl : lv_has ls 7 [(0, .ref (B + a0)), (1, .int vp1), (2, .int vp2)] := hl
  generalize s.heap = H at P ⊢
  generalize ([] : List Loc) = locs at P ⊢
  unfold F_X10_isStalled at hF
  refine lv_aload_n (pc := 0) hx hb dX10_isStalled_0 rfl (lv_at hl 0 rfl) ?_
  refine lv_iload_n (pc := 1) hx hb dX10_isStalled_1 rfl (lv_at hl 1 rfl) ?_
  refine r_cVi (pc := 2) (As := [.int vp1]) (rest := []) CX P hl.1 hF kv_X10_171 (fun r h1 q => c_X10_processesBelow l G B _ _ _ _ _ q) rfl rfl ⟨Nat.le_of_ble_eq_true rfl, Nat.le_of_ble_eq_true rfl⟩ (Nat.le_of_ble_eq_true rfl) ⟨Nat.le_of_ble_eq_true rfl, Nat.le_of_ble_eq_true rfl⟩ dX10_isStalled_2 (fun v1 h2 H locs P hF => ?_)
  replace hF := un_i hF
  refine lv_istore_n (pc := 5) hx hb dX10_isStalled_5 rfl hl (by decide) rfl (fun ls hl => ?_)
  replace hl : lv_has ls 7 [(3, .int v1), (0, .ref (B + a0)), (1, .int vp1), (2, .int vp2)] := hl
  refine lv_iconst (pc := 6) (v := 0) hx hb dX10_isStalled_6 (by decide) ?_
  refine lv_istore (pc := 7) hx hb dX10_isStalled_7 hl (by decide) rfl (fun ls hl => ?_)
  replace hl : lv_has ls 7 [(4, .int 0), (3, .int v1), (0, .ref (B + a0)), (1, .int vp1), (2, .int vp2)] := hl
  refine lv_iconst (pc := 9) (v := 0) hx hb dX10_isStalled_9 (by decide) ?_
  refine lv_istore (pc := 10) hx hb dX10_isStalled_10 hl (by decide) rfl (fun ls hl => ?_)
  replace hl : lv_has ls 7 [(5, .int 0), (4, .int 0), (3, .int v1), (0, .ref (B + a0)), (1, .int vp1), (2, .int vp2)] := hl
  refine lv_iconst (pc := 12) (v := 0) hx hb dX10_isStalled_12 (by decide) ?_
  refine lv_istore (pc := 13) hx hb dX10_isStalled_13 hl (by decide) rfl (fun ls hl => ?_)
  replace hl : lv_has ls 7 [(6, .int 0), (5, .int 0), (4, .int 0), (3, .int v1), (0, .ref (B + a0)), (1, .int vp1), (2, .int vp2)] := hl
  obtain ⟨r3, hLp3, hK3⟩ := bd_some hF
  have hX3 : ∀ (v28 : Int32) (v29 : Int32) (h30 : Hp) (H : Heap) (locs : List Loc) (ls : Array Slot), Pic G B h30 s H locs → lv_has ls 7 [(2, .int vp2), (3, .int v1), (4, .int v28), (5, .int v29)] → (v28, v29, h30) = r3 → W p l e (rmM 4 90 0 0) s m args below meth c H locs 0 0 Q (F0 m 106 ls []) := by
    intro v28 v29 h30 H locs ls P hl er
    subst er
    have hF := hK3
    replace hF := bl_i hF
    replace hF := bl_i hF
    replace hF := bl_i hF
    try dsimp only at hF
    refine lv_iload_n (pc := 106) hx hb dX10_isStalled_106 rfl (lv_at hl 0 rfl) ?_
    refine lv_iconst (pc := 107) (v := 2) hx hb dX10_isStalled_107 (by decide) ?_
    refine lv_icmp_ne (pc := 108) (tgt := 122) hx hb dX10_isStalled_108 (by decide) (fun hc => ?_) (fun hc => ?_)
    · rw [if_neg hc] at hF
      refine lv_iload (pc := 122) hx hb dX10_isStalled_122 (lv_at hl 2 rfl) ?_
      refine lv_if_eq (pc := 124) (tgt := 141) hx hb dX10_isStalled_124 (by decide) (fun hc => ?_) (fun hc => ?_)
      · rw [if_pos hc] at hF
        refine lv_iconst (pc := 141) (v := 0) hx hb dX10_isStalled_141 (by decide) ?_
        cases hF
        exact hret _ _ _ _ P rfl dX10_isStalled_142
      · rw [if_neg hc] at hF
        refine lv_iload_n (pc := 127) hx hb dX10_isStalled_127 rfl (lv_at hl 0 rfl) ?_
        refine lv_if_eq (pc := 128) (tgt := 137) hx hb dX10_isStalled_128 (by decide) (fun hc => ?_) (fun hc => ?_)
        · rw [if_pos hc] at hF
          refine lv_iconst (pc := 137) (v := 1) hx hb dX10_isStalled_137 (by decide) ?_
          refine lv_goto (pc := 138) (tgt := 142) hx hb dX10_isStalled_138 (by decide) ?_
          cases hF
          exact hret _ _ _ _ P rfl dX10_isStalled_142
        · rw [if_neg hc] at hF
          refine lv_iload (pc := 131) hx hb dX10_isStalled_131 (lv_at hl 2 rfl) ?_
          refine lv_iload_n (pc := 133) hx hb dX10_isStalled_133 rfl (lv_at hl 1 rfl) ?_
          refine lv_icmp_ne (pc := 134) (tgt := 141) hx hb dX10_isStalled_134 (by decide) (fun hc => ?_) (fun hc => ?_)
          · rw [if_neg hc] at hF
            refine lv_iconst (pc := 141) (v := 0) hx hb dX10_isStalled_141 (by decide) ?_
            cases hF
            exact hret _ _ _ _ P rfl dX10_isStalled_142
          · rw [if_pos hc] at hF
            refine lv_iconst (pc := 137) (v := 1) hx hb dX10_isStalled_137 (by decide) ?_
            refine lv_goto (pc := 138) (tgt := 142) hx hb dX10_isStalled_138 (by decide) ?_
            cases hF
            exact hret _ _ _ _ P rfl dX10_isStalled_142
    · rw [if_pos hc] at hF
      refine lv_iload (pc := 111) hx hb dX10_isStalled_111 (lv_at hl 3 rfl) ?_
      refine lv_if_eq (pc := 113) (tgt := 120) hx hb dX10_isStalled_113 (by decide) (fun hc => ?_) (fun hc => ?_)
      · rw [if_pos hc] at hF
        refine lv_iconst (pc := 120) (v := 0) hx hb dX10_isStalled_120 (by decide) ?_
        cases hF
        exact hret _ _ _ _ P rfl dX10_isStalled_121
      · rw [if_neg hc] at hF
        refine lv_iconst (pc := 116) (v := 1) hx hb dX10_isStalled_116 (by decide) ?_
        refine lv_goto (pc := 117) (tgt := 121) hx hb dX10_isStalled_117 (by decide) ?_
        cases hF
        exact hret _ _ _ _ P rfl dX10_isStalled_121
  have hL3 : ∀ (n : Nat) (v7 : Int32) (v8 : Int32) (v9 : Int32) (h10 : Hp) (H : Heap) (locs : List Loc) (ls : Array Slot), Pic G B h10 s H locs → lv_has ls 7 [(0, .ref (B + a0)), (2, .int vp2), (3, .int v1), (4, .int v7), (5, .int v8), (6, .int v9)] → loopF (fun x => F_X10_isStalled_L15 a0 vp2 v1 x.1 x.2.1 x.2.2.1 x.2.2.2) n (v7, v8, v9, h10) = some r3 → W p l e (rmM 4 90 0 0) s m args below meth c H locs 0 0 Q (F0 m 15 ls []) := by
    intro n
    induction n with
    | zero => intro v7 v8 v9 h10 H locs ls P hl hq; cases hq
    | succ n ih =>
      intro v7 v8 v9 h10 H locs ls P hl hq
      obtain ⟨z3, hS3, hI3, hR3⟩ := loop_some hq
      have hF : F_X10_isStalled_L15 a0 vp2 v1 v7 v8 v9 h10 = some z3 := hS3
      unfold F_X10_isStalled_L15 at hF
      refine lv_iload (pc := 15) hx hb dX10_isStalled_15 (lv_at hl 5 rfl) ?_
      refine lv_bipush (pc := 17) (v := 16) hx hb dX10_isStalled_17 (by decide) ?_
      refine lv_icmp_ge (pc := 19) (tgt := 106) hx hb dX10_isStalled_19 (by decide) (fun hc => ?_) (fun hc => ?_)
      · rw [if_pos hc] at hF
        exact hX3 _ _ _ _ _ _ P (lv_sub hl [1, 2, 3, 4] rfl) (hR3 _ (Option.some.inj hF).symm)
      · rw [if_neg hc] at hF
        refine lv_iload (pc := 22) hx hb dX10_isStalled_22 (lv_at hl 3 rfl) ?_
        refine lv_iload_n (pc := 24) hx hb dX10_isStalled_24 rfl (lv_at hl 2 rfl) ?_
        refine lv_iload (pc := 25) hx hb dX10_isStalled_25 (lv_at hl 5 rfl) ?_
        refine r_cSp (pc := 27) (As := [.int v1, .int v9]) (rest := [.int v7]) CX P hl.1 hF ks_X10_89 (fun r q => c_X10_has l G B _ _ _ _ q) rfl rfl ⟨Nat.le_of_ble_eq_true rfl, Nat.le_of_ble_eq_true rfl⟩ (Nat.le_of_ble_eq_true rfl) ⟨Nat.le_of_ble_eq_true rfl, Nat.le_of_ble_eq_true rfl⟩ dX10_isStalled_27 (fun v11 H locs P hF => ?_)
        obtain ⟨j12, hA12, hK12⟩ := bd_some hF
        have hJ12 : ∀ (v15 : Int32) (h16 : Hp) (H : Heap) (locs : List Loc) (ls : Array Slot), Pic G B h16 s H locs → lv_has ls 7 [(0, .ref (B + a0)), (2, .int vp2), (3, .int v1), (5, .int v8), (6, .int v9)] → (v15, h16) = j12 → W p l e (rmM 4 90 0 0) s m args below meth c H locs 0 0 Q (F0 m 52 ls [.int v15, .int v7]) := by
          intro v15 h16 H locs ls P hl ej
          subst ej
          have hF := hK12
          replace hF := bl_i hF
          replace hF := bl_i hF
          try dsimp only at hF
          refine lv_ior (pc := 52) hx hb dX10_isStalled_52 ?_
          refine lv_topi (fun v17 ev17 => ?_)
          replace hF := bl_e hF ev17
          refine lv_istore (pc := 53) hx hb dX10_isStalled_53 hl (by decide) rfl (fun ls hl => ?_)
          replace hl : lv_has ls 7 [(4, .int v17), (0, .ref (B + a0)), (2, .int vp2), (3, .int v1), (5, .int v8), (6, .int v9)] := hl
          refine lv_iload (pc := 55) hx hb dX10_isStalled_55 (lv_at hl 4 rfl) ?_
          refine lv_iload_n (pc := 57) hx hb dX10_isStalled_57 rfl (lv_at hl 3 rfl) ?_
          refine lv_iload (pc := 58) hx hb dX10_isStalled_58 (lv_at hl 5 rfl) ?_
          refine r_cSp (pc := 60) (As := [.int v1, .int v9]) (rest := [.int v8]) CX P hl.1 hF ks_X10_89 (fun r q => c_X10_has l G B _ _ _ _ q) rfl rfl ⟨Nat.le_of_ble_eq_true rfl, Nat.le_of_ble_eq_true rfl⟩ (Nat.le_of_ble_eq_true rfl) ⟨Nat.le_of_ble_eq_true rfl, Nat.le_of_ble_eq_true rfl⟩ dX10_isStalled_60 (fun v18 H locs P hF => ?_)
          obtain ⟨j19, hA19, hK19⟩ := bd_some hF
          have hJ19 : ∀ (v24 : Int32) (h25 : Hp) (H : Heap) (locs : List Loc) (ls : Array Slot), Pic G B h25 s H locs → lv_has ls 7 [(0, .ref (B + a0)), (2, .int vp2), (3, .int v1), (4, .int v17), (6, .int v9)] → (v24, h25) = j19 → W p l e (rmM 4 90 0 0) s m args below meth c H locs 0 0 Q (F0 m 97 ls [.int v24, .int v8]) := by
            intro v24 h25 H locs ls P hl ej
            subst ej
            have hF := hK19
            replace hF := bl_i hF
            replace hF := bl_i hF
            try dsimp only at hF
            refine lv_ior (pc := 97) hx hb dX10_isStalled_97 ?_
            refine lv_topi (fun v26 ev26 => ?_)
            replace hF := bl_e hF ev26
            refine lv_istore (pc := 98) hx hb dX10_isStalled_98 hl (by decide) rfl (fun ls hl => ?_)
            replace hl : lv_has ls 7 [(5, .int v26), (0, .ref (B + a0)), (2, .int vp2), (3, .int v1), (4, .int v17), (6, .int v9)] := hl
            obtain ⟨v27, ev27, hF⟩ := bl_o hF
            refine lv_iinc (pc := 100) (k := 5) (v := v27) hx hb dX10_isStalled_100 hl rfl ev27 (by decide) rfl (fun ls hl => ?_)
            replace hl : lv_has ls 7 [(6, .int v27), (5, .int v26), (0, .ref (B + a0)), (2, .int vp2), (3, .int v1), (4, .int v17)] := hl
            refine lv_goto (pc := 103) (tgt := 15) hx hb dX10_isStalled_103 (by decide) ?_
            exact ih _ _ _ _ _ _ _ P (lv_sub hl [2, 3, 4, 5, 1, 0] rfl) (hI3 _ (Option.some.inj hF).symm)
          replace hF := hA19
          refine lv_if_eq (pc := 63) (tgt := 96) hx hb dX10_isStalled_63 (by decide) (fun hc => ?_) (fun hc => ?_)
          · rw [if_pos hc] at hF
            refine lv_iconst (pc := 96) (v := 0) hx hb dX10_isStalled_96 (by decide) ?_
            exact hJ19 _ _ _ _ _ P (lv_sub hl [1, 2, 3, 0, 5] rfl) (Option.some.inj hF)
          · rw [if_neg hc] at hF
            refine lv_aload_n (pc := 66) hx hb dX10_isStalled_66 rfl (lv_at hl 1 rfl) ?_
            refine lv_iload (pc := 67) hx hb dX10_isStalled_67 (lv_at hl 5 rfl) ?_
            refine lv_iconst (pc := 69) (v := 4) hx hb dX10_isStalled_69 (by decide) ?_
            refine lv_iconst (pc := 70) (v := 0) hx hb dX10_isStalled_70 (by decide) ?_
            refine r_cVi (pc := 71) (As := [.int v9, .int 4, .int 0]) (rest := [.int v8]) CX P hl.1 hF kv_X10_114 (fun r h1 q => c_X10_ofProcess l G B _ _ _ _ _ _ _ q) rfl rfl ⟨Nat.le_of_ble_eq_true rfl, Nat.le_of_ble_eq_true rfl⟩ (Nat.le_of_ble_eq_true rfl) ⟨Nat.le_of_ble_eq_true rfl, Nat.le_of_ble_eq_true rfl⟩ dX10_isStalled_71 (fun v20 h21 H locs P hF => ?_)
            replace hF := un_i hF
            refine lv_if_ne (pc := 74) (tgt := 96) hx hb dX10_isStalled_74 (by decide) (fun hc => ?_) (fun hc => ?_)
            · rw [if_neg hc] at hF
              refine lv_iconst (pc := 96) (v := 0) hx hb dX10_isStalled_96 (by decide) ?_
              exact hJ19 _ _ _ _ _ P (lv_sub hl [1, 2, 3, 0, 5] rfl) (Option.some.inj hF)
            · rw [if_pos hc] at hF
              refine lv_aload_n (pc := 77) hx hb dX10_isStalled_77 rfl (lv_at hl 1 rfl) ?_
              refine lv_iload (pc := 78) hx hb dX10_isStalled_78 (lv_at hl 5 rfl) ?_
              refine lv_bipush (pc := 80) (v := 6) hx hb dX10_isStalled_80 (by decide) ?_
              refine lv_iconst (pc := 82) (v := 0) hx hb dX10_isStalled_82 (by decide) ?_
              refine r_cVi (pc := 83) (As := [.int v9, .int 6, .int 0]) (rest := [.int v8]) CX P hl.1 hF kv_X10_114 (fun r h1 q => c_X10_ofProcess l G B _ _ _ _ _ _ _ q) rfl rfl ⟨Nat.le_of_ble_eq_true rfl, Nat.le_of_ble_eq_true rfl⟩ (Nat.le_of_ble_eq_true rfl) ⟨Nat.le_of_ble_eq_true rfl, Nat.le_of_ble_eq_true rfl⟩ dX10_isStalled_83 (fun v22 h23 H locs P hF => ?_)
              replace hF := un_i hF
              refine lv_if_le (pc := 86) (tgt := 96) hx hb dX10_isStalled_86 (by decide) (fun hc => ?_) (fun hc => ?_)
              · rw [if_pos hc] at hF
                refine lv_iconst (pc := 96) (v := 0) hx hb dX10_isStalled_96 (by decide) ?_
                exact hJ19 _ _ _ _ _ P (lv_sub hl [1, 2, 3, 0, 5] rfl) (Option.some.inj hF)
              · rw [if_neg hc] at hF
                refine lv_iconst (pc := 89) (v := 1) hx hb dX10_isStalled_89 (by decide) ?_
                refine lv_iload (pc := 90) hx hb dX10_isStalled_90 (lv_at hl 5 rfl) ?_
                refine lv_ishl (pc := 92) hx hb dX10_isStalled_92 ?_
                refine lv_goto (pc := 93) (tgt := 97) hx hb dX10_isStalled_93 (by decide) ?_
                exact hJ19 _ _ _ _ _ P (lv_sub hl [1, 2, 3, 0, 5] rfl) (Option.some.inj hF)
        replace hF := hA12
        refine lv_if_eq (pc := 30) (tgt := 51) hx hb dX10_isStalled_30 (by decide) (fun hc => ?_) (fun hc => ?_)
        · rw [if_pos hc] at hF
          refine lv_iconst (pc := 51) (v := 0) hx hb dX10_isStalled_51 (by decide) ?_
          exact hJ12 _ _ _ _ _ P (lv_sub hl [0, 1, 2, 4, 5] rfl) (Option.some.inj hF)
        · rw [if_neg hc] at hF
          refine lv_aload_n (pc := 33) hx hb dX10_isStalled_33 rfl (lv_at hl 0 rfl) ?_
          refine lv_iload (pc := 34) hx hb dX10_isStalled_34 (lv_at hl 5 rfl) ?_
          refine lv_iconst (pc := 36) (v := 4) hx hb dX10_isStalled_36 (by decide) ?_
          refine lv_iconst (pc := 37) (v := 0) hx hb dX10_isStalled_37 (by decide) ?_
          refine r_cVi (pc := 38) (As := [.int v9, .int 4, .int 0]) (rest := [.int v7]) CX P hl.1 hF kv_X10_114 (fun r h1 q => c_X10_ofProcess l G B _ _ _ _ _ _ _ q) rfl rfl ⟨Nat.le_of_ble_eq_true rfl, Nat.le_of_ble_eq_true rfl⟩ (Nat.le_of_ble_eq_true rfl) ⟨Nat.le_of_ble_eq_true rfl, Nat.le_of_ble_eq_true rfl⟩ dX10_isStalled_38 (fun v13 h14 H locs P hF => ?_)
          replace hF := un_i hF
          refine lv_if_le (pc := 41) (tgt := 51) hx hb dX10_isStalled_41 (by decide) (fun hc => ?_) (fun hc => ?_)
          · rw [if_pos hc] at hF
            refine lv_iconst (pc := 51) (v := 0) hx hb dX10_isStalled_51 (by decide) ?_
            exact hJ12 _ _ _ _ _ P (lv_sub hl [0, 1, 2, 4, 5] rfl) (Option.some.inj hF)
          · rw [if_neg hc] at hF
            refine lv_iconst (pc := 44) (v := 1) hx hb dX10_isStalled_44 (by decide) ?_
            refine lv_iload (pc := 45) hx hb dX10_isStalled_45 (lv_at hl 5 rfl) ?_
            refine lv_ishl (pc := 47) hx hb dX10_isStalled_47 ?_
            refine lv_goto (pc := 48) (tgt := 52) hx hb dX10_isStalled_48 (by decide) ?_
            exact hJ12 _ _ _ _ _ P (lv_sub hl [0, 1, 2, 4, 5] rfl) (Option.some.inj hF)
  exact hL3 _ _ _ _ _ _ _ _ P (lv_sub hl [4, 6, 3, 2, 1, 0] rfl) hLp3
def F_X10_averages_L3 (a2 : Nat) (v3 : Int32) (v4 : Int32) (v5 : Int32) (v6 : Int32) (h7 : Hp) : Option ((Int32 × Hp) ⊕ (Hp)) :=
if 3 ≤ v6 then (
some (.inr h7)) else (
bl ((25 + (3 * v4)) + v6) fun v8 =>
(gR h7 a2 10 7).bind fun a9 =>
(aI h7 a9 v6).bind fun v10 =>
(cO h7 a2 10 (F_X10_of h7 a2 v3 v8 0)).bind (un fun v11 h12 =>
(if v5 = 0 then (
some (0 : Int32)) else (
some (1000 : Int32))).bind fun v14 =>
(gR h12 a2 10 7).bind fun a15 =>
(aI h12 a15 v6).bind fun v16 =>
(dvI (((v10 - 1) * v11) + v14) v16).bind fun v17 =>
(cO h12 a2 10 (F_X10_lays h12 a2 v3 v8 v17)).bind fun h18 =>
bl (v6 + 1) fun v19 =>
some (.inl (v19, h18))))
def F_X10_averages (h : Hp) (a0 : Nat) (vp1 : Int32) (vp2 : Int32) (vp3 : Int32) : Option (Hp) :=
(loopF (fun x => F_X10_averages_L3 a0 vp1 vp2 vp3 x.1 x.2) 6000 (0, h)).bind fun h20 =>
some h20
set_option maxRecDepth 100000 in
set_option maxHeartbeats 4000000 in
theorem c_X10_averages (l : Launch) (G : GG) (B : Nat) (h : Hp) (a0 : Nat) (vp1 : Int32) (vp2 : Int32) (vp3 : Int32) (hr : Hp) (hF : F_X10_averages h a0 vp1 vp2 vp3 = some hr) : CV l yX10_averages cX10_averages 6 1 23 0 0 G B h [.ref (B + a0), .int vp1, .int vp2, .int vp3] hr := by
  refine ent_v rfl (Nat.le_of_ble_eq_true rfl) ?_
  intro p e s m args below meth c ls Q CX hnm hret P hl
  have CX : Cxt p m c cX10_averages 6 s args RX10 G B := CX
  obtain ⟨⟨hx, hb, hml, hown, hts⟩, -, -⟩ := id CX
  replace hl : lv_has ls 6 [(0, .ref (B + a0)), (1, .int vp1), (2, .int vp2), (3, .int vp3)] := hl
  generalize s.heap = H at P ⊢
  generalize ([] : List Loc) = locs at P ⊢
  unfold F_X10_averages at hF
  refine lv_iconst (pc := 0) (v := 0) hx hb dX10_averages_0 (by decide) ?_
  refine lv_istore (pc := 1) hx hb dX10_averages_1 hl (by decide) rfl (fun ls hl => ?_)
  replace hl : lv_has ls 6 [(4, .int 0), (0, .ref (B + a0)), (1, .int vp1), (2, .int vp2), (3, .int vp3)] := hl
  obtain ⟨r1, hLp1, hK1⟩ := bd_some hF
  have hX1 : ∀ (h20 : Hp) (H : Heap) (locs : List Loc) (ls : Array Slot), Pic G B h20 s H locs → lv_has ls 6 [] → h20 = r1 → W p l e (rmM 1 23 0 0) s m args below meth c H locs 0 0 Q (F0 m 71 ls []) := by
    intro h20 H locs ls P hl er
    subst er
    have hF := hK1
    cases hF
    exact hret _ _ _ _ P dX10_averages_71
  have hL1 : ∀ (n : Nat) (v6 : Int32) (h7 : Hp) (H : Heap) (locs : List Loc) (ls : Array Slot), Pic G B h7 s H locs → lv_has ls 6 [(0, .ref (B + a0)), (1, .int vp1), (2, .int vp2), (3, .int vp3), (4, .int v6)] → loopF (fun x => F_X10_averages_L3 a0 vp1 vp2 vp3 x.1 x.2) n (v6, h7) = some r1 → W p l e (rmM 1 23 0 0) s m args below meth c H locs 0 0 Q (F0 m 3 ls []) := by
    intro n
    induction n with
    | zero => intro v6 h7 H locs ls P hl hq; cases hq
    | succ n ih =>
      intro v6 h7 H locs ls P hl hq
      obtain ⟨z1, hS1, hI1, hR1⟩ := loop_some hq
      have hF : F_X10_averages_L3 a0 vp1 vp2 vp3 v6 h7 = some z1 := hS1
      unfold F_X10_averages_L3 at hF
      refine lv_iload (pc := 3) hx hb dX10_averages_3 (lv_at hl 4 rfl) ?_
      refine lv_iconst (pc := 5) (v := 3) hx hb dX10_averages_5 (by decide) ?_
      refine lv_icmp_ge (pc := 6) (tgt := 71) hx hb dX10_averages_6 (by decide) (fun hc => ?_) (fun hc => ?_)
      · rw [if_pos hc] at hF
        exact hX1 _ _ _ _ P (lv_sub hl [] rfl) (hR1 _ (Option.some.inj hF).symm)
      · rw [if_neg hc] at hF
        refine lv_bipush (pc := 9) (v := 25) hx hb dX10_averages_9 (by decide) ?_
        refine lv_iconst (pc := 11) (v := 3) hx hb dX10_averages_11 (by decide) ?_
        refine lv_iload_n (pc := 12) hx hb dX10_averages_12 rfl (lv_at hl 2 rfl) ?_
        refine lv_imul (pc := 13) hx hb dX10_averages_13 ?_
        refine lv_iadd (pc := 14) hx hb dX10_averages_14 ?_
        refine lv_iload (pc := 15) hx hb dX10_averages_15 (lv_at hl 4 rfl) ?_
        refine lv_iadd (pc := 17) hx hb dX10_averages_17 ?_
        refine lv_topi (fun v8 ev8 => ?_)
        replace hF := bl_e hF ev8
        refine lv_istore (pc := 18) hx hb dX10_averages_18 hl (by decide) rfl (fun ls hl => ?_)
        replace hl : lv_has ls 6 [(5, .int v8), (0, .ref (B + a0)), (1, .int vp1), (2, .int vp2), (3, .int vp3), (4, .int v6)] := hl
        refine lv_aload_n (pc := 20) hx hb dX10_averages_20 rfl (lv_at hl 1 rfl) ?_
        refine lv_iload_n (pc := 21) hx hb dX10_averages_21 rfl (lv_at hl 2 rfl) ?_
        refine lv_iload (pc := 22) hx hb dX10_averages_22 (lv_at hl 0 rfl) ?_
        refine lv_aload_n (pc := 24) hx hb dX10_averages_24 rfl (lv_at hl 1 rfl) ?_
        refine r_gR (pc := 25) CX P hF fl_X10_32 dX10_averages_25 (fun a9 hF => ?_)
        refine lv_iload (pc := 28) hx hb dX10_averages_28 (lv_at hl 5 rfl) ?_
        refine r_aI (pc := 30) CX P hF dX10_averages_30 (fun v10 hF => ?_)
        refine lv_iconst (pc := 31) (v := 1) hx hb dX10_averages_31 (by decide) ?_
        refine lv_isub (pc := 32) hx hb dX10_averages_32 ?_
        refine lv_aload_n (pc := 33) hx hb dX10_averages_33 rfl (lv_at hl 1 rfl) ?_
        refine lv_iload_n (pc := 34) hx hb dX10_averages_34 rfl (lv_at hl 2 rfl) ?_
        refine lv_iload (pc := 35) hx hb dX10_averages_35 (lv_at hl 0 rfl) ?_
        refine lv_iconst (pc := 37) (v := 0) hx hb dX10_averages_37 (by decide) ?_
        refine r_cVi (pc := 38) (As := [.int vp1, .int v8, .int 0]) (rest := [.int (v10 - 1), .int v8, .int vp1, .ref (B + a0)]) CX P hl.1 hF kv_X10_99 (fun r h1 q => c_X10_of l G B _ _ _ _ _ _ _ q) rfl rfl ⟨Nat.le_of_ble_eq_true rfl, Nat.le_of_ble_eq_true rfl⟩ (Nat.le_of_ble_eq_true rfl) ⟨Nat.le_of_ble_eq_true rfl, Nat.le_of_ble_eq_true rfl⟩ dX10_averages_38 (fun v11 h12 H locs P hF => ?_)
        replace hF := un_i hF
        refine lv_imul (pc := 41) hx hb dX10_averages_41 ?_
        refine lv_iload_n (pc := 42) hx hb dX10_averages_42 rfl (lv_at hl 4 rfl) ?_
        obtain ⟨j13, hA13, hK13⟩ := bd_some hF
        have hJ13 : ∀ (v14 : Int32) (H : Heap) (locs : List Loc) (ls : Array Slot), Pic G B h12 s H locs → lv_has ls 6 [(0, .ref (B + a0)), (1, .int vp1), (2, .int vp2), (3, .int vp3), (4, .int v6)] → v14 = j13 → W p l e (rmM 1 23 0 0) s m args below meth c H locs 0 0 Q (F0 m 53 ls [.int v14, .int ((v10 - 1) * v11), .int v8, .int vp1, .ref (B + a0)]) := by
          intro v14 H locs ls P hl ej
          subst ej
          have hF := hK13
          refine lv_iadd (pc := 53) hx hb dX10_averages_53 ?_
          refine lv_aload_n (pc := 54) hx hb dX10_averages_54 rfl (lv_at hl 0 rfl) ?_
          refine r_gR (pc := 55) CX P hF fl_X10_32 dX10_averages_55 (fun a15 hF => ?_)
          refine lv_iload (pc := 58) hx hb dX10_averages_58 (lv_at hl 4 rfl) ?_
          refine r_aI (pc := 60) CX P hF dX10_averages_60 (fun v16 hF => ?_)
          refine r_dv (pc := 61) hx hb hF dX10_averages_61 (fun v17 hF => ?_)
          refine r_cVv (pc := 62) (As := [.int vp1, .int v8, .int v17]) (rest := []) CX P hl.1 hF kv_X10_95 (fun h1 q => c_X10_lays l G B _ _ _ _ _ _ q) rfl rfl ⟨Nat.le_of_ble_eq_true rfl, Nat.le_of_ble_eq_true rfl⟩ (Nat.le_of_ble_eq_true rfl) ⟨Nat.le_of_ble_eq_true rfl, Nat.le_of_ble_eq_true rfl⟩ dX10_averages_62 (fun h18 H locs P hF => ?_)
          obtain ⟨v19, ev19, hF⟩ := bl_o hF
          refine lv_iinc (pc := 65) (k := 4) (v := v19) hx hb dX10_averages_65 hl rfl ev19 (by decide) rfl (fun ls hl => ?_)
          replace hl : lv_has ls 6 [(4, .int v19), (0, .ref (B + a0)), (1, .int vp1), (2, .int vp2), (3, .int vp3)] := hl
          refine lv_goto (pc := 68) (tgt := 3) hx hb dX10_averages_68 (by decide) ?_
          exact ih _ _ _ _ _ P (lv_sub hl [1, 2, 3, 4, 0] rfl) (hI1 _ (Option.some.inj hF).symm)
        replace hF := hA13
        refine lv_if_eq (pc := 43) (tgt := 52) hx hb dX10_averages_43 (by decide) (fun hc => ?_) (fun hc => ?_)
        · rw [if_pos hc] at hF
          refine lv_iconst (pc := 52) (v := 0) hx hb dX10_averages_52 (by decide) ?_
          exact hJ13 _ _ _ _ P (lv_sub hl [1, 2, 3, 4, 5] rfl) (Option.some.inj hF)
        · rw [if_neg hc] at hF
          refine lv_sipush (pc := 46) (v := 1000) hx hb dX10_averages_46 (by decide) ?_
          refine lv_goto (pc := 49) (tgt := 53) hx hb dX10_averages_49 (by decide) ?_
          exact hJ13 _ _ _ _ P (lv_sub hl [1, 2, 3, 4, 5] rfl) (Option.some.inj hF)
  exact hL1 _ _ _ _ _ _ P (lv_sub hl [1, 2, 3, 4, 0] rfl) hLp1
def F_X10_isOver (h : Hp) (a0 : Nat) (vp1 : Int32) : Option (Int32 × Hp) :=
bl (543 + (4 * vp1)) fun v1 =>
(gR h a0 10 1).bind fun a2 =>
(aI h a2 (v1 + 0)).bind fun v3 =>
(gR h a0 10 1).bind fun a4 =>
(aI h a4 (v1 + 1)).bind fun v5 =>
(cO h a0 10 (F_X10_pressureOf h a0 v3 0 v5)).bind (un fun v6 h7 =>
(gR h7 a0 10 1).bind fun a8 =>
(aI h7 a8 (v1 + 2)).bind fun v9 =>
if v6 < v9 then (
some (0, h7)) else (
some (1, h7)))
set_option maxRecDepth 100000 in
set_option maxHeartbeats 4000000 in
theorem c_X10_isOver (l : Launch) (G : GG) (B : Nat) (h : Hp) (a0 : Nat) (vp1 : Int32) (r0 : Int32) (hr : Hp) (hF : F_X10_isOver h a0 vp1 = some (r0, hr)) : CI l yX10_isOver cX10_isOver 3 .boolean 3 72 0 0 G B h [.ref (B + a0), .int vp1] r0 hr := by
  refine ent_i rfl (Nat.le_of_ble_eq_true rfl) ?_
  intro p e s m args below meth c ls Q CX hnm hret P hl
  have CX : Cxt p m c cX10_isOver 3 s args RX10 G B := CX
  obtain ⟨⟨hx, hb, hml, hown, hts⟩, -, -⟩ := id CX
  replace hl : lv_has ls 3 [(0, .ref (B + a0)), (1, .int vp1)] := hl
  generalize s.heap = H at P ⊢
  generalize ([] : List Loc) = locs at P ⊢
  unfold F_X10_isOver at hF
  refine lv_sipush (pc := 0) (v := 543) hx hb dX10_isOver_0 (by decide) ?_
  refine lv_iconst (pc := 3) (v := 4) hx hb dX10_isOver_3 (by decide) ?_
  refine lv_iload_n (pc := 4) hx hb dX10_isOver_4 rfl (lv_at hl 1 rfl) ?_
  refine lv_imul (pc := 5) hx hb dX10_isOver_5 ?_
  refine lv_iadd (pc := 6) hx hb dX10_isOver_6 ?_
  refine lv_topi (fun v1 ev1 => ?_)
  replace hF := bl_e hF ev1
  refine lv_istore_n (pc := 7) hx hb dX10_isOver_7 rfl hl (by decide) rfl (fun ls hl => ?_)
  replace hl : lv_has ls 3 [(2, .int v1), (0, .ref (B + a0)), (1, .int vp1)] := hl
  refine lv_aload_n (pc := 8) hx hb dX10_isOver_8 rfl (lv_at hl 1 rfl) ?_
  refine lv_aload_n (pc := 9) hx hb dX10_isOver_9 rfl (lv_at hl 1 rfl) ?_
  refine r_gR (pc := 10) CX P hF fl_X10_13 dX10_isOver_10 (fun a2 hF => ?_)
  refine lv_iload_n (pc := 13) hx hb dX10_isOver_13 rfl (lv_at hl 0 rfl) ?_
  refine lv_iconst (pc := 14) (v := 0) hx hb dX10_isOver_14 (by decide) ?_
  refine lv_iadd (pc := 15) hx hb dX10_isOver_15 ?_
  refine r_aI (pc := 16) CX P hF dX10_isOver_16 (fun v3 hF => ?_)
  refine lv_iconst (pc := 17) (v := 0) hx hb dX10_isOver_17 (by decide) ?_
  refine lv_aload_n (pc := 18) hx hb dX10_isOver_18 rfl (lv_at hl 1 rfl) ?_
  refine r_gR (pc := 19) CX P hF fl_X10_13 dX10_isOver_19 (fun a4 hF => ?_)
  refine lv_iload_n (pc := 22) hx hb dX10_isOver_22 rfl (lv_at hl 0 rfl) ?_
  refine lv_iconst (pc := 23) (v := 1) hx hb dX10_isOver_23 (by decide) ?_
  refine lv_iadd (pc := 24) hx hb dX10_isOver_24 ?_
  refine r_aI (pc := 25) CX P hF dX10_isOver_25 (fun v5 hF => ?_)
  refine r_cVi (pc := 26) (As := [.int v3, .int 0, .int v5]) (rest := []) CX P hl.1 hF kv_X10_285 (fun r h1 q => c_X10_pressureOf l G B _ _ _ _ _ _ _ q) rfl rfl ⟨Nat.le_of_ble_eq_true rfl, Nat.le_of_ble_eq_true rfl⟩ (Nat.le_of_ble_eq_true rfl) ⟨Nat.le_of_ble_eq_true rfl, Nat.le_of_ble_eq_true rfl⟩ dX10_isOver_26 (fun v6 h7 H locs P hF => ?_)
  replace hF := un_i hF
  refine lv_aload_n (pc := 29) hx hb dX10_isOver_29 rfl (lv_at hl 1 rfl) ?_
  refine r_gR (pc := 30) CX P hF fl_X10_13 dX10_isOver_30 (fun a8 hF => ?_)
  refine lv_iload_n (pc := 33) hx hb dX10_isOver_33 rfl (lv_at hl 0 rfl) ?_
  refine lv_iconst (pc := 34) (v := 2) hx hb dX10_isOver_34 (by decide) ?_
  refine lv_iadd (pc := 35) hx hb dX10_isOver_35 ?_
  refine r_aI (pc := 36) CX P hF dX10_isOver_36 (fun v9 hF => ?_)
  refine lv_icmp_lt (pc := 37) (tgt := 44) hx hb dX10_isOver_37 (by decide) (fun hc => ?_) (fun hc => ?_)
  · rw [if_pos hc] at hF
    refine lv_iconst (pc := 44) (v := 0) hx hb dX10_isOver_44 (by decide) ?_
    cases hF
    exact hret _ _ _ _ P rfl dX10_isOver_45
  · rw [if_neg hc] at hF
    refine lv_iconst (pc := 40) (v := 1) hx hb dX10_isOver_40 (by decide) ?_
    refine lv_goto (pc := 41) (tgt := 45) hx hb dX10_isOver_41 (by decide) ?_
    cases hF
    exact hret _ _ _ _ P rfl dX10_isOver_45
