def F_X2_doWork_L27 (a10 : Nat) (a11 : Nat) (v12 : Int32) (h13 : Hp) : Option ((Int32 × Hp) ⊕ (Hp)) :=
if 12 ≤ v12 then (
some (.inr h13)) else (
(gR h13 a11 8 0).bind fun a14 =>
(gR h13 a14 6 7).bind fun a15 =>
(aI h13 a15 v12).bind fun v16 =>
(gR h13 a10 2 0).bind fun a17 =>
(aI h13 a17 v12).bind fun v18 =>
(sI h13 a15 v12 (v16 + v18)).bind fun h19 =>
bl (v12 + 1) fun v20 =>
some (.inl (v20, h19)))
def F_X2_doWork_L59 (a23 : Nat) (a24 : Nat) (v25 : Int32) (h26 : Hp) : Option ((Int32 × Hp) ⊕ (Hp)) :=
if 16 ≤ v25 then (
some (.inr h26)) else (
(gR h26 a24 8 1).bind fun a27 =>
(gR h26 a27 0 5).bind fun a28 =>
(aI h26 a28 v25).bind fun v29 =>
(gR h26 a23 2 0).bind fun a30 =>
(aI h26 a30 (12 + v25)).bind fun v31 =>
(sI h26 a28 v25 (v29 - v31)).bind fun h32 =>
(gR h32 a24 8 1).bind fun a33 =>
(gR h32 a33 0 6).bind fun a34 =>
(aI h32 a34 v25).bind fun v35 =>
(gR h32 a23 2 0).bind fun a36 =>
(aI h32 a36 (12 + v25)).bind fun v37 =>
(sI h32 a34 v25 (v35 + v37)).bind fun h38 =>
bl (v25 + 1) fun v39 =>
some (.inl (v39, h38)))
def F_X2_doWork (h : Hp) (a0 : Nat) (ap1 : Nat) : Option (Hp) :=
(gI h ap1 8 7).bind fun v1 =>
(rmI v1 5).bind fun v2 =>
(if v2 = 0 then (
(gR h ap1 8 0).bind fun a4 =>
(gR h a4 6 7).bind fun a5 =>
(F_J7_fill_53178 h a5 0).bind fun h6 =>
some h6) else (
some h)).bind fun h7 =>
(cO h7 a0 2 (F_X2_plan h7 a0 ap1)).bind fun h8 =>
(loopF (fun x => F_X2_doWork_L27 a0 ap1 x.1 x.2) 6000 (0, h8)).bind fun h21 =>
(loopF (fun x => F_X2_doWork_L59 a0 ap1 x.1 x.2) 6000 (0, h21)).bind fun h40 =>
some h40
set_option maxRecDepth 100000 in
set_option maxHeartbeats 4000000 in
theorem c_X2_doWork (l : Launch) (G : GG) (B : Nat) (h : Hp) (a0 : Nat) (ap1 : Nat) (hr : Hp) (hF : F_X2_doWork h a0 ap1 = some hr) : CV l yX2_doWork cX2_doWork 3 4 110 0 0 G B h [.ref (B + a0), .ref (B + ap1)] hr := by
  refine ent_v rfl (Nat.le_of_ble_eq_true rfl) ?_
  intro p e s m args below meth c ls Q CX hnm hret P hl
  have CX : Cxt p m c cX2_doWork 3 s args RX2 G B := CX
  obtain ⟨⟨hx, hb, hml, hown, hts⟩, -, -⟩ := id CX
  replace hl : lv_has ls 3 [(0, .ref (B + a0)), (1, .ref (B + ap1))] := hl
  generalize s.heap = H at P ⊢
  generalize ([] : List Loc) = locs at P ⊢
  unfold F_X2_doWork at hF
  refine lv_aload_n (pc := 0) hx hb dX2_doWork_0 rfl (lv_at hl 1 rfl) ?_
  refine r_gI (pc := 1) CX P hF fl_X2_56 dX2_doWork_1 (fun v1 hF => ?_)
  refine lv_iconst (pc := 4) (v := 5) hx hb dX2_doWork_4 (by decide) ?_
  refine r_rm (pc := 5) hx hb hF dX2_doWork_5 (fun v2 hF => ?_)
  obtain ⟨j3, hA3, hK3⟩ := bd_some hF
  have hJ3 : ∀ (h7 : Hp) (H : Heap) (locs : List Loc) (ls : Array Slot), Pic G B h7 s H locs → lv_has ls 3 [(0, .ref (B + a0)), (1, .ref (B + ap1))] → h7 = j3 → W p l e (rmM 4 110 0 0) s m args below meth c H locs 0 0 Q (F0 m 20 ls []) := by
    intro h7 H locs ls P hl ej
    subst ej
    have hF := hK3
    refine lv_aload_n (pc := 20) hx hb dX2_doWork_20 rfl (lv_at hl 0 rfl) ?_
    refine lv_aload_n (pc := 21) hx hb dX2_doWork_21 rfl (lv_at hl 1 rfl) ?_
    refine r_cVv (pc := 22) (As := [.ref (B + ap1)]) (rest := []) CX P hl.1 hF kv_X2_62 (fun h1 q => c_X2_plan l G B _ _ _ _ q) rfl rfl ⟨Nat.le_of_ble_eq_true rfl, Nat.le_of_ble_eq_true rfl⟩ (Nat.le_of_ble_eq_true rfl) ⟨Nat.le_of_ble_eq_true rfl, Nat.le_of_ble_eq_true rfl⟩ dX2_doWork_22 (fun h8 H locs P hF => ?_)
    refine lv_iconst (pc := 25) (v := 0) hx hb dX2_doWork_25 (by decide) ?_
    refine lv_istore_n (pc := 26) hx hb dX2_doWork_26 rfl hl (by decide) rfl (fun ls hl => ?_)
    replace hl : lv_has ls 3 [(2, .int 0), (0, .ref (B + a0)), (1, .ref (B + ap1))] := hl
    obtain ⟨r9, hLp9, hK9⟩ := bd_some hF
    have hX9 : ∀ (h21 : Hp) (H : Heap) (locs : List Loc) (ls : Array Slot), Pic G B h21 s H locs → lv_has ls 3 [(0, .ref (B + a0)), (1, .ref (B + ap1))] → h21 = r9 → W p l e (rmM 4 110 0 0) s m args below meth c H locs 0 0 Q (F0 m 57 ls []) := by
      intro h21 H locs ls P hl er
      subst er
      have hF := hK9
      refine lv_iconst (pc := 57) (v := 0) hx hb dX2_doWork_57 (by decide) ?_
      refine lv_istore_n (pc := 58) hx hb dX2_doWork_58 rfl hl (by decide) rfl (fun ls hl => ?_)
      replace hl : lv_has ls 3 [(2, .int 0), (0, .ref (B + a0)), (1, .ref (B + ap1))] := hl
      obtain ⟨r22, hLp22, hK22⟩ := bd_some hF
      have hX22 : ∀ (h40 : Hp) (H : Heap) (locs : List Loc) (ls : Array Slot), Pic G B h40 s H locs → lv_has ls 3 [] → h40 = r22 → W p l e (rmM 4 110 0 0) s m args below meth c H locs 0 0 Q (F0 m 113 ls []) := by
        intro h40 H locs ls P hl er
        subst er
        have hF := hK22
        cases hF
        exact hret _ _ _ _ P dX2_doWork_113
      have hL22 : ∀ (n : Nat) (v25 : Int32) (h26 : Hp) (H : Heap) (locs : List Loc) (ls : Array Slot), Pic G B h26 s H locs → lv_has ls 3 [(0, .ref (B + a0)), (1, .ref (B + ap1)), (2, .int v25)] → loopF (fun x => F_X2_doWork_L59 a0 ap1 x.1 x.2) n (v25, h26) = some r22 → W p l e (rmM 4 110 0 0) s m args below meth c H locs 0 0 Q (F0 m 59 ls []) := by
        intro n
        induction n with
        | zero => intro v25 h26 H locs ls P hl hq; cases hq
        | succ n ih =>
          intro v25 h26 H locs ls P hl hq
          obtain ⟨z22, hS22, hI22, hR22⟩ := loop_some hq
          have hF : F_X2_doWork_L59 a0 ap1 v25 h26 = some z22 := hS22
          unfold F_X2_doWork_L59 at hF
          refine lv_iload_n (pc := 59) hx hb dX2_doWork_59 rfl (lv_at hl 2 rfl) ?_
          refine lv_bipush (pc := 60) (v := 16) hx hb dX2_doWork_60 (by decide) ?_
          refine lv_icmp_ge (pc := 62) (tgt := 113) hx hb dX2_doWork_62 (by decide) (fun hc => ?_) (fun hc => ?_)
          · rw [if_pos hc] at hF
            exact hX22 _ _ _ _ P (lv_sub hl [] rfl) (hR22 _ (Option.some.inj hF).symm)
          · rw [if_neg hc] at hF
            refine lv_aload_n (pc := 65) hx hb dX2_doWork_65 rfl (lv_at hl 1 rfl) ?_
            refine r_gR (pc := 66) CX P hF fl_X2_65 dX2_doWork_66 (fun a27 hF => ?_)
            refine r_gR (pc := 69) CX P hF fl_X2_69 dX2_doWork_69 (fun a28 hF => ?_)
            refine lv_iload_n (pc := 72) hx hb dX2_doWork_72 rfl (lv_at hl 2 rfl) ?_
            refine lv_dup2_11 (pc := 73) hx hb dX2_doWork_73 rfl rfl ?_
            refine r_aI (pc := 74) CX P hF dX2_doWork_74 (fun v29 hF => ?_)
            refine lv_aload_n (pc := 75) hx hb dX2_doWork_75 rfl (lv_at hl 0 rfl) ?_
            refine r_gR (pc := 76) CX P hF fl_X2_11 dX2_doWork_76 (fun a30 hF => ?_)
            refine lv_bipush (pc := 79) (v := 12) hx hb dX2_doWork_79 (by decide) ?_
            refine lv_iload_n (pc := 81) hx hb dX2_doWork_81 rfl (lv_at hl 2 rfl) ?_
            refine lv_iadd (pc := 82) hx hb dX2_doWork_82 ?_
            refine r_aI (pc := 83) CX P hF dX2_doWork_83 (fun v31 hF => ?_)
            refine lv_isub (pc := 84) hx hb dX2_doWork_84 ?_
            refine r_sI (pc := 85) CX P hF dX2_doWork_85 (fun h32 H locs P hF => ?_)
            refine lv_aload_n (pc := 86) hx hb dX2_doWork_86 rfl (lv_at hl 1 rfl) ?_
            refine r_gR (pc := 87) CX P hF fl_X2_65 dX2_doWork_87 (fun a33 hF => ?_)
            refine r_gR (pc := 90) CX P hF fl_X2_74 dX2_doWork_90 (fun a34 hF => ?_)
            refine lv_iload_n (pc := 93) hx hb dX2_doWork_93 rfl (lv_at hl 2 rfl) ?_
            refine lv_dup2_11 (pc := 94) hx hb dX2_doWork_94 rfl rfl ?_
            refine r_aI (pc := 95) CX P hF dX2_doWork_95 (fun v35 hF => ?_)
            refine lv_aload_n (pc := 96) hx hb dX2_doWork_96 rfl (lv_at hl 0 rfl) ?_
            refine r_gR (pc := 97) CX P hF fl_X2_11 dX2_doWork_97 (fun a36 hF => ?_)
            refine lv_bipush (pc := 100) (v := 12) hx hb dX2_doWork_100 (by decide) ?_
            refine lv_iload_n (pc := 102) hx hb dX2_doWork_102 rfl (lv_at hl 2 rfl) ?_
            refine lv_iadd (pc := 103) hx hb dX2_doWork_103 ?_
            refine r_aI (pc := 104) CX P hF dX2_doWork_104 (fun v37 hF => ?_)
            refine lv_iadd (pc := 105) hx hb dX2_doWork_105 ?_
            refine r_sI (pc := 106) CX P hF dX2_doWork_106 (fun h38 H locs P hF => ?_)
            obtain ⟨v39, ev39, hF⟩ := bl_o hF
            refine lv_iinc (pc := 107) (k := 2) (v := v39) hx hb dX2_doWork_107 hl rfl ev39 (by decide) rfl (fun ls hl => ?_)
            replace hl : lv_has ls 3 [(2, .int v39), (0, .ref (B + a0)), (1, .ref (B + ap1))] := hl
            refine lv_goto (pc := 110) (tgt := 59) hx hb dX2_doWork_110 (by decide) ?_
            exact ih _ _ _ _ _ P (lv_sub hl [1, 2, 0] rfl) (hI22 _ (Option.some.inj hF).symm)
      exact hL22 _ _ _ _ _ _ P (lv_sub hl [1, 2, 0] rfl) hLp22
    have hL9 : ∀ (n : Nat) (v12 : Int32) (h13 : Hp) (H : Heap) (locs : List Loc) (ls : Array Slot), Pic G B h13 s H locs → lv_has ls 3 [(0, .ref (B + a0)), (1, .ref (B + ap1)), (2, .int v12)] → loopF (fun x => F_X2_doWork_L27 a0 ap1 x.1 x.2) n (v12, h13) = some r9 → W p l e (rmM 4 110 0 0) s m args below meth c H locs 0 0 Q (F0 m 27 ls []) := by
      intro n
      induction n with
      | zero => intro v12 h13 H locs ls P hl hq; cases hq
      | succ n ih =>
        intro v12 h13 H locs ls P hl hq
        obtain ⟨z9, hS9, hI9, hR9⟩ := loop_some hq
        have hF : F_X2_doWork_L27 a0 ap1 v12 h13 = some z9 := hS9
        unfold F_X2_doWork_L27 at hF
        refine lv_iload_n (pc := 27) hx hb dX2_doWork_27 rfl (lv_at hl 2 rfl) ?_
        refine lv_bipush (pc := 28) (v := 12) hx hb dX2_doWork_28 (by decide) ?_
        refine lv_icmp_ge (pc := 30) (tgt := 57) hx hb dX2_doWork_30 (by decide) (fun hc => ?_) (fun hc => ?_)
        · rw [if_pos hc] at hF
          exact hX9 _ _ _ _ P (lv_sub hl [0, 1] rfl) (hR9 _ (Option.some.inj hF).symm)
        · rw [if_neg hc] at hF
          refine lv_aload_n (pc := 33) hx hb dX2_doWork_33 rfl (lv_at hl 1 rfl) ?_
          refine r_gR (pc := 34) CX P hF fl_X2_40 dX2_doWork_34 (fun a14 hF => ?_)
          refine r_gR (pc := 37) CX P hF fl_X2_59 dX2_doWork_37 (fun a15 hF => ?_)
          refine lv_iload_n (pc := 40) hx hb dX2_doWork_40 rfl (lv_at hl 2 rfl) ?_
          refine lv_dup2_11 (pc := 41) hx hb dX2_doWork_41 rfl rfl ?_
          refine r_aI (pc := 42) CX P hF dX2_doWork_42 (fun v16 hF => ?_)
          refine lv_aload_n (pc := 43) hx hb dX2_doWork_43 rfl (lv_at hl 0 rfl) ?_
          refine r_gR (pc := 44) CX P hF fl_X2_11 dX2_doWork_44 (fun a17 hF => ?_)
          refine lv_iload_n (pc := 47) hx hb dX2_doWork_47 rfl (lv_at hl 2 rfl) ?_
          refine r_aI (pc := 48) CX P hF dX2_doWork_48 (fun v18 hF => ?_)
          refine lv_iadd (pc := 49) hx hb dX2_doWork_49 ?_
          refine r_sI (pc := 50) CX P hF dX2_doWork_50 (fun h19 H locs P hF => ?_)
          obtain ⟨v20, ev20, hF⟩ := bl_o hF
          refine lv_iinc (pc := 51) (k := 2) (v := v20) hx hb dX2_doWork_51 hl rfl ev20 (by decide) rfl (fun ls hl => ?_)
          replace hl : lv_has ls 3 [(2, .int v20), (0, .ref (B + a0)), (1, .ref (B + ap1))] := hl
          refine lv_goto (pc := 54) (tgt := 27) hx hb dX2_doWork_54 (by decide) ?_
          exact ih _ _ _ _ _ P (lv_sub hl [1, 2, 0] rfl) (hI9 _ (Option.some.inj hF).symm)
    exact hL9 _ _ _ _ _ _ P (lv_sub hl [1, 2, 0] rfl) hLp9
  replace hF := hA3
  refine lv_if_ne (pc := 6) (tgt := 20) hx hb dX2_doWork_6 (by decide) (fun hc => ?_) (fun hc => ?_)
  · rw [if_neg hc] at hF
    exact hJ3 _ _ _ _ P (lv_sub hl [0, 1] rfl) (Option.some.inj hF)
  · rw [if_pos hc] at hF
    refine lv_aload_n (pc := 9) hx hb dX2_doWork_9 rfl (lv_at hl 1 rfl) ?_
    refine r_gR (pc := 10) CX P hF fl_X2_40 dX2_doWork_10 (fun a4 hF => ?_)
    refine r_gR (pc := 13) CX P hF fl_X2_59 dX2_doWork_13 (fun a5 hF => ?_)
    refine lv_iconst (pc := 16) (v := 0) hx hb dX2_doWork_16 (by decide) ?_
    refine r_cSv (pc := 17) (As := [.ref (B + a5), .int 0]) (rest := []) CX P hl.1 hF ks_X2_22 (fun h1 q => c_J7_fill_53178 l G B _ _ _ _ q) rfl rfl ⟨Nat.le_of_ble_eq_true rfl, Nat.le_of_ble_eq_true rfl⟩ (Nat.le_of_ble_eq_true rfl) ⟨Nat.le_of_ble_eq_true rfl, Nat.le_of_ble_eq_true rfl⟩ dX2_doWork_17 (fun h6 H locs P hF => ?_)
    exact hJ3 _ _ _ _ P (lv_sub hl [0, 1] rfl) (Option.some.inj hF)
def F_X3_leftBehindMove_L50 (h16 : Hp) (a10 : Nat) (v11 : Int32) (v12 : Int32) (v13 : Int32) (v14 : Int32) (v15 : Int32) : Option ((Int32 × Int32 × Int32) ⊕ (Int32)) :=
if v14 = (-1) then (
some (.inr v13)) else (
if v14 = v12 then (
some (.inr v13)) else (
if 12 ≤ v15 then (
some (.inr v13)) else (
(gR h16 a10 8 0).bind fun a17 =>
(gR h16 a17 6 3).bind fun a18 =>
(aR h16 a18 15 3).bind fun a19 =>
(aI h16 a19 v14).bind fun v20 =>
(gR h16 a10 8 0).bind fun a21 =>
(gR h16 a21 6 5).bind fun a22 =>
(aI h16 a22 v14).bind fun v23 =>
(gR h16 a10 8 1).bind fun a24 =>
(cO h16 a24 0 (F_X0_held h16 a24 v11)).bind fun v25 =>
bl ((v20 - v23) - v25) fun v26 =>
bl (mnI v13 v26) fun v27 =>
(gR h16 a10 8 0).bind fun a28 =>
(gR h16 a28 6 0).bind fun a29 =>
(aI h16 a29 v14).bind fun v30 =>
bl (v15 + 1) fun v31 =>
some (.inl (v27, v30, v31)))))
def F_X3_leftBehindMove (h : Hp) (a0 : Nat) (ap1 : Nat) (vp2 : Int32) (vp3 : Int32) : Option (Int32) :=
(gR h ap1 8 0).bind fun a1 =>
(gR h ap1 8 1).bind fun a2 =>
(gR h a2 0 0).bind fun a3 =>
(aI h a3 vp2).bind fun v4 =>
(cO h a1 6 (F_X6_lowestCommon h a1 vp3 v4)).bind fun v5 =>
(cO h a0 3 (F_X3_mayNotJoin h a0 ap1 vp2 vp3 v5)).bind fun v6 =>
if v6 = 0 then (
(gR h ap1 8 0).bind fun a7 =>
(cO h a7 6 (F_X6_leastLeft h a7 v5)).bind fun v8 =>
(loopF (fun x => F_X3_leftBehindMove_L50 h ap1 vp2 v5 x.1 x.2.1 x.2.2) 6000 (v8, vp3, 0)).bind fun v32 =>
some v32) else (
some (-1))
set_option maxRecDepth 100000 in
set_option maxHeartbeats 4000000 in
theorem c_X3_leftBehindMove (l : Launch) (G : GG) (B : Nat) (h : Hp) (a0 : Nat) (ap1 : Nat) (vp2 : Int32) (vp3 : Int32) (r0 : Int32) (hF : F_X3_leftBehindMove h a0 ap1 vp2 vp3 = some r0) : CI l yX3_leftBehindMove cX3_leftBehindMove 9 .int 4 98 0 0 G B h [.ref (B + a0), .ref (B + ap1), .int vp2, .int vp3] r0 h := by
  refine ent_i rfl (Nat.le_of_ble_eq_true rfl) ?_
  intro p e s m args below meth c ls Q CX hnm hret P hl
  have CX : Cxt p m c cX3_leftBehindMove 9 s args RX3 G B := CX
  obtain ⟨⟨hx, hb, hml, hown, hts⟩, -, -⟩ := id CX
  replace hl : lv_has ls 9 [(0, .ref (B + a0)), (1, .ref (B + ap1)), (2, .int vp2), (3, .int vp3)] := hl
  generalize s.heap = H at P ⊢
  generalize ([] : List Loc) = locs at P ⊢
  unfold F_X3_leftBehindMove at hF
  refine lv_aload_n (pc := 0) hx hb dX3_leftBehindMove_0 rfl (lv_at hl 1 rfl) ?_
  refine r_gR (pc := 1) CX P hF fl_X3_27 dX3_leftBehindMove_1 (fun a1 hF => ?_)
  refine lv_iload_n (pc := 4) hx hb dX3_leftBehindMove_4 rfl (lv_at hl 3 rfl) ?_
  refine lv_aload_n (pc := 5) hx hb dX3_leftBehindMove_5 rfl (lv_at hl 1 rfl) ?_
  refine r_gR (pc := 6) CX P hF fl_X3_15 dX3_leftBehindMove_6 (fun a2 hF => ?_)
  refine r_gR (pc := 9) CX P hF fl_X3_21 dX3_leftBehindMove_9 (fun a3 hF => ?_)
  refine lv_iload_n (pc := 12) hx hb dX3_leftBehindMove_12 rfl (lv_at hl 2 rfl) ?_
  refine r_aI (pc := 13) CX P hF dX3_leftBehindMove_13 (fun v4 hF => ?_)
  refine r_cVp (pc := 14) (As := [.int vp3, .int v4]) (rest := []) CX P hl.1 hF kv_X3_97 (fun r q => c_X6_lowestCommon l G B _ _ _ _ _ q) rfl rfl ⟨Nat.le_of_ble_eq_true rfl, Nat.le_of_ble_eq_true rfl⟩ (Nat.le_of_ble_eq_true rfl) ⟨Nat.le_of_ble_eq_true rfl, Nat.le_of_ble_eq_true rfl⟩ dX3_leftBehindMove_14 (fun v5 H locs P hF => ?_)
  refine lv_istore (pc := 17) hx hb dX3_leftBehindMove_17 hl (by decide) rfl (fun ls hl => ?_)
  replace hl : lv_has ls 9 [(4, .int v5), (0, .ref (B + a0)), (1, .ref (B + ap1)), (2, .int vp2), (3, .int vp3)] := hl
  refine lv_aload_n (pc := 19) hx hb dX3_leftBehindMove_19 rfl (lv_at hl 1 rfl) ?_
  refine lv_aload_n (pc := 20) hx hb dX3_leftBehindMove_20 rfl (lv_at hl 2 rfl) ?_
  refine lv_iload_n (pc := 21) hx hb dX3_leftBehindMove_21 rfl (lv_at hl 3 rfl) ?_
  refine lv_iload_n (pc := 22) hx hb dX3_leftBehindMove_22 rfl (lv_at hl 4 rfl) ?_
  refine lv_iload (pc := 23) hx hb dX3_leftBehindMove_23 (lv_at hl 0 rfl) ?_
  refine r_cVp (pc := 25) (As := [.ref (B + ap1), .int vp2, .int vp3, .int v5]) (rest := []) CX P hl.1 hF kv_X3_100 (fun r q => c_X3_mayNotJoin l G B _ _ _ _ _ _ _ q) rfl rfl ⟨Nat.le_of_ble_eq_true rfl, Nat.le_of_ble_eq_true rfl⟩ (Nat.le_of_ble_eq_true rfl) ⟨Nat.le_of_ble_eq_true rfl, Nat.le_of_ble_eq_true rfl⟩ dX3_leftBehindMove_25 (fun v6 H locs P hF => ?_)
  refine lv_if_eq (pc := 28) (tgt := 33) hx hb dX3_leftBehindMove_28 (by decide) (fun hc => ?_) (fun hc => ?_)
  · rw [if_pos hc] at hF
    refine lv_aload_n (pc := 33) hx hb dX3_leftBehindMove_33 rfl (lv_at hl 2 rfl) ?_
    refine r_gR (pc := 34) CX P hF fl_X3_27 dX3_leftBehindMove_34 (fun a7 hF => ?_)
    refine lv_iload (pc := 37) hx hb dX3_leftBehindMove_37 (lv_at hl 0 rfl) ?_
    refine r_cVp (pc := 39) (As := [.int v5]) (rest := []) CX P hl.1 hF kv_X3_120 (fun r q => c_X6_leastLeft l G B _ _ _ _ q) rfl rfl ⟨Nat.le_of_ble_eq_true rfl, Nat.le_of_ble_eq_true rfl⟩ (Nat.le_of_ble_eq_true rfl) ⟨Nat.le_of_ble_eq_true rfl, Nat.le_of_ble_eq_true rfl⟩ dX3_leftBehindMove_39 (fun v8 H locs P hF => ?_)
    refine lv_istore (pc := 42) hx hb dX3_leftBehindMove_42 hl (by decide) rfl (fun ls hl => ?_)
    replace hl : lv_has ls 9 [(5, .int v8), (4, .int v5), (0, .ref (B + a0)), (1, .ref (B + ap1)), (2, .int vp2), (3, .int vp3)] := hl
    refine lv_iload_n (pc := 44) hx hb dX3_leftBehindMove_44 rfl (lv_at hl 5 rfl) ?_
    refine lv_istore (pc := 45) hx hb dX3_leftBehindMove_45 hl (by decide) rfl (fun ls hl => ?_)
    replace hl : lv_has ls 9 [(6, .int vp3), (5, .int v8), (4, .int v5), (0, .ref (B + a0)), (1, .ref (B + ap1)), (2, .int vp2), (3, .int vp3)] := hl
    refine lv_iconst (pc := 47) (v := 0) hx hb dX3_leftBehindMove_47 (by decide) ?_
    refine lv_istore (pc := 48) hx hb dX3_leftBehindMove_48 hl (by decide) rfl (fun ls hl => ?_)
    replace hl : lv_has ls 9 [(7, .int 0), (6, .int vp3), (5, .int v8), (4, .int v5), (0, .ref (B + a0)), (1, .ref (B + ap1)), (2, .int vp2), (3, .int vp3)] := hl
    obtain ⟨r9, hLp9, hK9⟩ := bd_some hF
    have hX9 : ∀ (v32 : Int32) (H : Heap) (locs : List Loc) (ls : Array Slot), Pic G B h s H locs → lv_has ls 9 [(5, .int v32)] → v32 = r9 → W p l e (rmM 4 98 0 0) s m args below meth c H locs 0 0 Q (F0 m 131 ls []) := by
      intro v32 H locs ls P hl er
      subst er
      have hF := hK9
      refine lv_iload (pc := 131) hx hb dX3_leftBehindMove_131 (lv_at hl 0 rfl) ?_
      cases hF
      exact hret _ _ _ _ P rfl dX3_leftBehindMove_133
    have hL9 : ∀ (n : Nat) (v13 : Int32) (v14 : Int32) (v15 : Int32) (H : Heap) (locs : List Loc) (ls : Array Slot), Pic G B h s H locs → lv_has ls 9 [(1, .ref (B + ap1)), (2, .int vp2), (4, .int v5), (5, .int v13), (6, .int v14), (7, .int v15)] → loopF (fun x => F_X3_leftBehindMove_L50 h ap1 vp2 v5 x.1 x.2.1 x.2.2) n (v13, v14, v15) = some r9 → W p l e (rmM 4 98 0 0) s m args below meth c H locs 0 0 Q (F0 m 50 ls []) := by
      intro n
      induction n with
      | zero => intro v13 v14 v15 H locs ls P hl hq; cases hq
      | succ n ih =>
        intro v13 v14 v15 H locs ls P hl hq
        obtain ⟨z9, hS9, hI9, hR9⟩ := loop_some hq
        have hF : F_X3_leftBehindMove_L50 h ap1 vp2 v5 v13 v14 v15 = some z9 := hS9
        unfold F_X3_leftBehindMove_L50 at hF
        refine lv_iload (pc := 50) hx hb dX3_leftBehindMove_50 (lv_at hl 4 rfl) ?_
        refine lv_iconst (pc := 52) (v := (-1)) hx hb dX3_leftBehindMove_52 (by decide) ?_
        refine lv_icmp_eq (pc := 53) (tgt := 131) hx hb dX3_leftBehindMove_53 (by decide) (fun hc => ?_) (fun hc => ?_)
        · rw [if_pos hc] at hF
          exact hX9 _ _ _ _ P (lv_sub hl [3] rfl) (hR9 _ (Option.some.inj hF).symm)
        · rw [if_neg hc] at hF
          refine lv_iload (pc := 56) hx hb dX3_leftBehindMove_56 (lv_at hl 4 rfl) ?_
          refine lv_iload (pc := 58) hx hb dX3_leftBehindMove_58 (lv_at hl 2 rfl) ?_
          refine lv_icmp_eq (pc := 60) (tgt := 131) hx hb dX3_leftBehindMove_60 (by decide) (fun hc => ?_) (fun hc => ?_)
          · rw [if_pos hc] at hF
            exact hX9 _ _ _ _ P (lv_sub hl [3] rfl) (hR9 _ (Option.some.inj hF).symm)
          · rw [if_neg hc] at hF
            refine lv_iload (pc := 63) hx hb dX3_leftBehindMove_63 (lv_at hl 5 rfl) ?_
            refine lv_bipush (pc := 65) (v := 12) hx hb dX3_leftBehindMove_65 (by decide) ?_
            refine lv_icmp_ge (pc := 67) (tgt := 131) hx hb dX3_leftBehindMove_67 (by decide) (fun hc => ?_) (fun hc => ?_)
            · rw [if_pos hc] at hF
              exact hX9 _ _ _ _ P (lv_sub hl [3] rfl) (hR9 _ (Option.some.inj hF).symm)
            · rw [if_neg hc] at hF
              refine lv_aload_n (pc := 70) hx hb dX3_leftBehindMove_70 rfl (lv_at hl 0 rfl) ?_
              refine r_gR (pc := 71) CX P hF fl_X3_27 dX3_leftBehindMove_71 (fun a17 hF => ?_)
              refine r_gR (pc := 74) CX P hF fl_X3_73 dX3_leftBehindMove_74 (fun a18 hF => ?_)
              refine lv_iconst (pc := 77) (v := 3) hx hb dX3_leftBehindMove_77 (by decide) ?_
              refine r_aR (pc := 78) CX P hF (Or.inr (Or.inl rfl)) dX3_leftBehindMove_78 (fun a19 hF => ?_)
              refine lv_iload (pc := 79) hx hb dX3_leftBehindMove_79 (lv_at hl 4 rfl) ?_
              refine r_aI (pc := 81) CX P hF dX3_leftBehindMove_81 (fun v20 hF => ?_)
              refine lv_aload_n (pc := 82) hx hb dX3_leftBehindMove_82 rfl (lv_at hl 0 rfl) ?_
              refine r_gR (pc := 83) CX P hF fl_X3_27 dX3_leftBehindMove_83 (fun a21 hF => ?_)
              refine r_gR (pc := 86) CX P hF fl_X3_80 dX3_leftBehindMove_86 (fun a22 hF => ?_)
              refine lv_iload (pc := 89) hx hb dX3_leftBehindMove_89 (lv_at hl 4 rfl) ?_
              refine r_aI (pc := 91) CX P hF dX3_leftBehindMove_91 (fun v23 hF => ?_)
              refine lv_isub (pc := 92) hx hb dX3_leftBehindMove_92 ?_
              refine lv_aload_n (pc := 93) hx hb dX3_leftBehindMove_93 rfl (lv_at hl 0 rfl) ?_
              refine r_gR (pc := 94) CX P hF fl_X3_15 dX3_leftBehindMove_94 (fun a24 hF => ?_)
              refine lv_iload_n (pc := 97) hx hb dX3_leftBehindMove_97 rfl (lv_at hl 1 rfl) ?_
              refine r_cVp (pc := 98) (As := [.int vp2]) (rest := [.int (v20 - v23)]) CX P hl.1 hF kv_X3_104 (fun r q => c_X0_held l G B _ _ _ _ q) rfl rfl ⟨Nat.le_of_ble_eq_true rfl, Nat.le_of_ble_eq_true rfl⟩ (Nat.le_of_ble_eq_true rfl) ⟨Nat.le_of_ble_eq_true rfl, Nat.le_of_ble_eq_true rfl⟩ dX3_leftBehindMove_98 (fun v25 H locs P hF => ?_)
              refine lv_isub (pc := 101) hx hb dX3_leftBehindMove_101 ?_
              refine lv_topi (fun v26 ev26 => ?_)
              replace hF := bl_e hF ev26
              refine lv_istore (pc := 102) hx hb dX3_leftBehindMove_102 hl (by decide) rfl (fun ls hl => ?_)
              replace hl : lv_has ls 9 [(8, .int v26), (1, .ref (B + ap1)), (2, .int vp2), (4, .int v5), (5, .int v13), (6, .int v14), (7, .int v15)] := hl
              refine lv_iload (pc := 104) hx hb dX3_leftBehindMove_104 (lv_at hl 4 rfl) ?_
              refine lv_iload (pc := 106) hx hb dX3_leftBehindMove_106 (lv_at hl 0 rfl) ?_
              refine r_mn (pc := 108) CX hl.1 tw_890 tw_468 tw_14 tw_469 (Nat.le_of_ble_eq_true rfl) (Nat.le_of_ble_eq_true rfl) (Nat.le_of_ble_eq_true rfl) (Nat.le_of_ble_eq_true rfl) dX3_leftBehindMove_108 ?_
              refine lv_topi (fun v27 ev27 => ?_)
              replace hF := bl_e hF ev27
              refine lv_istore (pc := 111) hx hb dX3_leftBehindMove_111 hl (by decide) rfl (fun ls hl => ?_)
              replace hl : lv_has ls 9 [(5, .int v27), (8, .int v26), (1, .ref (B + ap1)), (2, .int vp2), (4, .int v5), (6, .int v14), (7, .int v15)] := hl
              refine lv_aload_n (pc := 113) hx hb dX3_leftBehindMove_113 rfl (lv_at hl 2 rfl) ?_
              refine r_gR (pc := 114) CX P hF fl_X3_27 dX3_leftBehindMove_114 (fun a28 hF => ?_)
              refine r_gR (pc := 117) CX P hF fl_X3_94 dX3_leftBehindMove_117 (fun a29 hF => ?_)
              refine lv_iload (pc := 120) hx hb dX3_leftBehindMove_120 (lv_at hl 5 rfl) ?_
              refine r_aI (pc := 122) CX P hF dX3_leftBehindMove_122 (fun v30 hF => ?_)
              refine lv_istore (pc := 123) hx hb dX3_leftBehindMove_123 hl (by decide) rfl (fun ls hl => ?_)
              replace hl : lv_has ls 9 [(6, .int v30), (5, .int v27), (8, .int v26), (1, .ref (B + ap1)), (2, .int vp2), (4, .int v5), (7, .int v15)] := hl
              obtain ⟨v31, ev31, hF⟩ := bl_o hF
              refine lv_iinc (pc := 125) (k := 6) (v := v31) hx hb dX3_leftBehindMove_125 hl rfl ev31 (by decide) rfl (fun ls hl => ?_)
              replace hl : lv_has ls 9 [(7, .int v31), (6, .int v30), (5, .int v27), (8, .int v26), (1, .ref (B + ap1)), (2, .int vp2), (4, .int v5)] := hl
              refine lv_goto (pc := 128) (tgt := 50) hx hb dX3_leftBehindMove_128 (by decide) ?_
              exact ih _ _ _ _ _ _ P (lv_sub hl [4, 5, 6, 2, 1, 0] rfl) (hI9 _ (Option.some.inj hF).symm)
    exact hL9 _ _ _ _ _ _ _ P (lv_sub hl [5, 6, 3, 2, 1, 0] rfl) hLp9
  · rw [if_neg hc] at hF
    refine lv_iconst (pc := 31) (v := (-1)) hx hb dX3_leftBehindMove_31 (by decide) ?_
    cases hF
    exact hret _ _ _ _ P rfl dX3_leftBehindMove_32
def F_X4_goBack (h : Hp) (a0 : Nat) (ap1 : Nat) (vp2 : Int32) : Option (Int32 × Hp) :=
(gI h a0 4 0).bind fun v1 =>
(pI h a0 4 0 (v1 - vp2)).bind fun h2 =>
(gI h2 a0 4 0).bind fun v3 =>
(cO h2 a0 4 (F_X4_slot h2 a0 v3)).bind fun a4 =>
(cO h2 ap1 8 (F_X8_copyFrom h2 ap1 a4)).bind fun h5 =>
(gI h5 a0 4 0).bind fun v6 =>
some (v6, h5)
set_option maxRecDepth 100000 in
set_option maxHeartbeats 4000000 in
theorem c_X4_goBack (l : Launch) (G : GG) (B : Nat) (h : Hp) (a0 : Nat) (ap1 : Nat) (vp2 : Int32) (r0 : Int32) (hr : Hp) (hF : F_X4_goBack h a0 ap1 vp2 = some (r0, hr)) : CI l yX4_goBack cX4_goBack 3 .int 3 142 0 0 G B h [.ref (B + a0), .ref (B + ap1), .int vp2] r0 hr := by
  refine ent_i rfl (Nat.le_of_ble_eq_true rfl) ?_
  intro p e s m args below meth c ls Q CX hnm hret P hl
  have CX : Cxt p m c cX4_goBack 3 s args RX4 G B := CX
  obtain ⟨⟨hx, hb, hml, hown, hts⟩, -, -⟩ := id CX
  replace hl : lv_has ls 3 [(0, .ref (B + a0)), (1, .ref (B + ap1)), (2, .int vp2)] := hl
  generalize s.heap = H at P ⊢
  generalize ([] : List Loc) = locs at P ⊢
  unfold F_X4_goBack at hF
  refine lv_aload_n (pc := 0) hx hb dX4_goBack_0 rfl (lv_at hl 0 rfl) ?_
  refine lv_dup (pc := 1) hx hb dX4_goBack_1 rfl ?_
  refine r_gI (pc := 2) CX P hF fl_X4_22 dX4_goBack_2 (fun v1 hF => ?_)
  refine lv_iload_n (pc := 5) hx hb dX4_goBack_5 rfl (lv_at hl 2 rfl) ?_
  refine lv_isub (pc := 6) hx hb dX4_goBack_6 ?_
  refine r_pI (pc := 7) CX P hF fl_X4_22 dX4_goBack_7 (fun h2 H locs P hF => ?_)
  refine lv_aload_n (pc := 10) hx hb dX4_goBack_10 rfl (lv_at hl 1 rfl) ?_
  refine lv_aload_n (pc := 11) hx hb dX4_goBack_11 rfl (lv_at hl 0 rfl) ?_
  refine lv_aload_n (pc := 12) hx hb dX4_goBack_12 rfl (lv_at hl 0 rfl) ?_
  refine r_gI (pc := 13) CX P hF fl_X4_22 dX4_goBack_13 (fun v3 hF => ?_)
  refine r_cVr (pc := 16) (As := [.int v3]) (rest := [.ref (B + ap1)]) CX P hl.1 hF kv_X4_25 (fun r q => c_X4_slot l G B _ _ _ _ q) rfl rfl ⟨Nat.le_of_ble_eq_true rfl, Nat.le_of_ble_eq_true rfl⟩ (Nat.le_of_ble_eq_true rfl) ⟨Nat.le_of_ble_eq_true rfl, Nat.le_of_ble_eq_true rfl⟩ dX4_goBack_16 (fun a4 H locs P hF => ?_)
  refine r_cVv (pc := 19) (As := [.ref (B + a4)]) (rest := []) CX P hl.1 hF kv_X4_29 (fun h1 q => c_X8_copyFrom l G B _ _ _ _ q) rfl rfl ⟨Nat.le_of_ble_eq_true rfl, Nat.le_of_ble_eq_true rfl⟩ (Nat.le_of_ble_eq_true rfl) ⟨Nat.le_of_ble_eq_true rfl, Nat.le_of_ble_eq_true rfl⟩ dX4_goBack_19 (fun h5 H locs P hF => ?_)
  refine lv_aload_n (pc := 22) hx hb dX4_goBack_22 rfl (lv_at hl 0 rfl) ?_
  refine r_gI (pc := 23) CX P hF fl_X4_22 dX4_goBack_23 (fun v6 hF => ?_)
  cases hF
  exact hret _ _ _ _ P rfl dX4_goBack_26
