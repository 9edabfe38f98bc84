def F_J7_fill_53178_L5 (a3 : Nat) (v4 : Int32) (v5 : Int32) (v6 : Int32) (h7 : Hp) : Option ((Int32 × Hp) ⊕ (Hp)) :=
if v5 ≤ v6 then (
some (.inr h7)) else (
(sI h7 a3 v6 v4).bind fun h8 =>
bl (v6 + 1) fun v9 =>
some (.inl (v9, h8)))
def F_J7_fill_53178 (h : Hp) (ap0 : Nat) (vp1 : Int32) : Option (Hp) :=
(aL h ap0).bind fun v1 =>
(loopF (fun x => F_J7_fill_53178_L5 ap0 vp1 v1 x.1 x.2) 6000 (0, h)).bind fun h10 =>
some h10
set_option maxRecDepth 100000 in
set_option maxHeartbeats 4000000 in
theorem c_J7_fill_53178 (l : Launch) (G : GG) (B : Nat) (h : Hp) (ap0 : Nat) (vp1 : Int32) (hr : Hp) (hF : F_J7_fill_53178 h ap0 vp1 = some hr) : CV l yJ7_fill_53178 cJ7_fill_53178 4 0 0 0 0 G B h [.ref (B + ap0), .int vp1] hr := by
  refine ent_v rfl (Nat.le_of_ble_eq_true rfl) ?_
  intro p e s m args below meth c ls Q CX hnm hret P hl
  have CX : Cxt p m c cJ7_fill_53178 4 s args RJ7 G B := CX
  obtain ⟨⟨hx, hb, hml, hown, hts⟩, -, -⟩ := id CX
  replace hl : lv_has ls 4 [(0, .ref (B + ap0)), (1, .int vp1)] := hl
  generalize s.heap = H at P ⊢
  generalize ([] : List Loc) = locs at P ⊢
  unfold F_J7_fill_53178 at hF
  refine lv_iconst (pc := 0) (v := 0) hx hb dJ7_fill_53178_0 (by decide) ?_
  refine lv_istore_n (pc := 1) hx hb dJ7_fill_53178_1 rfl hl (by decide) rfl (fun ls hl => ?_)
  replace hl : lv_has ls 4 [(2, .int 0), (0, .ref (B + ap0)), (1, .int vp1)] := hl
  refine lv_aload_n (pc := 2) hx hb dJ7_fill_53178_2 rfl (lv_at hl 1 rfl) ?_
  refine r_aL (pc := 3) CX P hF dJ7_fill_53178_3 (fun v1 hF => ?_)
  refine lv_istore_n (pc := 4) hx hb dJ7_fill_53178_4 rfl hl (by decide) rfl (fun ls hl => ?_)
  replace hl : lv_has ls 4 [(3, .int v1), (2, .int 0), (0, .ref (B + ap0)), (1, .int vp1)] := hl
  obtain ⟨r2, hLp2, hK2⟩ := bd_some hF
  have hX2 : ∀ (h10 : Hp) (H : Heap) (locs : List Loc) (ls : Array Slot), Pic G B h10 s H locs → lv_has ls 4 [] → h10 = r2 → W p l e (rmM 0 0 0 0) s m args below meth c H locs 0 0 Q (F0 m 20 ls []) := by
    intro h10 H locs ls P hl er
    subst er
    have hF := hK2
    cases hF
    exact hret _ _ _ _ P dJ7_fill_53178_20
  have hL2 : ∀ (n : Nat) (v6 : Int32) (h7 : Hp) (H : Heap) (locs : List Loc) (ls : Array Slot), Pic G B h7 s H locs → lv_has ls 4 [(0, .ref (B + ap0)), (1, .int vp1), (2, .int v6), (3, .int v1)] → loopF (fun x => F_J7_fill_53178_L5 ap0 vp1 v1 x.1 x.2) n (v6, h7) = some r2 → W p l e (rmM 0 0 0 0) s m args below meth c H locs 0 0 Q (F0 m 5 ls []) := by
    intro n
    induction n with
    | zero => intro v6 h7 H locs ls P hl hq; cases hq
    | succ n ih =>
      intro v6 h7 H locs ls P hl hq
      obtain ⟨z2, hS2, hI2, hR2⟩ := loop_some hq
      have hF : F_J7_fill_53178_L5 ap0 vp1 v1 v6 h7 = some z2 := hS2
      unfold F_J7_fill_53178_L5 at hF
      refine lv_iload_n (pc := 5) hx hb dJ7_fill_53178_5 rfl (lv_at hl 2 rfl) ?_
      refine lv_iload_n (pc := 6) hx hb dJ7_fill_53178_6 rfl (lv_at hl 3 rfl) ?_
      refine lv_icmp_ge (pc := 7) (tgt := 20) hx hb dJ7_fill_53178_7 (by decide) (fun hc => ?_) (fun hc => ?_)
      · rw [if_pos hc] at hF
        exact hX2 _ _ _ _ P (lv_sub hl [] rfl) (hR2 _ (Option.some.inj hF).symm)
      · rw [if_neg hc] at hF
        refine lv_aload_n (pc := 10) hx hb dJ7_fill_53178_10 rfl (lv_at hl 0 rfl) ?_
        refine lv_iload_n (pc := 11) hx hb dJ7_fill_53178_11 rfl (lv_at hl 2 rfl) ?_
        refine lv_iload_n (pc := 12) hx hb dJ7_fill_53178_12 rfl (lv_at hl 1 rfl) ?_
        refine r_sI (pc := 13) CX P hF dJ7_fill_53178_13 (fun h8 H locs P hF => ?_)
        obtain ⟨v9, ev9, hF⟩ := bl_o hF
        refine lv_iinc (pc := 14) (k := 2) (v := v9) hx hb dJ7_fill_53178_14 hl rfl ev9 (by decide) rfl (fun ls hl => ?_)
        replace hl : lv_has ls 4 [(2, .int v9), (0, .ref (B + ap0)), (1, .int vp1), (3, .int v1)] := hl
        refine lv_goto (pc := 17) (tgt := 5) hx hb dJ7_fill_53178_17 (by decide) ?_
        exact ih _ _ _ _ _ P (lv_sub hl [1, 2, 0, 3] rfl) (hI2 _ (Option.some.inj hF).symm)
  exact hL2 _ _ _ _ _ _ P (lv_sub hl [2, 3, 1, 0] rfl) hLp2
def F_X6_putGroup_L29 (a9 : Nat) (v10 : Int32) (v11 : Int32) (h12 : Hp) : Option ((Int32 × Hp) ⊕ (Hp)) :=
if 9 ≤ v11 then (
some (.inr h12)) else (
(gR h12 a9 6 3).bind fun a13 =>
(aR h12 a13 15 v11).bind fun a14 =>
(sX 0 v11).bind fun v15 =>
(sI h12 a14 v10 v15).bind fun h16 =>
bl (v11 + 1) fun v17 =>
some (.inl (v17, h16)))
def F_X6_putGroup_L84 (a28 : Nat) (v29 : Int32) (v30 : Int32) (h31 : Hp) : Option ((Int32 × Hp) ⊕ (Hp)) :=
if 4 ≤ v30 then (
some (.inr h31)) else (
(gR h31 a28 6 8).bind fun a32 =>
(aR h31 a32 15 v30).bind fun a33 =>
(sI h31 a33 v29 0).bind fun h34 =>
bl (v30 + 1) fun v35 =>
some (.inl (v35, h34)))
def F_X6_putGroup (h : Hp) (a0 : Nat) (vp1 : Int32) (vp2 : Int32) : Option (Hp) :=
(gR h a0 6 0).bind fun a1 =>
(sI h a1 vp1 vp2).bind fun h2 =>
(gR h2 a0 6 1).bind fun a3 =>
(gI h2 a0 6 2).bind fun v4 =>
(sI h2 a3 v4 vp1).bind fun h5 =>
(gI h5 a0 6 2).bind fun v6 =>
(pI h5 a0 6 2 (v6 + 1)).bind fun h7 =>
(loopF (fun x => F_X6_putGroup_L29 a0 vp1 x.1 x.2) 6000 (0, h7)).bind fun h18 =>
(gR h18 a0 6 4).bind fun a19 =>
(sI h18 a19 vp1 0).bind fun h20 =>
(gR h20 a0 6 5).bind fun a21 =>
(sI h20 a21 vp1 0).bind fun h22 =>
(gR h22 a0 6 6).bind fun a23 =>
(sI h22 a23 vp1 0).bind fun h24 =>
(gR h24 a0 6 7).bind fun a25 =>
(sI h24 a25 vp1 0).bind fun h26 =>
(loopF (fun x => F_X6_putGroup_L84 a0 vp1 x.1 x.2) 6000 (0, h26)).bind fun h36 =>
some h36
set_option maxRecDepth 100000 in
set_option maxHeartbeats 4000000 in
theorem c_X6_putGroup (l : Launch) (G : GG) (B : Nat) (h : Hp) (a0 : Nat) (vp1 : Int32) (vp2 : Int32) (hr : Hp) (hF : F_X6_putGroup h a0 vp1 vp2 = some hr) : CV l yX6_putGroup cX6_putGroup 4 0 0 0 0 G B h [.ref (B + a0), .int vp1, .int vp2] hr := by
  refine ent_v rfl (Nat.le_of_ble_eq_true rfl) ?_
  intro p e s m args below meth c ls Q CX hnm hret P hl
  have CX : Cxt p m c cX6_putGroup 4 s args RX6 G B := CX
  obtain ⟨⟨hx, hb, hml, hown, hts⟩, -, -⟩ := id CX
  replace hl : lv_has ls 4 [(0, .ref (B + a0)), (1, .int vp1), (2, .int vp2)] := hl
  generalize s.heap = H at P ⊢
  generalize ([] : List Loc) = locs at P ⊢
  unfold F_X6_putGroup at hF
  refine lv_aload_n (pc := 0) hx hb dX6_putGroup_0 rfl (lv_at hl 0 rfl) ?_
  refine r_gR (pc := 1) CX P hF fl_X6_9 dX6_putGroup_1 (fun a1 hF => ?_)
  refine lv_iload_n (pc := 4) hx hb dX6_putGroup_4 rfl (lv_at hl 1 rfl) ?_
  refine lv_iload_n (pc := 5) hx hb dX6_putGroup_5 rfl (lv_at hl 2 rfl) ?_
  refine r_sI (pc := 6) CX P hF dX6_putGroup_6 (fun h2 H locs P hF => ?_)
  refine lv_aload_n (pc := 7) hx hb dX6_putGroup_7 rfl (lv_at hl 0 rfl) ?_
  refine r_gR (pc := 8) CX P hF fl_X6_15 dX6_putGroup_8 (fun a3 hF => ?_)
  refine lv_aload_n (pc := 11) hx hb dX6_putGroup_11 rfl (lv_at hl 0 rfl) ?_
  refine r_gI (pc := 12) CX P hF fl_X6_54 dX6_putGroup_12 (fun v4 hF => ?_)
  refine lv_iload_n (pc := 15) hx hb dX6_putGroup_15 rfl (lv_at hl 1 rfl) ?_
  refine r_sI (pc := 16) CX P hF dX6_putGroup_16 (fun h5 H locs P hF => ?_)
  refine lv_aload_n (pc := 17) hx hb dX6_putGroup_17 rfl (lv_at hl 0 rfl) ?_
  refine lv_dup (pc := 18) hx hb dX6_putGroup_18 rfl ?_
  refine r_gI (pc := 19) CX P hF fl_X6_54 dX6_putGroup_19 (fun v6 hF => ?_)
  refine lv_iconst (pc := 22) (v := 1) hx hb dX6_putGroup_22 (by decide) ?_
  refine lv_iadd (pc := 23) hx hb dX6_putGroup_23 ?_
  refine r_pI (pc := 24) CX P hF fl_X6_54 dX6_putGroup_24 (fun h7 H locs P hF => ?_)
  refine lv_iconst (pc := 27) (v := 0) hx hb dX6_putGroup_27 (by decide) ?_
  refine lv_istore_n (pc := 28) hx hb dX6_putGroup_28 rfl hl (by decide) rfl (fun ls hl => ?_)
  replace hl : lv_has ls 4 [(3, .int 0), (0, .ref (B + a0)), (1, .int vp1), (2, .int vp2)] := hl
  obtain ⟨r8, hLp8, hK8⟩ := bd_some hF
  have hX8 : ∀ (h18 : Hp) (H : Heap) (locs : List Loc) (ls : Array Slot), Pic G B h18 s H locs → lv_has ls 4 [(0, .ref (B + a0)), (1, .int vp1)] → h18 = r8 → W p l e (rmM 0 0 0 0) s m args below meth c H locs 0 0 Q (F0 m 54 ls []) := by
    intro h18 H locs ls P hl er
    subst er
    have hF := hK8
    refine lv_aload_n (pc := 54) hx hb dX6_putGroup_54 rfl (lv_at hl 0 rfl) ?_
    refine r_gR (pc := 55) CX P hF fl_X6_23 dX6_putGroup_55 (fun a19 hF => ?_)
    refine lv_iload_n (pc := 58) hx hb dX6_putGroup_58 rfl (lv_at hl 1 rfl) ?_
    refine lv_iconst (pc := 59) (v := 0) hx hb dX6_putGroup_59 (by decide) ?_
    refine r_sI (pc := 60) CX P hF dX6_putGroup_60 (fun h20 H locs P hF => ?_)
    refine lv_aload_n (pc := 61) hx hb dX6_putGroup_61 rfl (lv_at hl 0 rfl) ?_
    refine r_gR (pc := 62) CX P hF fl_X6_26 dX6_putGroup_62 (fun a21 hF => ?_)
    refine lv_iload_n (pc := 65) hx hb dX6_putGroup_65 rfl (lv_at hl 1 rfl) ?_
    refine lv_iconst (pc := 66) (v := 0) hx hb dX6_putGroup_66 (by decide) ?_
    refine r_sI (pc := 67) CX P hF dX6_putGroup_67 (fun h22 H locs P hF => ?_)
    refine lv_aload_n (pc := 68) hx hb dX6_putGroup_68 rfl (lv_at hl 0 rfl) ?_
    refine r_gR (pc := 69) CX P hF fl_X6_29 dX6_putGroup_69 (fun a23 hF => ?_)
    refine lv_iload_n (pc := 72) hx hb dX6_putGroup_72 rfl (lv_at hl 1 rfl) ?_
    refine lv_iconst (pc := 73) (v := 0) hx hb dX6_putGroup_73 (by decide) ?_
    refine r_sI (pc := 74) CX P hF dX6_putGroup_74 (fun h24 H locs P hF => ?_)
    refine lv_aload_n (pc := 75) hx hb dX6_putGroup_75 rfl (lv_at hl 0 rfl) ?_
    refine r_gR (pc := 76) CX P hF fl_X6_32 dX6_putGroup_76 (fun a25 hF => ?_)
    refine lv_iload_n (pc := 79) hx hb dX6_putGroup_79 rfl (lv_at hl 1 rfl) ?_
    refine lv_iconst (pc := 80) (v := 0) hx hb dX6_putGroup_80 (by decide) ?_
    refine r_sI (pc := 81) CX P hF dX6_putGroup_81 (fun h26 H locs P hF => ?_)
    refine lv_iconst (pc := 82) (v := 0) hx hb dX6_putGroup_82 (by decide) ?_
    refine lv_istore_n (pc := 83) hx hb dX6_putGroup_83 rfl hl (by decide) rfl (fun ls hl => ?_)
    replace hl : lv_has ls 4 [(3, .int 0), (0, .ref (B + a0)), (1, .int vp1)] := hl
    obtain ⟨r27, hLp27, hK27⟩ := bd_some hF
    have hX27 : ∀ (h36 : Hp) (H : Heap) (locs : List Loc) (ls : Array Slot), Pic G B h36 s H locs → lv_has ls 4 [] → h36 = r27 → W p l e (rmM 0 0 0 0) s m args below meth c H locs 0 0 Q (F0 m 104 ls []) := by
      intro h36 H locs ls P hl er
      subst er
      have hF := hK27
      cases hF
      exact hret _ _ _ _ P dX6_putGroup_104
    have hL27 : ∀ (n : Nat) (v30 : Int32) (h31 : Hp) (H : Heap) (locs : List Loc) (ls : Array Slot), Pic G B h31 s H locs → lv_has ls 4 [(0, .ref (B + a0)), (1, .int vp1), (3, .int v30)] → loopF (fun x => F_X6_putGroup_L84 a0 vp1 x.1 x.2) n (v30, h31) = some r27 → W p l e (rmM 0 0 0 0) s m args below meth c H locs 0 0 Q (F0 m 84 ls []) := by
      intro n
      induction n with
      | zero => intro v30 h31 H locs ls P hl hq; cases hq
      | succ n ih =>
        intro v30 h31 H locs ls P hl hq
        obtain ⟨z27, hS27, hI27, hR27⟩ := loop_some hq
        have hF : F_X6_putGroup_L84 a0 vp1 v30 h31 = some z27 := hS27
        unfold F_X6_putGroup_L84 at hF
        refine lv_iload_n (pc := 84) hx hb dX6_putGroup_84 rfl (lv_at hl 2 rfl) ?_
        refine lv_iconst (pc := 85) (v := 4) hx hb dX6_putGroup_85 (by decide) ?_
        refine lv_icmp_ge (pc := 86) (tgt := 104) hx hb dX6_putGroup_86 (by decide) (fun hc => ?_) (fun hc => ?_)
        · rw [if_pos hc] at hF
          exact hX27 _ _ _ _ P (lv_sub hl [] rfl) (hR27 _ (Option.some.inj hF).symm)
        · rw [if_neg hc] at hF
          refine lv_aload_n (pc := 89) hx hb dX6_putGroup_89 rfl (lv_at hl 0 rfl) ?_
          refine r_gR (pc := 90) CX P hF fl_X6_35 dX6_putGroup_90 (fun a32 hF => ?_)
          refine lv_iload_n (pc := 93) hx hb dX6_putGroup_93 rfl (lv_at hl 2 rfl) ?_
          refine r_aR (pc := 94) CX P hF (Or.inr (Or.inl rfl)) dX6_putGroup_94 (fun a33 hF => ?_)
          refine lv_iload_n (pc := 95) hx hb dX6_putGroup_95 rfl (lv_at hl 1 rfl) ?_
          refine lv_iconst (pc := 96) (v := 0) hx hb dX6_putGroup_96 (by decide) ?_
          refine r_sI (pc := 97) CX P hF dX6_putGroup_97 (fun h34 H locs P hF => ?_)
          obtain ⟨v35, ev35, hF⟩ := bl_o hF
          refine lv_iinc (pc := 98) (k := 2) (v := v35) hx hb dX6_putGroup_98 hl rfl ev35 (by decide) rfl (fun ls hl => ?_)
          replace hl : lv_has ls 4 [(3, .int v35), (0, .ref (B + a0)), (1, .int vp1)] := hl
          refine lv_goto (pc := 101) (tgt := 84) hx hb dX6_putGroup_101 (by decide) ?_
          exact ih _ _ _ _ _ P (lv_sub hl [1, 2, 0] rfl) (hI27 _ (Option.some.inj hF).symm)
    exact hL27 _ _ _ _ _ _ P (lv_sub hl [1, 2, 0] rfl) hLp27
  have hL8 : ∀ (n : Nat) (v11 : Int32) (h12 : Hp) (H : Heap) (locs : List Loc) (ls : Array Slot), Pic G B h12 s H locs → lv_has ls 4 [(0, .ref (B + a0)), (1, .int vp1), (3, .int v11)] → loopF (fun x => F_X6_putGroup_L29 a0 vp1 x.1 x.2) n (v11, h12) = some r8 → W p l e (rmM 0 0 0 0) s m args below meth c H locs 0 0 Q (F0 m 29 ls []) := by
    intro n
    induction n with
    | zero => intro v11 h12 H locs ls P hl hq; cases hq
    | succ n ih =>
      intro v11 h12 H locs ls P hl hq
      obtain ⟨z8, hS8, hI8, hR8⟩ := loop_some hq
      have hF : F_X6_putGroup_L29 a0 vp1 v11 h12 = some z8 := hS8
      unfold F_X6_putGroup_L29 at hF
      refine lv_iload_n (pc := 29) hx hb dX6_putGroup_29 rfl (lv_at hl 2 rfl) ?_
      refine lv_bipush (pc := 30) (v := 9) hx hb dX6_putGroup_30 (by decide) ?_
      refine lv_icmp_ge (pc := 32) (tgt := 54) hx hb dX6_putGroup_32 (by decide) (fun hc => ?_) (fun hc => ?_)
      · rw [if_pos hc] at hF
        exact hX8 _ _ _ _ P (lv_sub hl [0, 1] rfl) (hR8 _ (Option.some.inj hF).symm)
      · rw [if_neg hc] at hF
        refine lv_aload_n (pc := 35) hx hb dX6_putGroup_35 rfl (lv_at hl 0 rfl) ?_
        refine r_gR (pc := 36) CX P hF fl_X6_20 dX6_putGroup_36 (fun a13 hF => ?_)
        refine lv_iload_n (pc := 39) hx hb dX6_putGroup_39 rfl (lv_at hl 2 rfl) ?_
        refine r_aR (pc := 40) CX P hF (Or.inr (Or.inl rfl)) dX6_putGroup_40 (fun a14 hF => ?_)
        refine lv_iload_n (pc := 41) hx hb dX6_putGroup_41 rfl (lv_at hl 1 rfl) ?_
        refine r_gs (pc := 42) CX P (k := 0) (by decide) (Or.inr (by decide)) dX6_putGroup_42 ?_
        refine lv_iload_n (pc := 45) hx hb dX6_putGroup_45 rfl (lv_at hl 2 rfl) ?_
        refine r_sX (pc := 46) CX P (by decide) hF dX6_putGroup_46 (fun v15 hF => ?_)
        refine r_sI (pc := 47) CX P hF dX6_putGroup_47 (fun h16 H locs P hF => ?_)
        obtain ⟨v17, ev17, hF⟩ := bl_o hF
        refine lv_iinc (pc := 48) (k := 2) (v := v17) hx hb dX6_putGroup_48 hl rfl ev17 (by decide) rfl (fun ls hl => ?_)
        replace hl : lv_has ls 4 [(3, .int v17), (0, .ref (B + a0)), (1, .int vp1)] := hl
        refine lv_goto (pc := 51) (tgt := 29) hx hb dX6_putGroup_51 (by decide) ?_
        exact ih _ _ _ _ _ P (lv_sub hl [1, 2, 0] rfl) (hI8 _ (Option.some.inj hF).symm)
  exact hL8 _ _ _ _ _ _ P (lv_sub hl [1, 2, 0] rfl) hLp8
def F_X6_init (h : Hp) (a0 : Nat) : Option (Hp) :=
(nwA h 11 12).bind fun h1 =>
(pR h1 a0 6 0 (mN h)).bind fun h2 =>
(nwA h2 11 12).bind fun h3 =>
(pR h3 a0 6 1 (mN h2)).bind fun h4 =>
bl (nwM h4 15 11 9 12) fun h5 =>
(pR h5 a0 6 3 (mN h4)).bind fun h6 =>
(nwA h6 11 12).bind fun h7 =>
(pR h7 a0 6 4 (mN h6)).bind fun h8 =>
(nwA h8 11 12).bind fun h9 =>
(pR h9 a0 6 5 (mN h8)).bind fun h10 =>
(nwA h10 11 12).bind fun h11 =>
(pR h11 a0 6 6 (mN h10)).bind fun h12 =>
(nwA h12 11 12).bind fun h13 =>
(pR h13 a0 6 7 (mN h12)).bind fun h14 =>
bl (nwM h14 15 11 4 12) fun h15 =>
(pR h15 a0 6 8 (mN h14)).bind fun h16 =>
(gR h16 a0 6 0).bind fun a17 =>
(F_J7_fill_53178 h16 a17 (-2)).bind fun h18 =>
(cO h18 a0 6 (F_X6_putGroup h18 a0 0 (-1))).bind fun h19 =>
some h19
set_option maxRecDepth 100000 in
set_option maxHeartbeats 4000000 in
theorem c_X6_init (l : Launch) (G : GG) (B : Nat) (h : Hp) (a0 : Nat) (hr : Hp) (hF : F_X6_init h a0 = some hr) : CV l yX6_init cX6_init 1 1 39 21 241 G B h [.ref (B + a0)] hr := by
  refine ent_v rfl (Nat.le_of_ble_eq_true rfl) ?_
  intro p e s m args below meth c ls Q CX hnm hret P hl
  have CX : Cxt p m c cX6_init 1 s args RX6 G B := CX
  obtain ⟨⟨hx, hb, hml, hown, hts⟩, -, -⟩ := id CX
  replace hl : lv_has ls 1 [(0, .ref (B + a0))] := hl
  generalize s.heap = H at P ⊢
  generalize ([] : List Loc) = locs at P ⊢
  unfold F_X6_init at hF
  refine lv_aload_n (pc := 0) hx hb dX6_init_0 rfl (lv_at hl 0 rfl) ?_
  refine r_obj (pc := 1) CX hl.1 tw_36 tw_23 tw_24 (Nat.le_of_ble_eq_true rfl) (Nat.le_of_ble_eq_true rfl) dX6_init_1 ?_
  refine lv_aload_n (pc := 4) hx hb dX6_init_4 rfl (lv_at hl 0 rfl) ?_
  refine lv_bipush (pc := 5) (v := 12) hx hb dX6_init_5 (by decide) ?_
  refine r_nwA (pc := 7) (atype := .int) (N' := 12) CX P hF (Or.inl ⟨rfl, rfl⟩) tw_107 (by decide) (Nat.le_of_ble_eq_true rfl) (Nat.le_of_ble_eq_true rfl) dX6_init_7 (fun h1 H eN P hF => ?_)
  refine r_pR (pc := 9) CX P hnm hF fl_X6_9 (fun q hq => by cases hq; rfl) dX6_init_9 (fun h2 H locs P hF => ?_)
  refine lv_aload_n (pc := 12) hx hb dX6_init_12 rfl (lv_at hl 0 rfl) ?_
  refine lv_bipush (pc := 13) (v := 12) hx hb dX6_init_13 (by decide) ?_
  refine r_nwA (pc := 15) (atype := .int) (N' := 12) CX P hF (Or.inl ⟨rfl, rfl⟩) tw_107 (by decide) (Nat.le_of_ble_eq_true rfl) (Nat.le_of_ble_eq_true rfl) dX6_init_15 (fun h3 H eN P hF => ?_)
  refine r_pR (pc := 17) CX P hnm hF fl_X6_15 (fun q hq => by cases hq; rfl) dX6_init_17 (fun h4 H locs P hF => ?_)
  refine lv_aload_n (pc := 20) hx hb dX6_init_20 rfl (lv_at hl 0 rfl) ?_
  refine lv_bipush (pc := 21) (v := 9) hx hb dX6_init_21 (by decide) ?_
  refine lv_bipush (pc := 23) (v := 12) hx hb dX6_init_23 (by decide) ?_
  refine r_nwM (pc := 25) (N' := 9) (K' := 12) (ty := .int) CX P hF (by decide) (by decide) (by decide) (by decide) (by decide) (by decide) (Or.inl ⟨rfl, rfl, rfl⟩) tw_37 tw_107 (Nat.le_of_ble_eq_true rfl) (Nat.le_of_ble_eq_true rfl) dX6_init_25 (fun h5 H eN P hF => ?_)
  refine r_pR (pc := 29) CX P hnm hF fl_X6_20 (fun q hq => by cases hq; rfl) dX6_init_29 (fun h6 H locs P hF => ?_)
  refine lv_aload_n (pc := 32) hx hb dX6_init_32 rfl (lv_at hl 0 rfl) ?_
  refine lv_bipush (pc := 33) (v := 12) hx hb dX6_init_33 (by decide) ?_
  refine r_nwA (pc := 35) (atype := .int) (N' := 12) CX P hF (Or.inl ⟨rfl, rfl⟩) tw_107 (by decide) (Nat.le_of_ble_eq_true rfl) (Nat.le_of_ble_eq_true rfl) dX6_init_35 (fun h7 H eN P hF => ?_)
  refine r_pR (pc := 37) CX P hnm hF fl_X6_23 (fun q hq => by cases hq; rfl) dX6_init_37 (fun h8 H locs P hF => ?_)
  refine lv_aload_n (pc := 40) hx hb dX6_init_40 rfl (lv_at hl 0 rfl) ?_
  refine lv_bipush (pc := 41) (v := 12) hx hb dX6_init_41 (by decide) ?_
  refine r_nwA (pc := 43) (atype := .int) (N' := 12) CX P hF (Or.inl ⟨rfl, rfl⟩) tw_107 (by decide) (Nat.le_of_ble_eq_true rfl) (Nat.le_of_ble_eq_true rfl) dX6_init_43 (fun h9 H eN P hF => ?_)
  refine r_pR (pc := 45) CX P hnm hF fl_X6_26 (fun q hq => by cases hq; rfl) dX6_init_45 (fun h10 H locs P hF => ?_)
  refine lv_aload_n (pc := 48) hx hb dX6_init_48 rfl (lv_at hl 0 rfl) ?_
  refine lv_bipush (pc := 49) (v := 12) hx hb dX6_init_49 (by decide) ?_
  refine r_nwA (pc := 51) (atype := .int) (N' := 12) CX P hF (Or.inl ⟨rfl, rfl⟩) tw_107 (by decide) (Nat.le_of_ble_eq_true rfl) (Nat.le_of_ble_eq_true rfl) dX6_init_51 (fun h11 H eN P hF => ?_)
  refine r_pR (pc := 53) CX P hnm hF fl_X6_29 (fun q hq => by cases hq; rfl) dX6_init_53 (fun h12 H locs P hF => ?_)
  refine lv_aload_n (pc := 56) hx hb dX6_init_56 rfl (lv_at hl 0 rfl) ?_
  refine lv_bipush (pc := 57) (v := 12) hx hb dX6_init_57 (by decide) ?_
  refine r_nwA (pc := 59) (atype := .int) (N' := 12) CX P hF (Or.inl ⟨rfl, rfl⟩) tw_107 (by decide) (Nat.le_of_ble_eq_true rfl) (Nat.le_of_ble_eq_true rfl) dX6_init_59 (fun h13 H eN P hF => ?_)
  refine r_pR (pc := 61) CX P hnm hF fl_X6_32 (fun q hq => by cases hq; rfl) dX6_init_61 (fun h14 H locs P hF => ?_)
  refine lv_aload_n (pc := 64) hx hb dX6_init_64 rfl (lv_at hl 0 rfl) ?_
  refine lv_iconst (pc := 65) (v := 4) hx hb dX6_init_65 (by decide) ?_
  refine lv_bipush (pc := 66) (v := 12) hx hb dX6_init_66 (by decide) ?_
  refine r_nwM (pc := 68) (N' := 4) (K' := 12) (ty := .int) CX P hF (by decide) (by decide) (by decide) (by decide) (by decide) (by decide) (Or.inl ⟨rfl, rfl, rfl⟩) tw_37 tw_107 (Nat.le_of_ble_eq_true rfl) (Nat.le_of_ble_eq_true rfl) dX6_init_68 (fun h15 H eN P hF => ?_)
  refine r_pR (pc := 72) CX P hnm hF fl_X6_35 (fun q hq => by cases hq; rfl) dX6_init_72 (fun h16 H locs P hF => ?_)
  refine lv_aload_n (pc := 75) hx hb dX6_init_75 rfl (lv_at hl 0 rfl) ?_
  refine r_gR (pc := 76) CX P hF fl_X6_9 dX6_init_76 (fun a17 hF => ?_)
  refine lv_bipush (pc := 79) (v := (-2)) hx hb dX6_init_79 (by decide) ?_
  refine r_cSv (pc := 81) (As := [.ref (B + a17), .int (-2)]) (rest := []) CX P hl.1 hF ks_X6_38 (fun h1 q => c_J7_fill_53178 l G B _ _ _ _ q) rfl rfl ⟨Nat.le_of_ble_eq_true rfl, Nat.le_of_ble_eq_true rfl⟩ (Nat.le_of_ble_eq_true rfl) ⟨Nat.le_of_ble_eq_true rfl, Nat.le_of_ble_eq_true rfl⟩ dX6_init_81 (fun h18 H locs P hF => ?_)
  refine lv_aload_n (pc := 84) hx hb dX6_init_84 rfl (lv_at hl 0 rfl) ?_
  refine lv_iconst (pc := 85) (v := 0) hx hb dX6_init_85 (by decide) ?_
  refine lv_iconst (pc := 86) (v := (-1)) hx hb dX6_init_86 (by decide) ?_
  refine r_cVv (pc := 87) (As := [.int 0, .int (-1)]) (rest := []) CX P hl.1 hF kv_X6_44 (fun h1 q => c_X6_putGroup l G B _ _ _ _ _ q) rfl rfl ⟨Nat.le_of_ble_eq_true rfl, Nat.le_of_ble_eq_true rfl⟩ (Nat.le_of_ble_eq_true rfl) ⟨Nat.le_of_ble_eq_true rfl, Nat.le_of_ble_eq_true rfl⟩ dX6_init_87 (fun h19 H locs P hF => ?_)
  cases hF
  exact hret _ _ _ _ P dX6_init_90
def F_X0_init (h : Hp) (a0 : Nat) : Option (Hp) :=
(nwA h 11 16).bind fun h1 =>
(pR h1 a0 0 0 (mN h)).bind fun h2 =>
(nwA h2 11 16).bind fun h3 =>
(pR h3 a0 0 1 (mN h2)).bind fun h4 =>
bl (nwM h4 15 11 2 16) fun h5 =>
(pR h5 a0 0 2 (mN h4)).bind fun h6 =>
(nwA h6 11 16).bind fun h7 =>
(pR h7 a0 0 3 (mN h6)).bind fun h8 =>
(nwA h8 11 16).bind fun h9 =>
(pR h9 a0 0 4 (mN h8)).bind fun h10 =>
(nwA h10 11 16).bind fun h11 =>
(pR h11 a0 0 5 (mN h10)).bind fun h12 =>
(nwA h12 11 16).bind fun h13 =>
(pR h13 a0 0 6 (mN h12)).bind fun h14 =>
(gR h14 a0 0 0).bind fun a15 =>
(F_J7_fill_53178 h14 a15 (-1)).bind fun h16 =>
some h16
set_option maxRecDepth 100000 in
set_option maxHeartbeats 4000000 in
theorem c_X0_init (l : Launch) (G : GG) (B : Nat) (h : Hp) (a0 : Nat) (hr : Hp) (hF : F_X0_init h a0 = some hr) : CV l yX0_init cX0_init 1 1 39 9 130 G B h [.ref (B + a0)] hr := by
  refine ent_v rfl (Nat.le_of_ble_eq_true rfl) ?_
  intro p e s m args below meth c ls Q CX hnm hret P hl
  have CX : Cxt p m c cX0_init 1 s args RX0 G B := CX
  obtain ⟨⟨hx, hb, hml, hown, hts⟩, -, -⟩ := id CX
  replace hl : lv_has ls 1 [(0, .ref (B + a0))] := hl
  generalize s.heap = H at P ⊢
  generalize ([] : List Loc) = locs at P ⊢
  unfold F_X0_init at hF
  refine lv_aload_n (pc := 0) hx hb dX0_init_0 rfl (lv_at hl 0 rfl) ?_
  refine r_obj (pc := 1) CX hl.1 tw_113 tw_23 tw_24 (Nat.le_of_ble_eq_true rfl) (Nat.le_of_ble_eq_true rfl) dX0_init_1 ?_
  refine lv_aload_n (pc := 4) hx hb dX0_init_4 rfl (lv_at hl 0 rfl) ?_
  refine lv_bipush (pc := 5) (v := 16) hx hb dX0_init_5 (by decide) ?_
  refine r_nwA (pc := 7) (atype := .int) (N' := 16) CX P hF (Or.inl ⟨rfl, rfl⟩) tw_107 (by decide) (Nat.le_of_ble_eq_true rfl) (Nat.le_of_ble_eq_true rfl) dX0_init_7 (fun h1 H eN P hF => ?_)
  refine r_pR (pc := 9) CX P hnm hF fl_X0_9 (fun q hq => by cases hq; rfl) dX0_init_9 (fun h2 H locs P hF => ?_)
  refine lv_aload_n (pc := 12) hx hb dX0_init_12 rfl (lv_at hl 0 rfl) ?_
  refine lv_bipush (pc := 13) (v := 16) hx hb dX0_init_13 (by decide) ?_
  refine r_nwA (pc := 15) (atype := .int) (N' := 16) CX P hF (Or.inl ⟨rfl, rfl⟩) tw_107 (by decide) (Nat.le_of_ble_eq_true rfl) (Nat.le_of_ble_eq_true rfl) dX0_init_15 (fun h3 H eN P hF => ?_)
  refine r_pR (pc := 17) CX P hnm hF fl_X0_15 (fun q hq => by cases hq; rfl) dX0_init_17 (fun h4 H locs P hF => ?_)
  refine lv_aload_n (pc := 20) hx hb dX0_init_20 rfl (lv_at hl 0 rfl) ?_
  refine lv_iconst (pc := 21) (v := 2) hx hb dX0_init_21 (by decide) ?_
  refine lv_bipush (pc := 22) (v := 16) hx hb dX0_init_22 (by decide) ?_
  refine r_nwM (pc := 24) (N' := 2) (K' := 16) (ty := .int) CX P hF (by decide) (by decide) (by decide) (by decide) (by decide) (by decide) (Or.inl ⟨rfl, rfl, rfl⟩) tw_114 tw_107 (Nat.le_of_ble_eq_true rfl) (Nat.le_of_ble_eq_true rfl) dX0_init_24 (fun h5 H eN P hF => ?_)
  refine r_pR (pc := 28) CX P hnm hF fl_X0_20 (fun q hq => by cases hq; rfl) dX0_init_28 (fun h6 H locs P hF => ?_)
  refine lv_aload_n (pc := 31) hx hb dX0_init_31 rfl (lv_at hl 0 rfl) ?_
  refine lv_bipush (pc := 32) (v := 16) hx hb dX0_init_32 (by decide) ?_
  refine r_nwA (pc := 34) (atype := .int) (N' := 16) CX P hF (Or.inl ⟨rfl, rfl⟩) tw_107 (by decide) (Nat.le_of_ble_eq_true rfl) (Nat.le_of_ble_eq_true rfl) dX0_init_34 (fun h7 H eN P hF => ?_)
  refine r_pR (pc := 36) CX P hnm hF fl_X0_23 (fun q hq => by cases hq; rfl) dX0_init_36 (fun h8 H locs P hF => ?_)
  refine lv_aload_n (pc := 39) hx hb dX0_init_39 rfl (lv_at hl 0 rfl) ?_
  refine lv_bipush (pc := 40) (v := 16) hx hb dX0_init_40 (by decide) ?_
  refine r_nwA (pc := 42) (atype := .int) (N' := 16) CX P hF (Or.inl ⟨rfl, rfl⟩) tw_107 (by decide) (Nat.le_of_ble_eq_true rfl) (Nat.le_of_ble_eq_true rfl) dX0_init_42 (fun h9 H eN P hF => ?_)
  refine r_pR (pc := 44) CX P hnm hF fl_X0_26 (fun q hq => by cases hq; rfl) dX0_init_44 (fun h10 H locs P hF => ?_)
  refine lv_aload_n (pc := 47) hx hb dX0_init_47 rfl (lv_at hl 0 rfl) ?_
  refine lv_bipush (pc := 48) (v := 16) hx hb dX0_init_48 (by decide) ?_
  refine r_nwA (pc := 50) (atype := .int) (N' := 16) CX P hF (Or.inl ⟨rfl, rfl⟩) tw_107 (by decide) (Nat.le_of_ble_eq_true rfl) (Nat.le_of_ble_eq_true rfl) dX0_init_50 (fun h11 H eN P hF => ?_)
  refine r_pR (pc := 52) CX P hnm hF fl_X0_29 (fun q hq => by cases hq; rfl) dX0_init_52 (fun h12 H locs P hF => ?_)
  refine lv_aload_n (pc := 55) hx hb dX0_init_55 rfl (lv_at hl 0 rfl) ?_
  refine lv_bipush (pc := 56) (v := 16) hx hb dX0_init_56 (by decide) ?_
  refine r_nwA (pc := 58) (atype := .int) (N' := 16) CX P hF (Or.inl ⟨rfl, rfl⟩) tw_107 (by decide) (Nat.le_of_ble_eq_true rfl) (Nat.le_of_ble_eq_true rfl) dX0_init_58 (fun h13 H eN P hF => ?_)
  refine r_pR (pc := 60) CX P hnm hF fl_X0_32 (fun q hq => by cases hq; rfl) dX0_init_60 (fun h14 H locs P hF => ?_)
  refine lv_aload_n (pc := 63) hx hb dX0_init_63 rfl (lv_at hl 0 rfl) ?_
  refine r_gR (pc := 64) CX P hF fl_X0_9 dX0_init_64 (fun a15 hF => ?_)
  refine lv_iconst (pc := 67) (v := (-1)) hx hb dX0_init_67 (by decide) ?_
  refine r_cSv (pc := 68) (As := [.ref (B + a15), .int (-1)]) (rest := []) CX P hl.1 hF ks_X0_35 (fun h1 q => c_J7_fill_53178 l G B _ _ _ _ q) rfl rfl ⟨Nat.le_of_ble_eq_true rfl, Nat.le_of_ble_eq_true rfl⟩ (Nat.le_of_ble_eq_true rfl) ⟨Nat.le_of_ble_eq_true rfl, Nat.le_of_ble_eq_true rfl⟩ dX0_init_68 (fun h16 H locs P hF => ?_)
  cases hF
  exact hret _ _ _ _ P dX0_init_71
def F_X1_init (h : Hp) (a0 : Nat) : Option (Hp) :=
bl (nwM h 16 12 3 12) fun h1 =>
(pR h1 a0 1 0 (mN h)).bind fun h2 =>
bl (nwM h2 15 11 3 12) fun h3 =>
(pR h3 a0 1 1 (mN h2)).bind fun h4 =>
bl (nwM h4 15 11 9 12) fun h5 =>
(pR h5 a0 1 2 (mN h4)).bind fun h6 =>
some h6
set_option maxRecDepth 100000 in
set_option maxHeartbeats 4000000 in
theorem c_X1_init (l : Launch) (G : GG) (B : Nat) (h : Hp) (a0 : Nat) (hr : Hp) (hF : F_X1_init h a0 = some hr) : CV l yX1_init cX1_init 1 1 39 18 195 G B h [.ref (B + a0)] hr := by
  refine ent_v rfl (Nat.le_of_ble_eq_true rfl) ?_
  intro p e s m args below meth c ls Q CX hnm hret P hl
  have CX : Cxt p m c cX1_init 1 s args RX1 G B := CX
  obtain ⟨⟨hx, hb, hml, hown, hts⟩, -, -⟩ := id CX
  replace hl : lv_has ls 1 [(0, .ref (B + a0))] := hl
  generalize s.heap = H at P ⊢
  generalize ([] : List Loc) = locs at P ⊢
  unfold F_X1_init at hF
  refine lv_aload_n (pc := 0) hx hb dX1_init_0 rfl (lv_at hl 0 rfl) ?_
  refine r_obj (pc := 1) CX hl.1 tw_163 tw_23 tw_24 (Nat.le_of_ble_eq_true rfl) (Nat.le_of_ble_eq_true rfl) dX1_init_1 ?_
  refine lv_aload_n (pc := 4) hx hb dX1_init_4 rfl (lv_at hl 0 rfl) ?_
  refine lv_iconst (pc := 5) (v := 3) hx hb dX1_init_5 (by decide) ?_
  refine lv_bipush (pc := 6) (v := 12) hx hb dX1_init_6 (by decide) ?_
  refine r_nwM (pc := 8) (N' := 3) (K' := 12) (ty := .long) CX P hF (by decide) (by decide) (by decide) (by decide) (by decide) (by decide) (Or.inr ⟨rfl, rfl, rfl⟩) tw_164 tw_179 (Nat.le_of_ble_eq_true rfl) (Nat.le_of_ble_eq_true rfl) dX1_init_8 (fun h1 H eN P hF => ?_)
  refine r_pR (pc := 12) CX P hnm hF fl_X1_11 (fun q hq => by cases hq; rfl) dX1_init_12 (fun h2 H locs P hF => ?_)
  refine lv_aload_n (pc := 15) hx hb dX1_init_15 rfl (lv_at hl 0 rfl) ?_
  refine lv_iconst (pc := 16) (v := 3) hx hb dX1_init_16 (by decide) ?_
  refine lv_bipush (pc := 17) (v := 12) hx hb dX1_init_17 (by decide) ?_
  refine r_nwM (pc := 19) (N' := 3) (K' := 12) (ty := .int) CX P hF (by decide) (by decide) (by decide) (by decide) (by decide) (by decide) (Or.inl ⟨rfl, rfl, rfl⟩) tw_166 tw_107 (Nat.le_of_ble_eq_true rfl) (Nat.le_of_ble_eq_true rfl) dX1_init_19 (fun h3 H eN P hF => ?_)
  refine r_pR (pc := 23) CX P hnm hF fl_X1_18 (fun q hq => by cases hq; rfl) dX1_init_23 (fun h4 H locs P hF => ?_)
  refine lv_aload_n (pc := 26) hx hb dX1_init_26 rfl (lv_at hl 0 rfl) ?_
  refine lv_bipush (pc := 27) (v := 9) hx hb dX1_init_27 (by decide) ?_
  refine lv_bipush (pc := 29) (v := 12) hx hb dX1_init_29 (by decide) ?_
  refine r_nwM (pc := 31) (N' := 9) (K' := 12) (ty := .int) CX P hF (by decide) (by decide) (by decide) (by decide) (by decide) (by decide) (Or.inl ⟨rfl, rfl, rfl⟩) tw_166 tw_107 (Nat.le_of_ble_eq_true rfl) (Nat.le_of_ble_eq_true rfl) dX1_init_31 (fun h5 H eN P hF => ?_)
  refine r_pR (pc := 35) CX P hnm hF fl_X1_21 (fun q hq => by cases hq; rfl) dX1_init_35 (fun h6 H locs P hF => ?_)
  cases hF
  exact hret _ _ _ _ P dX1_init_38
def F_X7_init (h : Hp) (a0 : Nat) : Option (Hp) :=
(nwA h 11 4).bind fun h1 =>
(pR h1 a0 7 0 (mN h)).bind fun h2 =>
(nwA h2 11 4).bind fun h3 =>
(pR h3 a0 7 1 (mN h2)).bind fun h4 =>
(nwA h4 11 4).bind fun h5 =>
(pR h5 a0 7 2 (mN h4)).bind fun h6 =>
(nwA h6 11 4).bind fun h7 =>
(pR h7 a0 7 3 (mN h6)).bind fun h8 =>
some h8
set_option maxRecDepth 100000 in
set_option maxHeartbeats 4000000 in
theorem c_X7_init (l : Launch) (G : GG) (B : Nat) (h : Hp) (a0 : Nat) (hr : Hp) (hF : F_X7_init h a0 = some hr) : CV l yX7_init cX7_init 1 1 39 4 16 G B h [.ref (B + a0)] hr := by
  refine ent_v rfl (Nat.le_of_ble_eq_true rfl) ?_
  intro p e s m args below meth c ls Q CX hnm hret P hl
  have CX : Cxt p m c cX7_init 1 s args RX7 G B := CX
  obtain ⟨⟨hx, hb, hml, hown, hts⟩, -, -⟩ := id CX
  replace hl : lv_has ls 1 [(0, .ref (B + a0))] := hl
  generalize s.heap = H at P ⊢
  generalize ([] : List Loc) = locs at P ⊢
  unfold F_X7_init at hF
  refine lv_aload_n (pc := 0) hx hb dX7_init_0 rfl (lv_at hl 0 rfl) ?_
  refine r_obj (pc := 1) CX hl.1 tw_185 tw_23 tw_24 (Nat.le_of_ble_eq_true rfl) (Nat.le_of_ble_eq_true rfl) dX7_init_1 ?_
  refine lv_aload_n (pc := 4) hx hb dX7_init_4 rfl (lv_at hl 0 rfl) ?_
  refine lv_iconst (pc := 5) (v := 4) hx hb dX7_init_5 (by decide) ?_
  refine r_nwA (pc := 6) (atype := .int) (N' := 4) CX P hF (Or.inl ⟨rfl, rfl⟩) tw_107 (by decide) (Nat.le_of_ble_eq_true rfl) (Nat.le_of_ble_eq_true rfl) dX7_init_6 (fun h1 H eN P hF => ?_)
  refine r_pR (pc := 8) CX P hnm hF fl_X7_9 (fun q hq => by cases hq; rfl) dX7_init_8 (fun h2 H locs P hF => ?_)
  refine lv_aload_n (pc := 11) hx hb dX7_init_11 rfl (lv_at hl 0 rfl) ?_
  refine lv_iconst (pc := 12) (v := 4) hx hb dX7_init_12 (by decide) ?_
  refine r_nwA (pc := 13) (atype := .int) (N' := 4) CX P hF (Or.inl ⟨rfl, rfl⟩) tw_107 (by decide) (Nat.le_of_ble_eq_true rfl) (Nat.le_of_ble_eq_true rfl) dX7_init_13 (fun h3 H eN P hF => ?_)
  refine r_pR (pc := 15) CX P hnm hF fl_X7_15 (fun q hq => by cases hq; rfl) dX7_init_15 (fun h4 H locs P hF => ?_)
  refine lv_aload_n (pc := 18) hx hb dX7_init_18 rfl (lv_at hl 0 rfl) ?_
  refine lv_iconst (pc := 19) (v := 4) hx hb dX7_init_19 (by decide) ?_
  refine r_nwA (pc := 20) (atype := .int) (N' := 4) CX P hF (Or.inl ⟨rfl, rfl⟩) tw_107 (by decide) (Nat.le_of_ble_eq_true rfl) (Nat.le_of_ble_eq_true rfl) dX7_init_20 (fun h5 H eN P hF => ?_)
  refine r_pR (pc := 22) CX P hnm hF fl_X7_18 (fun q hq => by cases hq; rfl) dX7_init_22 (fun h6 H locs P hF => ?_)
  refine lv_aload_n (pc := 25) hx hb dX7_init_25 rfl (lv_at hl 0 rfl) ?_
  refine lv_iconst (pc := 26) (v := 4) hx hb dX7_init_26 (by decide) ?_
  refine r_nwA (pc := 27) (atype := .int) (N' := 4) CX P hF (Or.inl ⟨rfl, rfl⟩) tw_107 (by decide) (Nat.le_of_ble_eq_true rfl) (Nat.le_of_ble_eq_true rfl) dX7_init_27 (fun h7 H eN P hF => ?_)
  refine r_pR (pc := 29) CX P hnm hF fl_X7_21 (fun q hq => by cases hq; rfl) dX7_init_29 (fun h8 H locs P hF => ?_)
  cases hF
  exact hret _ _ _ _ P dX7_init_32
def F_X6_has (h : Hp) (a0 : Nat) (vp1 : Int32) : Option (Int32) :=
if vp1 < 0 then (
some 0) else (
if 12 ≤ vp1 then (
some 0) else (
(gR h a0 6 0).bind fun a1 =>
(aI h a1 vp1).bind fun v2 =>
if v2 = (-2) then (
some 0) else (
some 1)))
set_option maxRecDepth 100000 in
set_option maxHeartbeats 4000000 in
theorem c_X6_has (l : Launch) (G : GG) (B : Nat) (h : Hp) (a0 : Nat) (vp1 : Int32) (r0 : Int32) (hF : F_X6_has h a0 vp1 = some r0) : CI l yX6_has cX6_has 2 .boolean 0 0 0 0 G B h [.ref (B + a0), .int vp1] r0 h := by
  refine ent_i rfl (Nat.le_of_ble_eq_true rfl) ?_
  intro p e s m args below meth c ls Q CX hnm hret P hl
  have CX : Cxt p m c cX6_has 2 s args RX6 G B := CX
  obtain ⟨⟨hx, hb, hml, hown, hts⟩, -, -⟩ := id CX
  replace hl : lv_has ls 2 [(0, .ref (B + a0)), (1, .int vp1)] := hl
  generalize s.heap = H at P ⊢
  generalize ([] : List Loc) = locs at P ⊢
  unfold F_X6_has at hF
  refine lv_iload_n (pc := 0) hx hb dX6_has_0 rfl (lv_at hl 1 rfl) ?_
  refine lv_if_lt (pc := 1) (tgt := 25) hx hb dX6_has_1 (by decide) (fun hc => ?_) (fun hc => ?_)
  · rw [if_pos hc] at hF
    refine lv_iconst (pc := 25) (v := 0) hx hb dX6_has_25 (by decide) ?_
    cases hF
    exact hret _ _ _ _ P rfl dX6_has_26
  · rw [if_neg hc] at hF
    refine lv_iload_n (pc := 4) hx hb dX6_has_4 rfl (lv_at hl 1 rfl) ?_
    refine lv_bipush (pc := 5) (v := 12) hx hb dX6_has_5 (by decide) ?_
    refine lv_icmp_ge (pc := 7) (tgt := 25) hx hb dX6_has_7 (by decide) (fun hc => ?_) (fun hc => ?_)
    · rw [if_pos hc] at hF
      refine lv_iconst (pc := 25) (v := 0) hx hb dX6_has_25 (by decide) ?_
      cases hF
      exact hret _ _ _ _ P rfl dX6_has_26
    · rw [if_neg hc] at hF
      refine lv_aload_n (pc := 10) hx hb dX6_has_10 rfl (lv_at hl 0 rfl) ?_
      refine r_gR (pc := 11) CX P hF fl_X6_9 dX6_has_11 (fun a1 hF => ?_)
      refine lv_iload_n (pc := 14) hx hb dX6_has_14 rfl (lv_at hl 1 rfl) ?_
      refine r_aI (pc := 15) CX P hF dX6_has_15 (fun v2 hF => ?_)
      refine lv_bipush (pc := 16) (v := (-2)) hx hb dX6_has_16 (by decide) ?_
      refine lv_icmp_eq (pc := 18) (tgt := 25) hx hb dX6_has_18 (by decide) (fun hc => ?_) (fun hc => ?_)
      · rw [if_pos hc] at hF
        refine lv_iconst (pc := 25) (v := 0) hx hb dX6_has_25 (by decide) ?_
        cases hF
        exact hret _ _ _ _ P rfl dX6_has_26
      · rw [if_neg hc] at hF
        refine lv_iconst (pc := 21) (v := 1) hx hb dX6_has_21 (by decide) ?_
        refine lv_goto (pc := 22) (tgt := 26) hx hb dX6_has_22 (by decide) ?_
        cases hF
        exact hret _ _ _ _ P rfl dX6_has_26
def F_X6_firstFree_L2 (h4 : Hp) (a2 : Nat) (v3 : Int32) : Option ((Int32) ⊕ ((Int32) ⊕ (Unit))) :=
if 12 ≤ v3 then (
some (.inr (.inr ()))) else (
(gR h4 a2 6 0).bind fun a5 =>
(aI h4 a5 v3).bind fun v6 =>
if v6 = (-2) then (
some (.inr (.inl v3))) else (
bl (v3 + 1) fun v7 =>
some (.inl v7)))
def F_X6_firstFree (h : Hp) (a0 : Nat) : Option (Int32) :=
(loopF (fun x => F_X6_firstFree_L2 h a0 x) 6000 0).bind (sE (fun x => some x) (fun q1 =>
some (-1)))
set_option maxRecDepth 100000 in
set_option maxHeartbeats 4000000 in
theorem c_X6_firstFree (l : Launch) (G : GG) (B : Nat) (h : Hp) (a0 : Nat) (r0 : Int32) (hF : F_X6_firstFree h a0 = some r0) : CI l yX6_firstFree cX6_firstFree 2 .int 0 0 0 0 G B h [.ref (B + a0)] r0 h := by
  refine ent_i rfl (Nat.le_of_ble_eq_true rfl) ?_
  intro p e s m args below meth c ls Q CX hnm hret P hl
  have CX : Cxt p m c cX6_firstFree 2 s args RX6 G B := CX
  obtain ⟨⟨hx, hb, hml, hown, hts⟩, -, -⟩ := id CX
  replace hl : lv_has ls 2 [(0, .ref (B + a0))] := hl
  generalize s.heap = H at P ⊢
  generalize ([] : List Loc) = locs at P ⊢
  unfold F_X6_firstFree at hF
  refine lv_iconst (pc := 0) (v := 0) hx hb dX6_firstFree_0 (by decide) ?_
  refine lv_istore_n (pc := 1) hx hb dX6_firstFree_1 rfl hl (by decide) rfl (fun ls hl => ?_)
  replace hl : lv_has ls 2 [(1, .int 0), (0, .ref (B + a0))] := hl
  obtain ⟨r1, hLp1, hK1⟩ := bd_some hF
  have hX1 : ∀  (H : Heap) (locs : List Loc) (ls : Array Slot), Pic G B h s H locs → lv_has ls 2 [] → .inr () = r1 → W p l e (rmM 0 0 0 0) s m args below meth c H locs 0 0 Q (F0 m 27 ls []) := by
    intro  H locs ls P hl er
    subst er
    have hF := sE_ri hK1
    try dsimp only at hF
    refine lv_iconst (pc := 27) (v := (-1)) hx hb dX6_firstFree_27 (by decide) ?_
    cases hF
    exact hret _ _ _ _ P rfl dX6_firstFree_28
  have hL1 : ∀ (n : Nat) (v3 : Int32) (H : Heap) (locs : List Loc) (ls : Array Slot), Pic G B h s H locs → lv_has ls 2 [(0, .ref (B + a0)), (1, .int v3)] → loopF (fun x => F_X6_firstFree_L2 h a0 x) n v3 = some r1 → W p l e (rmM 0 0 0 0) s m args below meth c H locs 0 0 Q (F0 m 2 ls []) := by
    intro n
    induction n with
    | zero => intro v3 H locs ls P hl hq; cases hq
    | succ n ih =>
      intro v3 H locs ls P hl hq
      obtain ⟨z1, hS1, hI1, hR1⟩ := loop_some hq
      have hF : F_X6_firstFree_L2 h a0 v3 = some z1 := hS1
      unfold F_X6_firstFree_L2 at hF
      refine lv_iload_n (pc := 2) hx hb dX6_firstFree_2 rfl (lv_at hl 1 rfl) ?_
      refine lv_bipush (pc := 3) (v := 12) hx hb dX6_firstFree_3 (by decide) ?_
      refine lv_icmp_ge (pc := 5) (tgt := 27) hx hb dX6_firstFree_5 (by decide) (fun hc => ?_) (fun hc => ?_)
      · rw [if_pos hc] at hF
        exact hX1  _ _ _ P (lv_sub hl [] rfl) (hR1 _ (Option.some.inj hF).symm)
      · rw [if_neg hc] at hF
        refine lv_aload_n (pc := 8) hx hb dX6_firstFree_8 rfl (lv_at hl 0 rfl) ?_
        refine r_gR (pc := 9) CX P hF fl_X6_9 dX6_firstFree_9 (fun a5 hF => ?_)
        refine lv_iload_n (pc := 12) hx hb dX6_firstFree_12 rfl (lv_at hl 1 rfl) ?_
        refine r_aI (pc := 13) CX P hF dX6_firstFree_13 (fun v6 hF => ?_)
        refine lv_bipush (pc := 14) (v := (-2)) hx hb dX6_firstFree_14 (by decide) ?_
        refine lv_icmp_ne (pc := 16) (tgt := 21) hx hb dX6_firstFree_16 (by decide) (fun hc => ?_) (fun hc => ?_)
        · rw [if_neg hc] at hF
          obtain ⟨v7, ev7, hF⟩ := bl_o hF
          refine lv_iinc (pc := 21) (k := 1) (v := v7) hx hb dX6_firstFree_21 hl rfl ev7 (by decide) rfl (fun ls hl => ?_)
          replace hl : lv_has ls 2 [(1, .int v7), (0, .ref (B + a0))] := hl
          refine lv_goto (pc := 24) (tgt := 2) hx hb dX6_firstFree_24 (by decide) ?_
          exact ih _ _ _ _ P (lv_sub hl [1, 0] rfl) (hI1 _ (Option.some.inj hF).symm)
        · rw [if_pos hc] at hF
          refine lv_iload_n (pc := 19) hx hb dX6_firstFree_19 rfl (lv_at hl 1 rfl) ?_
          have hE := hR1 _ (Option.some.inj hF).symm
          subst hE
          replace hF := sE_li hK1
          cases hF
          exact hret _ _ _ _ P rfl dX6_firstFree_20
  exact hL1 _ _ _ _ _ P (lv_sub hl [1, 0] rfl) hLp1
def F_X6_copyFrom_L40 (a10 : Nat) (a11 : Nat) (v12 : Int32) (h13 : Hp) : Option ((Int32 × Hp) ⊕ (Hp)) :=
if 9 ≤ v12 then (
some (.inr h13)) else (
(gR h13 a11 6 3).bind fun a14 =>
(aR h13 a14 15 v12).bind fun a15 =>
(gR h13 a10 6 3).bind fun a16 =>
(aR h13 a16 15 v12).bind fun a17 =>
(cpI h13 a15 0 a17 0 12).bind fun h18 =>
bl (v12 + 1) fun v19 =>
some (.inl (v19, h18)))
def F_X6_copyFrom_L133 (a34 : Nat) (a35 : Nat) (v36 : Int32) (h37 : Hp) : Option ((Int32 × Hp) ⊕ (Hp)) :=
if 4 ≤ v36 then (
some (.inr h37)) else (
(gR h37 a35 6 8).bind fun a38 =>
(aR h37 a38 15 v36).bind fun a39 =>
(gR h37 a34 6 8).bind fun a40 =>
(aR h37 a40 15 v36).bind fun a41 =>
(cpI h37 a39 0 a41 0 12).bind fun h42 =>
bl (v36 + 1) fun v43 =>
some (.inl (v43, h42)))
def F_X6_copyFrom (h : Hp) (a0 : Nat) (ap1 : Nat) : Option (Hp) :=
(gR h ap1 6 0).bind fun a1 =>
(gR h a0 6 0).bind fun a2 =>
(cpI h a1 0 a2 0 12).bind fun h3 =>
(gR h3 ap1 6 1).bind fun a4 =>
(gR h3 a0 6 1).bind fun a5 =>
(cpI h3 a4 0 a5 0 12).bind fun h6 =>
(gI h6 ap1 6 2).bind fun v7 =>
(pI h6 a0 6 2 v7).bind fun h8 =>
(loopF (fun x => F_X6_copyFrom_L40 a0 ap1 x.1 x.2) 6000 (0, h8)).bind fun h20 =>
(gR h20 ap1 6 4).bind fun a21 =>
(gR h20 a0 6 4).bind fun a22 =>
(cpI h20 a21 0 a22 0 12).bind fun h23 =>
(gR h23 ap1 6 5).bind fun a24 =>
(gR h23 a0 6 5).bind fun a25 =>
(cpI h23 a24 0 a25 0 12).bind fun h26 =>
(gR h26 ap1 6 6).bind fun a27 =>
(gR h26 a0 6 6).bind fun a28 =>
(cpI h26 a27 0 a28 0 12).bind fun h29 =>
(gR h29 ap1 6 7).bind fun a30 =>
(gR h29 a0 6 7).bind fun a31 =>
(cpI h29 a30 0 a31 0 12).bind fun h32 =>
(loopF (fun x => F_X6_copyFrom_L133 a0 ap1 x.1 x.2) 6000 (0, h32)).bind fun h44 =>
some h44
set_option maxRecDepth 100000 in
set_option maxHeartbeats 4000000 in
theorem c_X6_copyFrom (l : Launch) (G : GG) (B : Nat) (h : Hp) (a0 : Nat) (ap1 : Nat) (hr : Hp) (hF : F_X6_copyFrom h a0 ap1 = some hr) : CV l yX6_copyFrom cX6_copyFrom 3 1 99 0 0 G B h [.ref (B + a0), .ref (B + ap1)] hr := by
  refine ent_v rfl (Nat.le_of_ble_eq_true rfl) ?_
  intro p e s m args below meth c ls Q CX hnm hret P hl
  have CX : Cxt p m c cX6_copyFrom 3 s args RX6 G B := CX
  obtain ⟨⟨hx, hb, hml, hown, hts⟩, -, -⟩ := id CX
  replace hl : lv_has ls 3 [(0, .ref (B + a0)), (1, .ref (B + ap1))] := hl
  generalize s.heap = H at P ⊢
  generalize ([] : List Loc) = locs at P ⊢
  unfold F_X6_copyFrom at hF
  refine lv_aload_n (pc := 0) hx hb dX6_copyFrom_0 rfl (lv_at hl 1 rfl) ?_
  refine r_gR (pc := 1) CX P hF fl_X6_9 dX6_copyFrom_1 (fun a1 hF => ?_)
  refine lv_iconst (pc := 4) (v := 0) hx hb dX6_copyFrom_4 (by decide) ?_
  refine lv_aload_n (pc := 5) hx hb dX6_copyFrom_5 rfl (lv_at hl 0 rfl) ?_
  refine r_gR (pc := 6) CX P hF fl_X6_9 dX6_copyFrom_6 (fun a2 hF => ?_)
  refine lv_iconst (pc := 9) (v := 0) hx hb dX6_copyFrom_9 (by decide) ?_
  refine lv_bipush (pc := 10) (v := 12) hx hb dX6_copyFrom_10 (by decide) ?_
  refine r_cpI (pc := 12) CX P hl.1 hF tw_369 tw_371 tw_370 tw_13 (Nat.le_of_ble_eq_true rfl) (Nat.le_of_ble_eq_true rfl) dX6_copyFrom_12 (fun h3 H locs P hF => ?_)
  refine lv_aload_n (pc := 15) hx hb dX6_copyFrom_15 rfl (lv_at hl 1 rfl) ?_
  refine r_gR (pc := 16) CX P hF fl_X6_15 dX6_copyFrom_16 (fun a4 hF => ?_)
  refine lv_iconst (pc := 19) (v := 0) hx hb dX6_copyFrom_19 (by decide) ?_
  refine lv_aload_n (pc := 20) hx hb dX6_copyFrom_20 rfl (lv_at hl 0 rfl) ?_
  refine r_gR (pc := 21) CX P hF fl_X6_15 dX6_copyFrom_21 (fun a5 hF => ?_)
  refine lv_iconst (pc := 24) (v := 0) hx hb dX6_copyFrom_24 (by decide) ?_
  refine lv_bipush (pc := 25) (v := 12) hx hb dX6_copyFrom_25 (by decide) ?_
  refine r_cpI (pc := 27) CX P hl.1 hF tw_369 tw_371 tw_370 tw_13 (Nat.le_of_ble_eq_true rfl) (Nat.le_of_ble_eq_true rfl) dX6_copyFrom_27 (fun h6 H locs P hF => ?_)
  refine lv_aload_n (pc := 30) hx hb dX6_copyFrom_30 rfl (lv_at hl 0 rfl) ?_
  refine lv_aload_n (pc := 31) hx hb dX6_copyFrom_31 rfl (lv_at hl 1 rfl) ?_
  refine r_gI (pc := 32) CX P hF fl_X6_54 dX6_copyFrom_32 (fun v7 hF => ?_)
  refine r_pI (pc := 35) CX P hF fl_X6_54 dX6_copyFrom_35 (fun h8 H locs P hF => ?_)
  refine lv_iconst (pc := 38) (v := 0) hx hb dX6_copyFrom_38 (by decide) ?_
  refine lv_istore_n (pc := 39) hx hb dX6_copyFrom_39 rfl hl (by decide) rfl (fun ls hl => ?_)
  replace hl : lv_has ls 3 [(2, .int 0), (0, .ref (B + a0)), (1, .ref (B + ap1))] := hl
  obtain ⟨r9, hLp9, hK9⟩ := bd_some hF
  have hX9 : ∀ (h20 : Hp) (H : Heap) (locs : List Loc) (ls : Array Slot), Pic G B h20 s H locs → lv_has ls 3 [(0, .ref (B + a0)), (1, .ref (B + ap1))] → h20 = r9 → W p l e (rmM 1 99 0 0) s m args below meth c H locs 0 0 Q (F0 m 71 ls []) := by
    intro h20 H locs ls P hl er
    subst er
    have hF := hK9
    refine lv_aload_n (pc := 71) hx hb dX6_copyFrom_71 rfl (lv_at hl 1 rfl) ?_
    refine r_gR (pc := 72) CX P hF fl_X6_23 dX6_copyFrom_72 (fun a21 hF => ?_)
    refine lv_iconst (pc := 75) (v := 0) hx hb dX6_copyFrom_75 (by decide) ?_
    refine lv_aload_n (pc := 76) hx hb dX6_copyFrom_76 rfl (lv_at hl 0 rfl) ?_
    refine r_gR (pc := 77) CX P hF fl_X6_23 dX6_copyFrom_77 (fun a22 hF => ?_)
    refine lv_iconst (pc := 80) (v := 0) hx hb dX6_copyFrom_80 (by decide) ?_
    refine lv_bipush (pc := 81) (v := 12) hx hb dX6_copyFrom_81 (by decide) ?_
    refine r_cpI (pc := 83) CX P hl.1 hF tw_369 tw_371 tw_370 tw_13 (Nat.le_of_ble_eq_true rfl) (Nat.le_of_ble_eq_true rfl) dX6_copyFrom_83 (fun h23 H locs P hF => ?_)
    refine lv_aload_n (pc := 86) hx hb dX6_copyFrom_86 rfl (lv_at hl 1 rfl) ?_
    refine r_gR (pc := 87) CX P hF fl_X6_26 dX6_copyFrom_87 (fun a24 hF => ?_)
    refine lv_iconst (pc := 90) (v := 0) hx hb dX6_copyFrom_90 (by decide) ?_
    refine lv_aload_n (pc := 91) hx hb dX6_copyFrom_91 rfl (lv_at hl 0 rfl) ?_
    refine r_gR (pc := 92) CX P hF fl_X6_26 dX6_copyFrom_92 (fun a25 hF => ?_)
    refine lv_iconst (pc := 95) (v := 0) hx hb dX6_copyFrom_95 (by decide) ?_
    refine lv_bipush (pc := 96) (v := 12) hx hb dX6_copyFrom_96 (by decide) ?_
    refine r_cpI (pc := 98) CX P hl.1 hF tw_369 tw_371 tw_370 tw_13 (Nat.le_of_ble_eq_true rfl) (Nat.le_of_ble_eq_true rfl) dX6_copyFrom_98 (fun h26 H locs P hF => ?_)
    refine lv_aload_n (pc := 101) hx hb dX6_copyFrom_101 rfl (lv_at hl 1 rfl) ?_
    refine r_gR (pc := 102) CX P hF fl_X6_29 dX6_copyFrom_102 (fun a27 hF => ?_)
    refine lv_iconst (pc := 105) (v := 0) hx hb dX6_copyFrom_105 (by decide) ?_
    refine lv_aload_n (pc := 106) hx hb dX6_copyFrom_106 rfl (lv_at hl 0 rfl) ?_
    refine r_gR (pc := 107) CX P hF fl_X6_29 dX6_copyFrom_107 (fun a28 hF => ?_)
    refine lv_iconst (pc := 110) (v := 0) hx hb dX6_copyFrom_110 (by decide) ?_
    refine lv_bipush (pc := 111) (v := 12) hx hb dX6_copyFrom_111 (by decide) ?_
    refine r_cpI (pc := 113) CX P hl.1 hF tw_369 tw_371 tw_370 tw_13 (Nat.le_of_ble_eq_true rfl) (Nat.le_of_ble_eq_true rfl) dX6_copyFrom_113 (fun h29 H locs P hF => ?_)
    refine lv_aload_n (pc := 116) hx hb dX6_copyFrom_116 rfl (lv_at hl 1 rfl) ?_
    refine r_gR (pc := 117) CX P hF fl_X6_32 dX6_copyFrom_117 (fun a30 hF => ?_)
    refine lv_iconst (pc := 120) (v := 0) hx hb dX6_copyFrom_120 (by decide) ?_
    refine lv_aload_n (pc := 121) hx hb dX6_copyFrom_121 rfl (lv_at hl 0 rfl) ?_
    refine r_gR (pc := 122) CX P hF fl_X6_32 dX6_copyFrom_122 (fun a31 hF => ?_)
    refine lv_iconst (pc := 125) (v := 0) hx hb dX6_copyFrom_125 (by decide) ?_
    refine lv_bipush (pc := 126) (v := 12) hx hb dX6_copyFrom_126 (by decide) ?_
    refine r_cpI (pc := 128) CX P hl.1 hF tw_369 tw_371 tw_370 tw_13 (Nat.le_of_ble_eq_true rfl) (Nat.le_of_ble_eq_true rfl) dX6_copyFrom_128 (fun h32 H locs P hF => ?_)
    refine lv_iconst (pc := 131) (v := 0) hx hb dX6_copyFrom_131 (by decide) ?_
    refine lv_istore_n (pc := 132) hx hb dX6_copyFrom_132 rfl hl (by decide) rfl (fun ls hl => ?_)
    replace hl : lv_has ls 3 [(2, .int 0), (0, .ref (B + a0)), (1, .ref (B + ap1))] := hl
    obtain ⟨r33, hLp33, hK33⟩ := bd_some hF
    have hX33 : ∀ (h44 : Hp) (H : Heap) (locs : List Loc) (ls : Array Slot), Pic G B h44 s H locs → lv_has ls 3 [] → h44 = r33 → W p l e (rmM 1 99 0 0) s m args below meth c H locs 0 0 Q (F0 m 163 ls []) := by
      intro h44 H locs ls P hl er
      subst er
      have hF := hK33
      cases hF
      exact hret _ _ _ _ P dX6_copyFrom_163
    have hL33 : ∀ (n : Nat) (v36 : Int32) (h37 : Hp) (H : Heap) (locs : List Loc) (ls : Array Slot), Pic G B h37 s H locs → lv_has ls 3 [(0, .ref (B + a0)), (1, .ref (B + ap1)), (2, .int v36)] → loopF (fun x => F_X6_copyFrom_L133 a0 ap1 x.1 x.2) n (v36, h37) = some r33 → W p l e (rmM 1 99 0 0) s m args below meth c H locs 0 0 Q (F0 m 133 ls []) := by
      intro n
      induction n with
      | zero => intro v36 h37 H locs ls P hl hq; cases hq
      | succ n ih =>
        intro v36 h37 H locs ls P hl hq
        obtain ⟨z33, hS33, hI33, hR33⟩ := loop_some hq
        have hF : F_X6_copyFrom_L133 a0 ap1 v36 h37 = some z33 := hS33
        unfold F_X6_copyFrom_L133 at hF
        refine lv_iload_n (pc := 133) hx hb dX6_copyFrom_133 rfl (lv_at hl 2 rfl) ?_
        refine lv_iconst (pc := 134) (v := 4) hx hb dX6_copyFrom_134 (by decide) ?_
        refine lv_icmp_ge (pc := 135) (tgt := 163) hx hb dX6_copyFrom_135 (by decide) (fun hc => ?_) (fun hc => ?_)
        · rw [if_pos hc] at hF
          exact hX33 _ _ _ _ P (lv_sub hl [] rfl) (hR33 _ (Option.some.inj hF).symm)
        · rw [if_neg hc] at hF
          refine lv_aload_n (pc := 138) hx hb dX6_copyFrom_138 rfl (lv_at hl 1 rfl) ?_
          refine r_gR (pc := 139) CX P hF fl_X6_35 dX6_copyFrom_139 (fun a38 hF => ?_)
          refine lv_iload_n (pc := 142) hx hb dX6_copyFrom_142 rfl (lv_at hl 2 rfl) ?_
          refine r_aR (pc := 143) CX P hF (Or.inr (Or.inl rfl)) dX6_copyFrom_143 (fun a39 hF => ?_)
          refine lv_iconst (pc := 144) (v := 0) hx hb dX6_copyFrom_144 (by decide) ?_
          refine lv_aload_n (pc := 145) hx hb dX6_copyFrom_145 rfl (lv_at hl 0 rfl) ?_
          refine r_gR (pc := 146) CX P hF fl_X6_35 dX6_copyFrom_146 (fun a40 hF => ?_)
          refine lv_iload_n (pc := 149) hx hb dX6_copyFrom_149 rfl (lv_at hl 2 rfl) ?_
          refine r_aR (pc := 150) CX P hF (Or.inr (Or.inl rfl)) dX6_copyFrom_150 (fun a41 hF => ?_)
          refine lv_iconst (pc := 151) (v := 0) hx hb dX6_copyFrom_151 (by decide) ?_
          refine lv_bipush (pc := 152) (v := 12) hx hb dX6_copyFrom_152 (by decide) ?_
          refine r_cpI (pc := 154) CX P hl.1 hF tw_369 tw_371 tw_370 tw_13 (Nat.le_of_ble_eq_true rfl) (Nat.le_of_ble_eq_true rfl) dX6_copyFrom_154 (fun h42 H locs P hF => ?_)
          obtain ⟨v43, ev43, hF⟩ := bl_o hF
          refine lv_iinc (pc := 157) (k := 2) (v := v43) hx hb dX6_copyFrom_157 hl rfl ev43 (by decide) rfl (fun ls hl => ?_)
          replace hl : lv_has ls 3 [(2, .int v43), (0, .ref (B + a0)), (1, .ref (B + ap1))] := hl
          refine lv_goto (pc := 160) (tgt := 133) hx hb dX6_copyFrom_160 (by decide) ?_
          exact ih _ _ _ _ _ P (lv_sub hl [1, 2, 0] rfl) (hI33 _ (Option.some.inj hF).symm)
    exact hL33 _ _ _ _ _ _ P (lv_sub hl [1, 2, 0] rfl) hLp33
  have hL9 : ∀ (n : Nat) (v12 : Int32) (h13 : Hp) (H : Heap) (locs : List Loc) (ls : Array Slot), Pic G B h13 s H locs → lv_has ls 3 [(0, .ref (B + a0)), (1, .ref (B + ap1)), (2, .int v12)] → loopF (fun x => F_X6_copyFrom_L40 a0 ap1 x.1 x.2) n (v12, h13) = some r9 → W p l e (rmM 1 99 0 0) s m args below meth c H locs 0 0 Q (F0 m 40 ls []) := by
    intro n
    induction n with
    | zero => intro v12 h13 H locs ls P hl hq; cases hq
    | succ n ih =>
      intro v12 h13 H locs ls P hl hq
      obtain ⟨z9, hS9, hI9, hR9⟩ := loop_some hq
      have hF : F_X6_copyFrom_L40 a0 ap1 v12 h13 = some z9 := hS9
      unfold F_X6_copyFrom_L40 at hF
      refine lv_iload_n (pc := 40) hx hb dX6_copyFrom_40 rfl (lv_at hl 2 rfl) ?_
      refine lv_bipush (pc := 41) (v := 9) hx hb dX6_copyFrom_41 (by decide) ?_
      refine lv_icmp_ge (pc := 43) (tgt := 71) hx hb dX6_copyFrom_43 (by decide) (fun hc => ?_) (fun hc => ?_)
      · rw [if_pos hc] at hF
        exact hX9 _ _ _ _ P (lv_sub hl [0, 1] rfl) (hR9 _ (Option.some.inj hF).symm)
      · rw [if_neg hc] at hF
        refine lv_aload_n (pc := 46) hx hb dX6_copyFrom_46 rfl (lv_at hl 1 rfl) ?_
        refine r_gR (pc := 47) CX P hF fl_X6_20 dX6_copyFrom_47 (fun a14 hF => ?_)
        refine lv_iload_n (pc := 50) hx hb dX6_copyFrom_50 rfl (lv_at hl 2 rfl) ?_
        refine r_aR (pc := 51) CX P hF (Or.inr (Or.inl rfl)) dX6_copyFrom_51 (fun a15 hF => ?_)
        refine lv_iconst (pc := 52) (v := 0) hx hb dX6_copyFrom_52 (by decide) ?_
        refine lv_aload_n (pc := 53) hx hb dX6_copyFrom_53 rfl (lv_at hl 0 rfl) ?_
        refine r_gR (pc := 54) CX P hF fl_X6_20 dX6_copyFrom_54 (fun a16 hF => ?_)
        refine lv_iload_n (pc := 57) hx hb dX6_copyFrom_57 rfl (lv_at hl 2 rfl) ?_
        refine r_aR (pc := 58) CX P hF (Or.inr (Or.inl rfl)) dX6_copyFrom_58 (fun a17 hF => ?_)
        refine lv_iconst (pc := 59) (v := 0) hx hb dX6_copyFrom_59 (by decide) ?_
        refine lv_bipush (pc := 60) (v := 12) hx hb dX6_copyFrom_60 (by decide) ?_
        refine r_cpI (pc := 62) CX P hl.1 hF tw_369 tw_371 tw_370 tw_13 (Nat.le_of_ble_eq_true rfl) (Nat.le_of_ble_eq_true rfl) dX6_copyFrom_62 (fun h18 H locs P hF => ?_)
        obtain ⟨v19, ev19, hF⟩ := bl_o hF
        refine lv_iinc (pc := 65) (k := 2) (v := v19) hx hb dX6_copyFrom_65 hl rfl ev19 (by decide) rfl (fun ls hl => ?_)
        replace hl : lv_has ls 3 [(2, .int v19), (0, .ref (B + a0)), (1, .ref (B + ap1))] := hl
        refine lv_goto (pc := 68) (tgt := 40) hx hb dX6_copyFrom_68 (by decide) ?_
        exact ih _ _ _ _ _ P (lv_sub hl [1, 2, 0] rfl) (hI9 _ (Option.some.inj hF).symm)
  exact hL9 _ _ _ _ _ _ P (lv_sub hl [1, 2, 0] rfl) hLp9
def F_X0_copyFrom (h : Hp) (a0 : Nat) (ap1 : Nat) : Option (Hp) :=
(gR h ap1 0 0).bind fun a1 =>
(gR h a0 0 0).bind fun a2 =>
(cpI h a1 0 a2 0 16).bind fun h3 =>
(gR h3 ap1 0 1).bind fun a4 =>
(gR h3 a0 0 1).bind fun a5 =>
(cpI h3 a4 0 a5 0 16).bind fun h6 =>
(gR h6 ap1 0 2).bind fun a7 =>
(aR h6 a7 15 0).bind fun a8 =>
(gR h6 a0 0 2).bind fun a9 =>
(aR h6 a9 15 0).bind fun a10 =>
(cpI h6 a8 0 a10 0 16).bind fun h11 =>
(gR h11 ap1 0 2).bind fun a12 =>
(aR h11 a12 15 1).bind fun a13 =>
(gR h11 a0 0 2).bind fun a14 =>
(aR h11 a14 15 1).bind fun a15 =>
(cpI h11 a13 0 a15 0 16).bind fun h16 =>
(gR h16 ap1 0 3).bind fun a17 =>
(gR h16 a0 0 3).bind fun a18 =>
(cpI h16 a17 0 a18 0 16).bind fun h19 =>
(gR h19 ap1 0 4).bind fun a20 =>
(gR h19 a0 0 4).bind fun a21 =>
(cpI h19 a20 0 a21 0 16).bind fun h22 =>
(gR h22 ap1 0 5).bind fun a23 =>
(gR h22 a0 0 5).bind fun a24 =>
(cpI h22 a23 0 a24 0 16).bind fun h25 =>
(gR h25 ap1 0 6).bind fun a26 =>
(gR h25 a0 0 6).bind fun a27 =>
(cpI h25 a26 0 a27 0 16).bind fun h28 =>
some h28
set_option maxRecDepth 100000 in
set_option maxHeartbeats 4000000 in
theorem c_X0_copyFrom (l : Launch) (G : GG) (B : Nat) (h : Hp) (a0 : Nat) (ap1 : Nat) (hr : Hp) (hF : F_X0_copyFrom h a0 ap1 = some hr) : CV l yX0_copyFrom cX0_copyFrom 2 1 99 0 0 G B h [.ref (B + a0), .ref (B + ap1)] hr := by
  refine ent_v rfl (Nat.le_of_ble_eq_true rfl) ?_
  intro p e s m args below meth c ls Q CX hnm hret P hl
  have CX : Cxt p m c cX0_copyFrom 2 s args RX0 G B := CX
  obtain ⟨⟨hx, hb, hml, hown, hts⟩, -, -⟩ := id CX
  replace hl : lv_has ls 2 [(0, .ref (B + a0)), (1, .ref (B + ap1))] := hl
  generalize s.heap = H at P ⊢
  generalize ([] : List Loc) = locs at P ⊢
  unfold F_X0_copyFrom at hF
  refine lv_aload_n (pc := 0) hx hb dX0_copyFrom_0 rfl (lv_at hl 1 rfl) ?_
  refine r_gR (pc := 1) CX P hF fl_X0_9 dX0_copyFrom_1 (fun a1 hF => ?_)
  refine lv_iconst (pc := 4) (v := 0) hx hb dX0_copyFrom_4 (by decide) ?_
  refine lv_aload_n (pc := 5) hx hb dX0_copyFrom_5 rfl (lv_at hl 0 rfl) ?_
  refine r_gR (pc := 6) CX P hF fl_X0_9 dX0_copyFrom_6 (fun a2 hF => ?_)
  refine lv_iconst (pc := 9) (v := 0) hx hb dX0_copyFrom_9 (by decide) ?_
  refine lv_bipush (pc := 10) (v := 16) hx hb dX0_copyFrom_10 (by decide) ?_
  refine r_cpI (pc := 12) CX P hl.1 hF tw_376 tw_371 tw_370 tw_13 (Nat.le_of_ble_eq_true rfl) (Nat.le_of_ble_eq_true rfl) dX0_copyFrom_12 (fun h3 H locs P hF => ?_)
  refine lv_aload_n (pc := 15) hx hb dX0_copyFrom_15 rfl (lv_at hl 1 rfl) ?_
  refine r_gR (pc := 16) CX P hF fl_X0_15 dX0_copyFrom_16 (fun a4 hF => ?_)
  refine lv_iconst (pc := 19) (v := 0) hx hb dX0_copyFrom_19 (by decide) ?_
  refine lv_aload_n (pc := 20) hx hb dX0_copyFrom_20 rfl (lv_at hl 0 rfl) ?_
  refine r_gR (pc := 21) CX P hF fl_X0_15 dX0_copyFrom_21 (fun a5 hF => ?_)
  refine lv_iconst (pc := 24) (v := 0) hx hb dX0_copyFrom_24 (by decide) ?_
  refine lv_bipush (pc := 25) (v := 16) hx hb dX0_copyFrom_25 (by decide) ?_
  refine r_cpI (pc := 27) CX P hl.1 hF tw_376 tw_371 tw_370 tw_13 (Nat.le_of_ble_eq_true rfl) (Nat.le_of_ble_eq_true rfl) dX0_copyFrom_27 (fun h6 H locs P hF => ?_)
  refine lv_aload_n (pc := 30) hx hb dX0_copyFrom_30 rfl (lv_at hl 1 rfl) ?_
  refine r_gR (pc := 31) CX P hF fl_X0_20 dX0_copyFrom_31 (fun a7 hF => ?_)
  refine lv_iconst (pc := 34) (v := 0) hx hb dX0_copyFrom_34 (by decide) ?_
  refine r_aR (pc := 35) CX P hF (Or.inr (Or.inl rfl)) dX0_copyFrom_35 (fun a8 hF => ?_)
  refine lv_iconst (pc := 36) (v := 0) hx hb dX0_copyFrom_36 (by decide) ?_
  refine lv_aload_n (pc := 37) hx hb dX0_copyFrom_37 rfl (lv_at hl 0 rfl) ?_
  refine r_gR (pc := 38) CX P hF fl_X0_20 dX0_copyFrom_38 (fun a9 hF => ?_)
  refine lv_iconst (pc := 41) (v := 0) hx hb dX0_copyFrom_41 (by decide) ?_
  refine r_aR (pc := 42) CX P hF (Or.inr (Or.inl rfl)) dX0_copyFrom_42 (fun a10 hF => ?_)
  refine lv_iconst (pc := 43) (v := 0) hx hb dX0_copyFrom_43 (by decide) ?_
  refine lv_bipush (pc := 44) (v := 16) hx hb dX0_copyFrom_44 (by decide) ?_
  refine r_cpI (pc := 46) CX P hl.1 hF tw_376 tw_371 tw_370 tw_13 (Nat.le_of_ble_eq_true rfl) (Nat.le_of_ble_eq_true rfl) dX0_copyFrom_46 (fun h11 H locs P hF => ?_)
  refine lv_aload_n (pc := 49) hx hb dX0_copyFrom_49 rfl (lv_at hl 1 rfl) ?_
  refine r_gR (pc := 50) CX P hF fl_X0_20 dX0_copyFrom_50 (fun a12 hF => ?_)
  refine lv_iconst (pc := 53) (v := 1) hx hb dX0_copyFrom_53 (by decide) ?_
  refine r_aR (pc := 54) CX P hF (Or.inr (Or.inl rfl)) dX0_copyFrom_54 (fun a13 hF => ?_)
  refine lv_iconst (pc := 55) (v := 0) hx hb dX0_copyFrom_55 (by decide) ?_
  refine lv_aload_n (pc := 56) hx hb dX0_copyFrom_56 rfl (lv_at hl 0 rfl) ?_
  refine r_gR (pc := 57) CX P hF fl_X0_20 dX0_copyFrom_57 (fun a14 hF => ?_)
  refine lv_iconst (pc := 60) (v := 1) hx hb dX0_copyFrom_60 (by decide) ?_
  refine r_aR (pc := 61) CX P hF (Or.inr (Or.inl rfl)) dX0_copyFrom_61 (fun a15 hF => ?_)
  refine lv_iconst (pc := 62) (v := 0) hx hb dX0_copyFrom_62 (by decide) ?_
  refine lv_bipush (pc := 63) (v := 16) hx hb dX0_copyFrom_63 (by decide) ?_
  refine r_cpI (pc := 65) CX P hl.1 hF tw_376 tw_371 tw_370 tw_13 (Nat.le_of_ble_eq_true rfl) (Nat.le_of_ble_eq_true rfl) dX0_copyFrom_65 (fun h16 H locs P hF => ?_)
  refine lv_aload_n (pc := 68) hx hb dX0_copyFrom_68 rfl (lv_at hl 1 rfl) ?_
  refine r_gR (pc := 69) CX P hF fl_X0_23 dX0_copyFrom_69 (fun a17 hF => ?_)
  refine lv_iconst (pc := 72) (v := 0) hx hb dX0_copyFrom_72 (by decide) ?_
  refine lv_aload_n (pc := 73) hx hb dX0_copyFrom_73 rfl (lv_at hl 0 rfl) ?_
  refine r_gR (pc := 74) CX P hF fl_X0_23 dX0_copyFrom_74 (fun a18 hF => ?_)
  refine lv_iconst (pc := 77) (v := 0) hx hb dX0_copyFrom_77 (by decide) ?_
  refine lv_bipush (pc := 78) (v := 16) hx hb dX0_copyFrom_78 (by decide) ?_
  refine r_cpI (pc := 80) CX P hl.1 hF tw_376 tw_371 tw_370 tw_13 (Nat.le_of_ble_eq_true rfl) (Nat.le_of_ble_eq_true rfl) dX0_copyFrom_80 (fun h19 H locs P hF => ?_)
  refine lv_aload_n (pc := 83) hx hb dX0_copyFrom_83 rfl (lv_at hl 1 rfl) ?_
  refine r_gR (pc := 84) CX P hF fl_X0_26 dX0_copyFrom_84 (fun a20 hF => ?_)
  refine lv_iconst (pc := 87) (v := 0) hx hb dX0_copyFrom_87 (by decide) ?_
  refine lv_aload_n (pc := 88) hx hb dX0_copyFrom_88 rfl (lv_at hl 0 rfl) ?_
  refine r_gR (pc := 89) CX P hF fl_X0_26 dX0_copyFrom_89 (fun a21 hF => ?_)
  refine lv_iconst (pc := 92) (v := 0) hx hb dX0_copyFrom_92 (by decide) ?_
  refine lv_bipush (pc := 93) (v := 16) hx hb dX0_copyFrom_93 (by decide) ?_
  refine r_cpI (pc := 95) CX P hl.1 hF tw_376 tw_371 tw_370 tw_13 (Nat.le_of_ble_eq_true rfl) (Nat.le_of_ble_eq_true rfl) dX0_copyFrom_95 (fun h22 H locs P hF => ?_)
  refine lv_aload_n (pc := 98) hx hb dX0_copyFrom_98 rfl (lv_at hl 1 rfl) ?_
  refine r_gR (pc := 99) CX P hF fl_X0_29 dX0_copyFrom_99 (fun a23 hF => ?_)
  refine lv_iconst (pc := 102) (v := 0) hx hb dX0_copyFrom_102 (by decide) ?_
  refine lv_aload_n (pc := 103) hx hb dX0_copyFrom_103 rfl (lv_at hl 0 rfl) ?_
  refine r_gR (pc := 104) CX P hF fl_X0_29 dX0_copyFrom_104 (fun a24 hF => ?_)
  refine lv_iconst (pc := 107) (v := 0) hx hb dX0_copyFrom_107 (by decide) ?_
  refine lv_bipush (pc := 108) (v := 16) hx hb dX0_copyFrom_108 (by decide) ?_
  refine r_cpI (pc := 110) CX P hl.1 hF tw_376 tw_371 tw_370 tw_13 (Nat.le_of_ble_eq_true rfl) (Nat.le_of_ble_eq_true rfl) dX0_copyFrom_110 (fun h25 H locs P hF => ?_)
  refine lv_aload_n (pc := 113) hx hb dX0_copyFrom_113 rfl (lv_at hl 1 rfl) ?_
  refine r_gR (pc := 114) CX P hF fl_X0_32 dX0_copyFrom_114 (fun a26 hF => ?_)
  refine lv_iconst (pc := 117) (v := 0) hx hb dX0_copyFrom_117 (by decide) ?_
  refine lv_aload_n (pc := 118) hx hb dX0_copyFrom_118 rfl (lv_at hl 0 rfl) ?_
  refine r_gR (pc := 119) CX P hF fl_X0_32 dX0_copyFrom_119 (fun a27 hF => ?_)
  refine lv_iconst (pc := 122) (v := 0) hx hb dX0_copyFrom_122 (by decide) ?_
  refine lv_bipush (pc := 123) (v := 16) hx hb dX0_copyFrom_123 (by decide) ?_
  refine r_cpI (pc := 125) CX P hl.1 hF tw_376 tw_371 tw_370 tw_13 (Nat.le_of_ble_eq_true rfl) (Nat.le_of_ble_eq_true rfl) dX0_copyFrom_125 (fun h28 H locs P hF => ?_)
  cases hF
  exact hret _ _ _ _ P dX0_copyFrom_128
