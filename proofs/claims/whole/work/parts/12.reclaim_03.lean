def F_X2_collectAsks_L10 (a4 : Nat) (a5 : Nat) (v6 : Int32) (h7 : Hp) : Option ((Int32 × Hp) ⊕ (Hp)) :=
if 16 ≤ v6 then (
some (.inr h7)) else (
(gR h7 a5 8 1).bind fun a8 =>
(gR h7 a8 0 0).bind fun a9 =>
(aI h7 a9 v6).bind fun v10 =>
if v10 = (-1) then (
bl (v6 + 1) fun v11 =>
some (.inl (v11, h7))) else (
(gR h7 a5 8 1).bind fun a12 =>
(gR h7 a12 0 4).bind fun a13 =>
(aI h7 a13 v6).bind fun v14 =>
if v14 = 0 then (
(gR h7 a4 2 1).bind fun a16 =>
(gR h7 a5 8 1).bind fun a17 =>
(gR h7 a17 0 5).bind fun a18 =>
(aI h7 a18 v6).bind fun v19 =>
(sI h7 a16 (12 + v6) v19).bind fun h20 =>
(gR h20 a4 2 1).bind fun a21 =>
(aI h20 a21 v10).bind fun v22 =>
(gR h20 a5 8 1).bind fun a23 =>
(gR h20 a23 0 5).bind fun a24 =>
(aI h20 a24 v6).bind fun v25 =>
(sI h20 a21 v10 (v22 + v25)).bind fun h26 =>
bl (v6 + 1) fun v27 =>
some (.inl (v27, h26))) else (
bl (v6 + 1) fun v15 =>
some (.inl (v15, h7)))))
def F_X2_collectAsks_L95 (a33 : Nat) (a34 : Nat) (v35 : Int32) (h36 : Hp) : Option ((Int32 × Hp) ⊕ (Hp)) :=
if v35 < 0 then (
some (.inr h36)) else (
(gR h36 a34 8 0).bind fun a37 =>
(gR h36 a37 6 1).bind fun a38 =>
(aI h36 a38 v35).bind fun v39 =>
(gR h36 a33 2 1).bind fun a40 =>
(gR h36 a33 2 1).bind fun a41 =>
(aI h36 a41 v39).bind fun v42 =>
(F_X2_quotaLeft h36 a34 v39).bind fun v43 =>
(sI h36 a40 v39 (mnI v42 v43)).bind fun h44 =>
if v39 = 0 then (
bl (v35 + (-1)) fun v45 =>
some (.inl (v45, h44))) else (
(gR h44 a33 2 1).bind fun a46 =>
(gR h44 a34 8 0).bind fun a47 =>
(gR h44 a47 6 0).bind fun a48 =>
(aI h44 a48 v39).bind fun v49 =>
(aI h44 a46 v49).bind fun v50 =>
(gR h44 a33 2 1).bind fun a51 =>
(aI h44 a51 v39).bind fun v52 =>
(sI h44 a46 v49 (v50 + v52)).bind fun h53 =>
bl (v35 + (-1)) fun v54 =>
some (.inl (v54, h53))))
def F_X2_collectAsks (h : Hp) (a0 : Nat) (ap1 : Nat) : Option (Hp) :=
(gR h a0 2 1).bind fun a1 =>
(F_J7_fill_53178 h a1 0).bind fun h2 =>
(loopF (fun x => F_X2_collectAsks_L10 a0 ap1 x.1 x.2) 6000 (0, h2)).bind fun h28 =>
(gR h28 ap1 8 0).bind fun a29 =>
(gI h28 a29 6 2).bind fun v30 =>
bl (v30 - 1) fun v31 =>
(loopF (fun x => F_X2_collectAsks_L95 a0 ap1 x.1 x.2) 6000 (v31, h28)).bind fun h55 =>
some h55
set_option maxRecDepth 100000 in
set_option maxHeartbeats 4000000 in
theorem c_X2_collectAsks (l : Launch) (G : GG) (B : Nat) (h : Hp) (a0 : Nat) (ap1 : Nat) (hr : Hp) (hF : F_X2_collectAsks h a0 ap1 = some hr) : CV l yX2_collectAsks cX2_collectAsks 4 2 62 0 0 G B h [.ref (B + a0), .ref (B + ap1)] hr := by
  refine ent_v rfl (Nat.le_of_ble_eq_true rfl) ?_
  intro p e s m args below meth c ls Q CX hnm hret P hl
  have CX : Cxt p m c cX2_collectAsks 4 s args RX2 G B := CX
  obtain ⟨⟨hx, hb, hml, hown, hts⟩, -, -⟩ := id CX
  replace hl : lv_has ls 4 [(0, .ref (B + a0)), (1, .ref (B + ap1))] := hl
  generalize s.heap = H at P ⊢
  generalize ([] : List Loc) = locs at P ⊢
  unfold F_X2_collectAsks at hF
  refine lv_aload_n (pc := 0) hx hb dX2_collectAsks_0 rfl (lv_at hl 0 rfl) ?_
  refine r_gR (pc := 1) CX P hF fl_X2_15 dX2_collectAsks_1 (fun a1 hF => ?_)
  refine lv_iconst (pc := 4) (v := 0) hx hb dX2_collectAsks_4 (by decide) ?_
  refine r_cSv (pc := 5) (As := [.ref (B + a1), .int 0]) (rest := []) CX P hl.1 hF ks_X2_22 (fun h1 q => c_J7_fill_53178 l G B _ _ _ _ q) rfl rfl ⟨Nat.le_of_ble_eq_true rfl, Nat.le_of_ble_eq_true rfl⟩ (Nat.le_of_ble_eq_true rfl) ⟨Nat.le_of_ble_eq_true rfl, Nat.le_of_ble_eq_true rfl⟩ dX2_collectAsks_5 (fun h2 H locs P hF => ?_)
  refine lv_iconst (pc := 8) (v := 0) hx hb dX2_collectAsks_8 (by decide) ?_
  refine lv_istore_n (pc := 9) hx hb dX2_collectAsks_9 rfl hl (by decide) rfl (fun ls hl => ?_)
  replace hl : lv_has ls 4 [(2, .int 0), (0, .ref (B + a0)), (1, .ref (B + ap1))] := hl
  obtain ⟨r3, hLp3, hK3⟩ := bd_some hF
  have hX3 : ∀ (h28 : Hp) (H : Heap) (locs : List Loc) (ls : Array Slot), Pic G B h28 s H locs → lv_has ls 4 [(0, .ref (B + a0)), (1, .ref (B + ap1))] → h28 = r3 → W p l e (rmM 2 62 0 0) s m args below meth c H locs 0 0 Q (F0 m 85 ls []) := by
    intro h28 H locs ls P hl er
    subst er
    have hF := hK3
    refine lv_aload_n (pc := 85) hx hb dX2_collectAsks_85 rfl (lv_at hl 1 rfl) ?_
    refine r_gR (pc := 86) CX P hF fl_X2_40 dX2_collectAsks_86 (fun a29 hF => ?_)
    refine r_gI (pc := 89) CX P hF fl_X2_44 dX2_collectAsks_89 (fun v30 hF => ?_)
    refine lv_iconst (pc := 92) (v := 1) hx hb dX2_collectAsks_92 (by decide) ?_
    refine lv_isub (pc := 93) hx hb dX2_collectAsks_93 ?_
    refine lv_topi (fun v31 ev31 => ?_)
    replace hF := bl_e hF ev31
    refine lv_istore_n (pc := 94) hx hb dX2_collectAsks_94 rfl hl (by decide) rfl (fun ls hl => ?_)
    replace hl : lv_has ls 4 [(2, .int v31), (0, .ref (B + a0)), (1, .ref (B + ap1))] := hl
    obtain ⟨r32, hLp32, hK32⟩ := bd_some hF
    have hX32 : ∀ (h55 : Hp) (H : Heap) (locs : List Loc) (ls : Array Slot), Pic G B h55 s H locs → lv_has ls 4 [] → h55 = r32 → W p l e (rmM 2 62 0 0) s m args below meth c H locs 0 0 Q (F0 m 162 ls []) := by
      intro h55 H locs ls P hl er
      subst er
      have hF := hK32
      cases hF
      exact hret _ _ _ _ P dX2_collectAsks_162
    have hL32 : ∀ (n : Nat) (v35 : Int32) (h36 : Hp) (H : Heap) (locs : List Loc) (ls : Array Slot), Pic G B h36 s H locs → lv_has ls 4 [(0, .ref (B + a0)), (1, .ref (B + ap1)), (2, .int v35)] → loopF (fun x => F_X2_collectAsks_L95 a0 ap1 x.1 x.2) n (v35, h36) = some r32 → W p l e (rmM 2 62 0 0) s m args below meth c H locs 0 0 Q (F0 m 95 ls []) := by
      intro n
      induction n with
      | zero => intro v35 h36 H locs ls P hl hq; cases hq
      | succ n ih =>
        intro v35 h36 H locs ls P hl hq
        obtain ⟨z32, hS32, hI32, hR32⟩ := loop_some hq
        have hF : F_X2_collectAsks_L95 a0 ap1 v35 h36 = some z32 := hS32
        unfold F_X2_collectAsks_L95 at hF
        refine lv_iload_n (pc := 95) hx hb dX2_collectAsks_95 rfl (lv_at hl 2 rfl) ?_
        refine lv_if_lt (pc := 96) (tgt := 162) hx hb dX2_collectAsks_96 (by decide) (fun hc => ?_) (fun hc => ?_)
        · rw [if_pos hc] at hF
          exact hX32 _ _ _ _ P (lv_sub hl [] rfl) (hR32 _ (Option.some.inj hF).symm)
        · rw [if_neg hc] at hF
          refine lv_aload_n (pc := 99) hx hb dX2_collectAsks_99 rfl (lv_at hl 1 rfl) ?_
          refine r_gR (pc := 100) CX P hF fl_X2_40 dX2_collectAsks_100 (fun a37 hF => ?_)
          refine r_gR (pc := 103) CX P hF fl_X2_49 dX2_collectAsks_103 (fun a38 hF => ?_)
          refine lv_iload_n (pc := 106) hx hb dX2_collectAsks_106 rfl (lv_at hl 2 rfl) ?_
          refine r_aI (pc := 107) CX P hF dX2_collectAsks_107 (fun v39 hF => ?_)
          refine lv_istore_n (pc := 108) hx hb dX2_collectAsks_108 rfl hl (by decide) rfl (fun ls hl => ?_)
          replace hl : lv_has ls 4 [(3, .int v39), (0, .ref (B + a0)), (1, .ref (B + ap1)), (2, .int v35)] := hl
          refine lv_aload_n (pc := 109) hx hb dX2_collectAsks_109 rfl (lv_at hl 1 rfl) ?_
          refine r_gR (pc := 110) CX P hF fl_X2_15 dX2_collectAsks_110 (fun a40 hF => ?_)
          refine lv_iload_n (pc := 113) hx hb dX2_collectAsks_113 rfl (lv_at hl 0 rfl) ?_
          refine lv_aload_n (pc := 114) hx hb dX2_collectAsks_114 rfl (lv_at hl 1 rfl) ?_
          refine r_gR (pc := 115) CX P hF fl_X2_15 dX2_collectAsks_115 (fun a41 hF => ?_)
          refine lv_iload_n (pc := 118) hx hb dX2_collectAsks_118 rfl (lv_at hl 0 rfl) ?_
          refine r_aI (pc := 119) CX P hF dX2_collectAsks_119 (fun v42 hF => ?_)
          refine lv_aload_n (pc := 120) hx hb dX2_collectAsks_120 rfl (lv_at hl 2 rfl) ?_
          refine lv_iload_n (pc := 121) hx hb dX2_collectAsks_121 rfl (lv_at hl 0 rfl) ?_
          refine r_cSp (pc := 122) (As := [.ref (B + ap1), .int v39]) (rest := [.int v42, .int v39, .ref (B + a40)]) CX P hl.1 hF ks_X2_83 (fun r q => c_X2_quotaLeft l G B _ _ _ _ q) rfl rfl ⟨Nat.le_of_ble_eq_true rfl, Nat.le_of_ble_eq_true rfl⟩ (Nat.le_of_ble_eq_true rfl) ⟨Nat.le_of_ble_eq_true rfl, Nat.le_of_ble_eq_true rfl⟩ dX2_collectAsks_122 (fun v43 H locs P hF => ?_)
          refine r_mn (pc := 125) CX hl.1 tw_711 tw_468 tw_14 tw_469 (Nat.le_of_ble_eq_true rfl) (Nat.le_of_ble_eq_true rfl) (Nat.le_of_ble_eq_true rfl) (Nat.le_of_ble_eq_true rfl) dX2_collectAsks_125 ?_
          refine r_sI (pc := 128) CX P hF dX2_collectAsks_128 (fun h44 H locs P hF => ?_)
          refine lv_iload_n (pc := 129) hx hb dX2_collectAsks_129 rfl (lv_at hl 0 rfl) ?_
          refine lv_if_eq (pc := 130) (tgt := 156) hx hb dX2_collectAsks_130 (by decide) (fun hc => ?_) (fun hc => ?_)
          · rw [if_pos hc] at hF
            obtain ⟨v45, ev45, hF⟩ := bl_o hF
            refine lv_iinc (pc := 156) (k := 3) (v := v45) hx hb dX2_collectAsks_156 hl rfl ev45 (by decide) rfl (fun ls hl => ?_)
            replace hl : lv_has ls 4 [(2, .int v45), (3, .int v39), (0, .ref (B + a0)), (1, .ref (B + ap1))] := hl
            refine lv_goto (pc := 159) (tgt := 95) hx hb dX2_collectAsks_159 (by decide) ?_
            exact ih _ _ _ _ _ P (lv_sub hl [2, 3, 0] rfl) (hI32 _ (Option.some.inj hF).symm)
          · rw [if_neg hc] at hF
            refine lv_aload_n (pc := 133) hx hb dX2_collectAsks_133 rfl (lv_at hl 1 rfl) ?_
            refine r_gR (pc := 134) CX P hF fl_X2_15 dX2_collectAsks_134 (fun a46 hF => ?_)
            refine lv_aload_n (pc := 137) hx hb dX2_collectAsks_137 rfl (lv_at hl 2 rfl) ?_
            refine r_gR (pc := 138) CX P hF fl_X2_40 dX2_collectAsks_138 (fun a47 hF => ?_)
            refine r_gR (pc := 141) CX P hF fl_X2_87 dX2_collectAsks_141 (fun a48 hF => ?_)
            refine lv_iload_n (pc := 144) hx hb dX2_collectAsks_144 rfl (lv_at hl 0 rfl) ?_
            refine r_aI (pc := 145) CX P hF dX2_collectAsks_145 (fun v49 hF => ?_)
            refine lv_dup2_11 (pc := 146) hx hb dX2_collectAsks_146 rfl rfl ?_
            refine r_aI (pc := 147) CX P hF dX2_collectAsks_147 (fun v50 hF => ?_)
            refine lv_aload_n (pc := 148) hx hb dX2_collectAsks_148 rfl (lv_at hl 1 rfl) ?_
            refine r_gR (pc := 149) CX P hF fl_X2_15 dX2_collectAsks_149 (fun a51 hF => ?_)
            refine lv_iload_n (pc := 152) hx hb dX2_collectAsks_152 rfl (lv_at hl 0 rfl) ?_
            refine r_aI (pc := 153) CX P hF dX2_collectAsks_153 (fun v52 hF => ?_)
            refine lv_iadd (pc := 154) hx hb dX2_collectAsks_154 ?_
            refine r_sI (pc := 155) CX P hF dX2_collectAsks_155 (fun h53 H locs P hF => ?_)
            obtain ⟨v54, ev54, hF⟩ := bl_o hF
            refine lv_iinc (pc := 156) (k := 3) (v := v54) hx hb dX2_collectAsks_156 hl rfl ev54 (by decide) rfl (fun ls hl => ?_)
            replace hl : lv_has ls 4 [(2, .int v54), (3, .int v39), (0, .ref (B + a0)), (1, .ref (B + ap1))] := hl
            refine lv_goto (pc := 159) (tgt := 95) hx hb dX2_collectAsks_159 (by decide) ?_
            exact ih _ _ _ _ _ P (lv_sub hl [2, 3, 0] rfl) (hI32 _ (Option.some.inj hF).symm)
    exact hL32 _ _ _ _ _ _ P (lv_sub hl [1, 2, 0] rfl) hLp32
  have hL3 : ∀ (n : Nat) (v6 : Int32) (h7 : Hp) (H : Heap) (locs : List Loc) (ls : Array Slot), Pic G B h7 s H locs → lv_has ls 4 [(0, .ref (B + a0)), (1, .ref (B + ap1)), (2, .int v6)] → loopF (fun x => F_X2_collectAsks_L10 a0 ap1 x.1 x.2) n (v6, h7) = some r3 → W p l e (rmM 2 62 0 0) s m args below meth c H locs 0 0 Q (F0 m 10 ls []) := by
    intro n
    induction n with
    | zero => intro v6 h7 H locs ls P hl hq; cases hq
    | succ n ih =>
      intro v6 h7 H locs ls P hl hq
      obtain ⟨z3, hS3, hI3, hR3⟩ := loop_some hq
      have hF : F_X2_collectAsks_L10 a0 ap1 v6 h7 = some z3 := hS3
      unfold F_X2_collectAsks_L10 at hF
      refine lv_iload_n (pc := 10) hx hb dX2_collectAsks_10 rfl (lv_at hl 2 rfl) ?_
      refine lv_bipush (pc := 11) (v := 16) hx hb dX2_collectAsks_11 (by decide) ?_
      refine lv_icmp_ge (pc := 13) (tgt := 85) hx hb dX2_collectAsks_13 (by decide) (fun hc => ?_) (fun hc => ?_)
      · rw [if_pos hc] at hF
        exact hX3 _ _ _ _ P (lv_sub hl [0, 1] rfl) (hR3 _ (Option.some.inj hF).symm)
      · rw [if_neg hc] at hF
        refine lv_aload_n (pc := 16) hx hb dX2_collectAsks_16 rfl (lv_at hl 1 rfl) ?_
        refine r_gR (pc := 17) CX P hF fl_X2_65 dX2_collectAsks_17 (fun a8 hF => ?_)
        refine r_gR (pc := 20) CX P hF fl_X2_77 dX2_collectAsks_20 (fun a9 hF => ?_)
        refine lv_iload_n (pc := 23) hx hb dX2_collectAsks_23 rfl (lv_at hl 2 rfl) ?_
        refine r_aI (pc := 24) CX P hF dX2_collectAsks_24 (fun v10 hF => ?_)
        refine lv_istore_n (pc := 25) hx hb dX2_collectAsks_25 rfl hl (by decide) rfl (fun ls hl => ?_)
        replace hl : lv_has ls 4 [(3, .int v10), (0, .ref (B + a0)), (1, .ref (B + ap1)), (2, .int v6)] := hl
        refine lv_iload_n (pc := 26) hx hb dX2_collectAsks_26 rfl (lv_at hl 0 rfl) ?_
        refine lv_iconst (pc := 27) (v := (-1)) hx hb dX2_collectAsks_27 (by decide) ?_
        refine lv_icmp_eq (pc := 28) (tgt := 79) hx hb dX2_collectAsks_28 (by decide) (fun hc => ?_) (fun hc => ?_)
        · rw [if_pos hc] at hF
          obtain ⟨v11, ev11, hF⟩ := bl_o hF
          refine lv_iinc (pc := 79) (k := 3) (v := v11) hx hb dX2_collectAsks_79 hl rfl ev11 (by decide) rfl (fun ls hl => ?_)
          replace hl : lv_has ls 4 [(2, .int v11), (3, .int v10), (0, .ref (B + a0)), (1, .ref (B + ap1))] := hl
          refine lv_goto (pc := 82) (tgt := 10) hx hb dX2_collectAsks_82 (by decide) ?_
          exact ih _ _ _ _ _ P (lv_sub hl [2, 3, 0] rfl) (hI3 _ (Option.some.inj hF).symm)
        · rw [if_neg hc] at hF
          refine lv_aload_n (pc := 31) hx hb dX2_collectAsks_31 rfl (lv_at hl 2 rfl) ?_
          refine r_gR (pc := 32) CX P hF fl_X2_65 dX2_collectAsks_32 (fun a12 hF => ?_)
          refine r_gR (pc := 35) CX P hF fl_X2_80 dX2_collectAsks_35 (fun a13 hF => ?_)
          refine lv_iload_n (pc := 38) hx hb dX2_collectAsks_38 rfl (lv_at hl 3 rfl) ?_
          refine r_aI (pc := 39) CX P hF dX2_collectAsks_39 (fun v14 hF => ?_)
          refine lv_if_ne (pc := 40) (tgt := 79) hx hb dX2_collectAsks_40 (by decide) (fun hc => ?_) (fun hc => ?_)
          · rw [if_neg hc] at hF
            obtain ⟨v15, ev15, hF⟩ := bl_o hF
            refine lv_iinc (pc := 79) (k := 3) (v := v15) hx hb dX2_collectAsks_79 hl rfl ev15 (by decide) rfl (fun ls hl => ?_)
            replace hl : lv_has ls 4 [(2, .int v15), (3, .int v10), (0, .ref (B + a0)), (1, .ref (B + ap1))] := hl
            refine lv_goto (pc := 82) (tgt := 10) hx hb dX2_collectAsks_82 (by decide) ?_
            exact ih _ _ _ _ _ P (lv_sub hl [2, 3, 0] rfl) (hI3 _ (Option.some.inj hF).symm)
          · rw [if_pos hc] at hF
            refine lv_aload_n (pc := 43) hx hb dX2_collectAsks_43 rfl (lv_at hl 1 rfl) ?_
            refine r_gR (pc := 44) CX P hF fl_X2_15 dX2_collectAsks_44 (fun a16 hF => ?_)
            refine lv_bipush (pc := 47) (v := 12) hx hb dX2_collectAsks_47 (by decide) ?_
            refine lv_iload_n (pc := 49) hx hb dX2_collectAsks_49 rfl (lv_at hl 3 rfl) ?_
            refine lv_iadd (pc := 50) hx hb dX2_collectAsks_50 ?_
            refine lv_aload_n (pc := 51) hx hb dX2_collectAsks_51 rfl (lv_at hl 2 rfl) ?_
            refine r_gR (pc := 52) CX P hF fl_X2_65 dX2_collectAsks_52 (fun a17 hF => ?_)
            refine r_gR (pc := 55) CX P hF fl_X2_69 dX2_collectAsks_55 (fun a18 hF => ?_)
            refine lv_iload_n (pc := 58) hx hb dX2_collectAsks_58 rfl (lv_at hl 3 rfl) ?_
            refine r_aI (pc := 59) CX P hF dX2_collectAsks_59 (fun v19 hF => ?_)
            refine r_sI (pc := 60) CX P hF dX2_collectAsks_60 (fun h20 H locs P hF => ?_)
            refine lv_aload_n (pc := 61) hx hb dX2_collectAsks_61 rfl (lv_at hl 1 rfl) ?_
            refine r_gR (pc := 62) CX P hF fl_X2_15 dX2_collectAsks_62 (fun a21 hF => ?_)
            refine lv_iload_n (pc := 65) hx hb dX2_collectAsks_65 rfl (lv_at hl 0 rfl) ?_
            refine lv_dup2_11 (pc := 66) hx hb dX2_collectAsks_66 rfl rfl ?_
            refine r_aI (pc := 67) CX P hF dX2_collectAsks_67 (fun v22 hF => ?_)
            refine lv_aload_n (pc := 68) hx hb dX2_collectAsks_68 rfl (lv_at hl 2 rfl) ?_
            refine r_gR (pc := 69) CX P hF fl_X2_65 dX2_collectAsks_69 (fun a23 hF => ?_)
            refine r_gR (pc := 72) CX P hF fl_X2_69 dX2_collectAsks_72 (fun a24 hF => ?_)
            refine lv_iload_n (pc := 75) hx hb dX2_collectAsks_75 rfl (lv_at hl 3 rfl) ?_
            refine r_aI (pc := 76) CX P hF dX2_collectAsks_76 (fun v25 hF => ?_)
            refine lv_iadd (pc := 77) hx hb dX2_collectAsks_77 ?_
            refine r_sI (pc := 78) CX P hF dX2_collectAsks_78 (fun h26 H locs P hF => ?_)
            obtain ⟨v27, ev27, hF⟩ := bl_o hF
            refine lv_iinc (pc := 79) (k := 3) (v := v27) hx hb dX2_collectAsks_79 hl rfl ev27 (by decide) rfl (fun ls hl => ?_)
            replace hl : lv_has ls 4 [(2, .int v27), (3, .int v10), (0, .ref (B + a0)), (1, .ref (B + ap1))] := hl
            refine lv_goto (pc := 82) (tgt := 10) hx hb dX2_collectAsks_82 (by decide) ?_
            exact ih _ _ _ _ _ P (lv_sub hl [2, 3, 0] rfl) (hI3 _ (Option.some.inj hF).symm)
  exact hL3 _ _ _ _ _ _ P (lv_sub hl [1, 2, 0] rfl) hLp3
def F_X2_askingWeight (h : Hp) (a0 : Nat) (ap1 : Nat) (vp2 : Int32) (vp3 : Int32) : Option (Int32) :=
(gR h a0 2 1).bind fun a1 =>
(aI h a1 vp3).bind fun v2 =>
(gR h a0 2 0).bind fun a3 =>
(aI h a3 vp3).bind fun v4 =>
if v4 < v2 then (
if vp3 < 12 then (
(gR h ap1 8 0).bind fun a5 =>
(gR h a5 6 0).bind fun a6 =>
(aI h a6 vp3).bind fun v7 =>
if v7 = vp2 then (
(gR h ap1 8 0).bind fun a8 =>
(gR h a8 6 3).bind fun a9 =>
(aR h a9 15 6).bind fun a10 =>
(aI h a10 vp3).bind fun v11 =>
some v11) else (
some 0)) else (
(gR h ap1 8 1).bind fun a12 =>
(gR h a12 0 0).bind fun a13 =>
(aI h a13 (vp3 - 12)).bind fun v14 =>
if v14 = vp2 then (
some 1) else (
some 0))) else (
some 0)
set_option maxRecDepth 100000 in
set_option maxHeartbeats 4000000 in
theorem c_X2_askingWeight (l : Launch) (G : GG) (B : Nat) (h : Hp) (a0 : Nat) (ap1 : Nat) (vp2 : Int32) (vp3 : Int32) (r0 : Int32) (hF : F_X2_askingWeight h a0 ap1 vp2 vp3 = some r0) : CI l yX2_askingWeight cX2_askingWeight 4 .int 0 0 0 0 G B h [.ref (B + a0), .ref (B + ap1), .int vp2, .int vp3] r0 h := by
  refine ent_i rfl (Nat.le_of_ble_eq_true rfl) ?_
  intro p e s m args below meth c ls Q CX hnm hret P hl
  have CX : Cxt p m c cX2_askingWeight 4 s args RX2 G B := CX
  obtain ⟨⟨hx, hb, hml, hown, hts⟩, -, -⟩ := id CX
  replace hl : lv_has ls 4 [(0, .ref (B + a0)), (1, .ref (B + ap1)), (2, .int vp2), (3, .int vp3)] := hl
  generalize s.heap = H at P ⊢
  generalize ([] : List Loc) = locs at P ⊢
  unfold F_X2_askingWeight at hF
  refine lv_aload_n (pc := 0) hx hb dX2_askingWeight_0 rfl (lv_at hl 0 rfl) ?_
  refine r_gR (pc := 1) CX P hF fl_X2_15 dX2_askingWeight_1 (fun a1 hF => ?_)
  refine lv_iload_n (pc := 4) hx hb dX2_askingWeight_4 rfl (lv_at hl 3 rfl) ?_
  refine r_aI (pc := 5) CX P hF dX2_askingWeight_5 (fun v2 hF => ?_)
  refine lv_aload_n (pc := 6) hx hb dX2_askingWeight_6 rfl (lv_at hl 0 rfl) ?_
  refine r_gR (pc := 7) CX P hF fl_X2_11 dX2_askingWeight_7 (fun a3 hF => ?_)
  refine lv_iload_n (pc := 10) hx hb dX2_askingWeight_10 rfl (lv_at hl 3 rfl) ?_
  refine r_aI (pc := 11) CX P hF dX2_askingWeight_11 (fun v4 hF => ?_)
  refine lv_icmp_gt (pc := 12) (tgt := 17) hx hb dX2_askingWeight_12 (by decide) (fun hc => ?_) (fun hc => ?_)
  · rw [if_pos hc] at hF
    refine lv_iload_n (pc := 17) hx hb dX2_askingWeight_17 rfl (lv_at hl 3 rfl) ?_
    refine lv_bipush (pc := 18) (v := 12) hx hb dX2_askingWeight_18 (by decide) ?_
    refine lv_icmp_lt (pc := 20) (tgt := 45) hx hb dX2_askingWeight_20 (by decide) (fun hc => ?_) (fun hc => ?_)
    · rw [if_pos hc] at hF
      refine lv_aload_n (pc := 45) hx hb dX2_askingWeight_45 rfl (lv_at hl 1 rfl) ?_
      refine r_gR (pc := 46) CX P hF fl_X2_40 dX2_askingWeight_46 (fun a5 hF => ?_)
      refine r_gR (pc := 49) CX P hF fl_X2_87 dX2_askingWeight_49 (fun a6 hF => ?_)
      refine lv_iload_n (pc := 52) hx hb dX2_askingWeight_52 rfl (lv_at hl 3 rfl) ?_
      refine r_aI (pc := 53) CX P hF dX2_askingWeight_53 (fun v7 hF => ?_)
      refine lv_iload_n (pc := 54) hx hb dX2_askingWeight_54 rfl (lv_at hl 2 rfl) ?_
      refine lv_icmp_ne (pc := 55) (tgt := 73) hx hb dX2_askingWeight_55 (by decide) (fun hc => ?_) (fun hc => ?_)
      · rw [if_neg hc] at hF
        refine lv_iconst (pc := 73) (v := 0) hx hb dX2_askingWeight_73 (by decide) ?_
        cases hF
        exact hret _ _ _ _ P rfl dX2_askingWeight_74
      · rw [if_pos hc] at hF
        refine lv_aload_n (pc := 58) hx hb dX2_askingWeight_58 rfl (lv_at hl 1 rfl) ?_
        refine r_gR (pc := 59) CX P hF fl_X2_40 dX2_askingWeight_59 (fun a8 hF => ?_)
        refine r_gR (pc := 62) CX P hF fl_X2_90 dX2_askingWeight_62 (fun a9 hF => ?_)
        refine lv_bipush (pc := 65) (v := 6) hx hb dX2_askingWeight_65 (by decide) ?_
        refine r_aR (pc := 67) CX P hF (Or.inr (Or.inl rfl)) dX2_askingWeight_67 (fun a10 hF => ?_)
        refine lv_iload_n (pc := 68) hx hb dX2_askingWeight_68 rfl (lv_at hl 3 rfl) ?_
        refine r_aI (pc := 69) CX P hF dX2_askingWeight_69 (fun v11 hF => ?_)
        refine lv_goto (pc := 70) (tgt := 74) hx hb dX2_askingWeight_70 (by decide) ?_
        cases hF
        exact hret _ _ _ _ P rfl dX2_askingWeight_74
    · rw [if_neg hc] at hF
      refine lv_aload_n (pc := 23) hx hb dX2_askingWeight_23 rfl (lv_at hl 1 rfl) ?_
      refine r_gR (pc := 24) CX P hF fl_X2_65 dX2_askingWeight_24 (fun a12 hF => ?_)
      refine r_gR (pc := 27) CX P hF fl_X2_77 dX2_askingWeight_27 (fun a13 hF => ?_)
      refine lv_iload_n (pc := 30) hx hb dX2_askingWeight_30 rfl (lv_at hl 3 rfl) ?_
      refine lv_bipush (pc := 31) (v := 12) hx hb dX2_askingWeight_31 (by decide) ?_
      refine lv_isub (pc := 33) hx hb dX2_askingWeight_33 ?_
      refine r_aI (pc := 34) CX P hF dX2_askingWeight_34 (fun v14 hF => ?_)
      refine lv_iload_n (pc := 35) hx hb dX2_askingWeight_35 rfl (lv_at hl 2 rfl) ?_
      refine lv_icmp_ne (pc := 36) (tgt := 43) hx hb dX2_askingWeight_36 (by decide) (fun hc => ?_) (fun hc => ?_)
      · rw [if_neg hc] at hF
        refine lv_iconst (pc := 43) (v := 0) hx hb dX2_askingWeight_43 (by decide) ?_
        cases hF
        exact hret _ _ _ _ P rfl dX2_askingWeight_44
      · rw [if_pos hc] at hF
        refine lv_iconst (pc := 39) (v := 1) hx hb dX2_askingWeight_39 (by decide) ?_
        refine lv_goto (pc := 40) (tgt := 44) hx hb dX2_askingWeight_40 (by decide) ?_
        cases hF
        exact hret _ _ _ _ P rfl dX2_askingWeight_44
  · rw [if_neg hc] at hF
    refine lv_iconst (pc := 15) (v := 0) hx hb dX2_askingWeight_15 (by decide) ?_
    cases hF
    exact hret _ _ _ _ P rfl dX2_askingWeight_16
def F_X2_giveRound_L9 (h9 : Hp) (a2 : Nat) (a3 : Nat) (v4 : Int32) (v5 : Int32) (v6 : Int32) (v7 : Int32) (v8 : Int32) : Option ((Int32 × Int32 × Int32) ⊕ (Int32 × Int32)) :=
if 28 ≤ v8 then (
some (.inr (v6, v7))) else (
(cO h9 a2 2 (F_X2_askingWeight h9 a2 a3 v4 v8)).bind fun v10 =>
bl (v6 + v10) fun v11 =>
if v10 ≤ 0 then (
bl (v8 + 1) fun v12 =>
some (.inl (v11, v7, v12))) else (
bl (fun (v16 : Int32) =>
bl (v16 + 1) fun v17 =>
some (.inl (v11, v16, v17))) fun k13 =>
if v7 = (-1) then (
k13 (v8 : Int32)) else (
(cO h9 a2 2 (F_X2_askingWeight h9 a2 a3 v4 v7)).bind fun v14 =>
if v10 ≤ v14 then (
bl (v8 + 1) fun v15 =>
some (.inl (v11, v7, v15))) else (
k13 (v8 : Int32)))))
def F_X2_giveRound_L86 (a21 : Nat) (a22 : Nat) (v23 : Int32) (v24 : Int32) (v25 : Int32) (v26 : Int32) (v27 : Int32) (v28 : Int32) (h29 : Hp) : Option ((Int32 × Int32 × Hp) ⊕ (Int32 × Hp)) :=
if 28 ≤ v28 then (
some (.inr (v27, h29))) else (
(cO h29 a21 2 (F_X2_askingWeight h29 a21 a22 v23 v28)).bind fun v30 =>
(dvI (v24 * v30) v25).bind fun v31 =>
(gR h29 a21 2 1).bind fun a32 =>
(aI h29 a32 v28).bind fun v33 =>
(gR h29 a21 2 0).bind fun a34 =>
(aI h29 a34 v28).bind fun v35 =>
bl (mnI v31 (v33 - v35)) fun v36 =>
(gR h29 a21 2 0).bind fun a37 =>
(aI h29 a37 v28).bind fun v38 =>
(sI h29 a37 v28 (v38 + v36)).bind fun h39 =>
bl (v27 + v36) fun v40 =>
bl (v28 + 1) fun v41 =>
some (.inl (v40, v41, h39)))
def F_X2_giveRound (h : Hp) (a0 : Nat) (ap1 : Nat) (vp2 : Int32) (vp3 : Int32) : Option (Int32 × Hp) :=
(loopF (fun x => F_X2_giveRound_L9 h a0 ap1 vp2 vp3 x.1 x.2.1 x.2.2) 6000 (0, (-1), 0)).bind fun q1 =>
bl q1.1 fun v18 =>
bl q1.2 fun v19 =>
if v19 = (-1) then (
some (0, h)) else (
if 0 < v18 then (
(loopF (fun x => F_X2_giveRound_L86 a0 ap1 vp2 vp3 v18 v19 x.1 x.2.1 x.2.2) 6000 (0, 0, h)).bind fun q20 =>
bl q20.1 fun v42 =>
bl q20.2 fun h43 =>
if v42 = 0 then (
(gR h43 a0 2 0).bind fun a44 =>
(aI h43 a44 v19).bind fun v45 =>
(sI h43 a44 v19 (v45 + 1)).bind fun h46 =>
some (1, h46)) else (
some (v42, h43))) else (
some (0, h)))
set_option maxRecDepth 100000 in
set_option maxHeartbeats 4000000 in
theorem c_X2_giveRound (l : Launch) (G : GG) (B : Nat) (h : Hp) (a0 : Nat) (ap1 : Nat) (vp2 : Int32) (vp3 : Int32) (r0 : Int32) (hr : Hp) (hF : F_X2_giveRound h a0 ap1 vp2 vp3 = some (r0, hr)) : CI l yX2_giveRound cX2_giveRound 9 .int 1 39 0 0 G B h [.ref (B + a0), .ref (B + ap1), .int vp2, .int vp3] r0 hr := by
  refine ent_i rfl (Nat.le_of_ble_eq_true rfl) ?_
  intro p e s m args below meth c ls Q CX hnm hret P hl
  have CX : Cxt p m c cX2_giveRound 9 s args RX2 G B := CX
  obtain ⟨⟨hx, hb, hml, hown, hts⟩, -, -⟩ := id CX
  replace hl : lv_has ls 9 [(0, .ref (B + a0)), (1, .ref (B + ap1)), (2, .int vp2), (3, .int vp3)] := hl
  generalize s.heap = H at P ⊢
  generalize ([] : List Loc) = locs at P ⊢
  unfold F_X2_giveRound at hF
  refine lv_iconst (pc := 0) (v := 0) hx hb dX2_giveRound_0 (by decide) ?_
  refine lv_istore (pc := 1) hx hb dX2_giveRound_1 hl (by decide) rfl (fun ls hl => ?_)
  replace hl : lv_has ls 9 [(4, .int 0), (0, .ref (B + a0)), (1, .ref (B + ap1)), (2, .int vp2), (3, .int vp3)] := hl
  refine lv_iconst (pc := 3) (v := (-1)) hx hb dX2_giveRound_3 (by decide) ?_
  refine lv_istore (pc := 4) hx hb dX2_giveRound_4 hl (by decide) rfl (fun ls hl => ?_)
  replace hl : lv_has ls 9 [(5, .int (-1)), (4, .int 0), (0, .ref (B + a0)), (1, .ref (B + ap1)), (2, .int vp2), (3, .int vp3)] := hl
  refine lv_iconst (pc := 6) (v := 0) hx hb dX2_giveRound_6 (by decide) ?_
  refine lv_istore (pc := 7) hx hb dX2_giveRound_7 hl (by decide) rfl (fun ls hl => ?_)
  replace hl : lv_has ls 9 [(6, .int 0), (5, .int (-1)), (4, .int 0), (0, .ref (B + a0)), (1, .ref (B + ap1)), (2, .int vp2), (3, .int vp3)] := hl
  obtain ⟨r1, hLp1, hK1⟩ := bd_some hF
  have hX1 : ∀ (v18 : Int32) (v19 : Int32) (H : Heap) (locs : List Loc) (ls : Array Slot), Pic G B h s H locs → lv_has ls 9 [(0, .ref (B + a0)), (1, .ref (B + ap1)), (2, .int vp2), (3, .int vp3), (4, .int v18), (5, .int v19)] → (v18, v19) = r1 → W p l e (rmM 1 39 0 0) s m args below meth c H locs 0 0 Q (F0 m 67 ls []) := by
    intro v18 v19 H locs ls P hl er
    subst er
    have hF := hK1
    replace hF := bl_i hF
    replace hF := bl_i hF
    try dsimp only at hF
    refine lv_iload (pc := 67) hx hb dX2_giveRound_67 (lv_at hl 5 rfl) ?_
    refine lv_iconst (pc := 69) (v := (-1)) hx hb dX2_giveRound_69 (by decide) ?_
    refine lv_icmp_eq (pc := 70) (tgt := 78) hx hb dX2_giveRound_70 (by decide) (fun hc => ?_) (fun hc => ?_)
    · rw [if_pos hc] at hF
      refine lv_iconst (pc := 78) (v := 0) hx hb dX2_giveRound_78 (by decide) ?_
      cases hF
      exact hret _ _ _ _ P rfl dX2_giveRound_79
    · rw [if_neg hc] at hF
      refine lv_iload (pc := 73) hx hb dX2_giveRound_73 (lv_at hl 4 rfl) ?_
      refine lv_if_gt (pc := 75) (tgt := 80) hx hb dX2_giveRound_75 (by decide) (fun hc => ?_) (fun hc => ?_)
      · rw [if_pos hc] at hF
        refine lv_iconst (pc := 80) (v := 0) hx hb dX2_giveRound_80 (by decide) ?_
        refine lv_istore (pc := 81) hx hb dX2_giveRound_81 hl (by decide) rfl (fun ls hl => ?_)
        replace hl : lv_has ls 9 [(6, .int 0), (0, .ref (B + a0)), (1, .ref (B + ap1)), (2, .int vp2), (3, .int vp3), (4, .int v18), (5, .int v19)] := hl
        refine lv_iconst (pc := 83) (v := 0) hx hb dX2_giveRound_83 (by decide) ?_
        refine lv_istore (pc := 84) hx hb dX2_giveRound_84 hl (by decide) rfl (fun ls hl => ?_)
        replace hl : lv_has ls 9 [(7, .int 0), (6, .int 0), (0, .ref (B + a0)), (1, .ref (B + ap1)), (2, .int vp2), (3, .int vp3), (4, .int v18), (5, .int v19)] := hl
        obtain ⟨r20, hLp20, hK20⟩ := bd_some hF
        have hX20 : ∀ (v42 : Int32) (h43 : Hp) (H : Heap) (locs : List Loc) (ls : Array Slot), Pic G B h43 s H locs → lv_has ls 9 [(0, .ref (B + a0)), (5, .int v19), (6, .int v42)] → (v42, h43) = r20 → W p l e (rmM 1 39 0 0) s m args below meth c H locs 0 0 Q (F0 m 151 ls []) := by
          intro v42 h43 H locs ls P hl er
          subst er
          have hF := hK20
          replace hF := bl_i hF
          replace hF := bl_i hF
          try dsimp only at hF
          refine lv_iload (pc := 151) hx hb dX2_giveRound_151 (lv_at hl 2 rfl) ?_
          refine lv_if_ne (pc := 153) (tgt := 170) hx hb dX2_giveRound_153 (by decide) (fun hc => ?_) (fun hc => ?_)
          · rw [if_neg hc] at hF
            refine lv_iload (pc := 170) hx hb dX2_giveRound_170 (lv_at hl 2 rfl) ?_
            cases hF
            exact hret _ _ _ _ P rfl dX2_giveRound_172
          · rw [if_pos hc] at hF
            refine lv_aload_n (pc := 156) hx hb dX2_giveRound_156 rfl (lv_at hl 0 rfl) ?_
            refine r_gR (pc := 157) CX P hF fl_X2_11 dX2_giveRound_157 (fun a44 hF => ?_)
            refine lv_iload (pc := 160) hx hb dX2_giveRound_160 (lv_at hl 1 rfl) ?_
            refine lv_dup2_11 (pc := 162) hx hb dX2_giveRound_162 rfl rfl ?_
            refine r_aI (pc := 163) CX P hF dX2_giveRound_163 (fun v45 hF => ?_)
            refine lv_iconst (pc := 164) (v := 1) hx hb dX2_giveRound_164 (by decide) ?_
            refine lv_iadd (pc := 165) hx hb dX2_giveRound_165 ?_
            refine r_sI (pc := 166) CX P hF dX2_giveRound_166 (fun h46 H locs P hF => ?_)
            refine lv_iconst (pc := 167) (v := 1) hx hb dX2_giveRound_167 (by decide) ?_
            refine lv_istore (pc := 168) hx hb dX2_giveRound_168 hl (by decide) rfl (fun ls hl => ?_)
            replace hl : lv_has ls 9 [(6, .int 1), (0, .ref (B + a0)), (5, .int v19)] := hl
            refine lv_iload (pc := 170) hx hb dX2_giveRound_170 (lv_at hl 0 rfl) ?_
            cases hF
            exact hret _ _ _ _ P rfl dX2_giveRound_172
        have hL20 : ∀ (n : Nat) (v27 : Int32) (v28 : Int32) (h29 : Hp) (H : Heap) (locs : List Loc) (ls : Array Slot), Pic G B h29 s H locs → lv_has ls 9 [(0, .ref (B + a0)), (1, .ref (B + ap1)), (2, .int vp2), (3, .int vp3), (4, .int v18), (5, .int v19), (6, .int v27), (7, .int v28)] → loopF (fun x => F_X2_giveRound_L86 a0 ap1 vp2 vp3 v18 v19 x.1 x.2.1 x.2.2) n (v27, v28, h29) = some r20 → W p l e (rmM 1 39 0 0) s m args below meth c H locs 0 0 Q (F0 m 86 ls []) := by
          intro n
          induction n with
          | zero => intro v27 v28 h29 H locs ls P hl hq; cases hq
          | succ n ih =>
            intro v27 v28 h29 H locs ls P hl hq
            obtain ⟨z20, hS20, hI20, hR20⟩ := loop_some hq
            have hF : F_X2_giveRound_L86 a0 ap1 vp2 vp3 v18 v19 v27 v28 h29 = some z20 := hS20
            unfold F_X2_giveRound_L86 at hF
            refine lv_iload (pc := 86) hx hb dX2_giveRound_86 (lv_at hl 7 rfl) ?_
            refine lv_bipush (pc := 88) (v := 28) hx hb dX2_giveRound_88 (by decide) ?_
            refine lv_icmp_ge (pc := 90) (tgt := 151) hx hb dX2_giveRound_90 (by decide) (fun hc => ?_) (fun hc => ?_)
            · rw [if_pos hc] at hF
              exact hX20 _ _ _ _ _ P (lv_sub hl [0, 5, 6] rfl) (hR20 _ (Option.some.inj hF).symm)
            · rw [if_neg hc] at hF
              refine lv_iload_n (pc := 93) hx hb dX2_giveRound_93 rfl (lv_at hl 3 rfl) ?_
              refine lv_aload_n (pc := 94) hx hb dX2_giveRound_94 rfl (lv_at hl 0 rfl) ?_
              refine lv_aload_n (pc := 95) hx hb dX2_giveRound_95 rfl (lv_at hl 1 rfl) ?_
              refine lv_iload_n (pc := 96) hx hb dX2_giveRound_96 rfl (lv_at hl 2 rfl) ?_
              refine lv_iload (pc := 97) hx hb dX2_giveRound_97 (lv_at hl 7 rfl) ?_
              refine r_cVp (pc := 99) (As := [.ref (B + ap1), .int vp2, .int v28]) (rest := [.int vp3]) CX P hl.1 hF kv_X2_97 (fun r q => c_X2_askingWeight l G B _ _ _ _ _ _ q) rfl rfl ⟨Nat.le_of_ble_eq_true rfl, Nat.le_of_ble_eq_true rfl⟩ (Nat.le_of_ble_eq_true rfl) ⟨Nat.le_of_ble_eq_true rfl, Nat.le_of_ble_eq_true rfl⟩ dX2_giveRound_99 (fun v30 H locs P hF => ?_)
              refine lv_imul (pc := 102) hx hb dX2_giveRound_102 ?_
              refine lv_iload (pc := 103) hx hb dX2_giveRound_103 (lv_at hl 4 rfl) ?_
              refine r_dv (pc := 105) hx hb hF dX2_giveRound_105 (fun v31 hF => ?_)
              refine lv_aload_n (pc := 106) hx hb dX2_giveRound_106 rfl (lv_at hl 0 rfl) ?_
              refine r_gR (pc := 107) CX P hF fl_X2_15 dX2_giveRound_107 (fun a32 hF => ?_)
              refine lv_iload (pc := 110) hx hb dX2_giveRound_110 (lv_at hl 7 rfl) ?_
              refine r_aI (pc := 112) CX P hF dX2_giveRound_112 (fun v33 hF => ?_)
              refine lv_aload_n (pc := 113) hx hb dX2_giveRound_113 rfl (lv_at hl 0 rfl) ?_
              refine r_gR (pc := 114) CX P hF fl_X2_11 dX2_giveRound_114 (fun a34 hF => ?_)
              refine lv_iload (pc := 117) hx hb dX2_giveRound_117 (lv_at hl 7 rfl) ?_
              refine r_aI (pc := 119) CX P hF dX2_giveRound_119 (fun v35 hF => ?_)
              refine lv_isub (pc := 120) hx hb dX2_giveRound_120 ?_
              refine r_mn (pc := 121) CX hl.1 tw_711 tw_468 tw_14 tw_469 (Nat.le_of_ble_eq_true rfl) (Nat.le_of_ble_eq_true rfl) (Nat.le_of_ble_eq_true rfl) (Nat.le_of_ble_eq_true rfl) dX2_giveRound_121 ?_
              refine lv_topi (fun v36 ev36 => ?_)
              replace hF := bl_e hF ev36
              refine lv_istore (pc := 124) hx hb dX2_giveRound_124 hl (by decide) rfl (fun ls hl => ?_)
              replace hl : lv_has ls 9 [(8, .int v36), (0, .ref (B + a0)), (1, .ref (B + ap1)), (2, .int vp2), (3, .int vp3), (4, .int v18), (5, .int v19), (6, .int v27), (7, .int v28)] := hl
              refine lv_aload_n (pc := 126) hx hb dX2_giveRound_126 rfl (lv_at hl 1 rfl) ?_
              refine r_gR (pc := 127) CX P hF fl_X2_11 dX2_giveRound_127 (fun a37 hF => ?_)
              refine lv_iload (pc := 130) hx hb dX2_giveRound_130 (lv_at hl 8 rfl) ?_
              refine lv_dup2_11 (pc := 132) hx hb dX2_giveRound_132 rfl rfl ?_
              refine r_aI (pc := 133) CX P hF dX2_giveRound_133 (fun v38 hF => ?_)
              refine lv_iload (pc := 134) hx hb dX2_giveRound_134 (lv_at hl 0 rfl) ?_
              refine lv_iadd (pc := 136) hx hb dX2_giveRound_136 ?_
              refine r_sI (pc := 137) CX P hF dX2_giveRound_137 (fun h39 H locs P hF => ?_)
              refine lv_iload (pc := 138) hx hb dX2_giveRound_138 (lv_at hl 7 rfl) ?_
              refine lv_iload (pc := 140) hx hb dX2_giveRound_140 (lv_at hl 0 rfl) ?_
              refine lv_iadd (pc := 142) hx hb dX2_giveRound_142 ?_
              refine lv_topi (fun v40 ev40 => ?_)
              replace hF := bl_e hF ev40
              refine lv_istore (pc := 143) hx hb dX2_giveRound_143 hl (by decide) rfl (fun ls hl => ?_)
              replace hl : lv_has ls 9 [(6, .int v40), (8, .int v36), (0, .ref (B + a0)), (1, .ref (B + ap1)), (2, .int vp2), (3, .int vp3), (4, .int v18), (5, .int v19), (7, .int v28)] := hl
              obtain ⟨v41, ev41, hF⟩ := bl_o hF
              refine lv_iinc (pc := 145) (k := 8) (v := v41) hx hb dX2_giveRound_145 hl rfl ev41 (by decide) rfl (fun ls hl => ?_)
              replace hl : lv_has ls 9 [(7, .int v41), (6, .int v40), (8, .int v36), (0, .ref (B + a0)), (1, .ref (B + ap1)), (2, .int vp2), (3, .int vp3), (4, .int v18), (5, .int v19)] := hl
              refine lv_goto (pc := 148) (tgt := 86) hx hb dX2_giveRound_148 (by decide) ?_
              exact ih _ _ _ _ _ _ P (lv_sub hl [3, 4, 5, 6, 7, 8, 1, 0] rfl) (hI20 _ (Option.some.inj hF).symm)
        exact hL20 _ _ _ _ _ _ _ P (lv_sub hl [2, 3, 4, 5, 6, 7, 1, 0] rfl) hLp20
      · rw [if_neg hc] at hF
        refine lv_iconst (pc := 78) (v := 0) hx hb dX2_giveRound_78 (by decide) ?_
        cases hF
        exact hret _ _ _ _ P rfl dX2_giveRound_79
  have hL1 : ∀ (n : Nat) (v6 : Int32) (v7 : Int32) (v8 : Int32) (H : Heap) (locs : List Loc) (ls : Array Slot), Pic G B h s H locs → lv_has ls 9 [(0, .ref (B + a0)), (1, .ref (B + ap1)), (2, .int vp2), (3, .int vp3), (4, .int v6), (5, .int v7), (6, .int v8)] → loopF (fun x => F_X2_giveRound_L9 h a0 ap1 vp2 vp3 x.1 x.2.1 x.2.2) n (v6, v7, v8) = some r1 → W p l e (rmM 1 39 0 0) s m args below meth c H locs 0 0 Q (F0 m 9 ls []) := by
    intro n
    induction n with
    | zero => intro v6 v7 v8 H locs ls P hl hq; cases hq
    | succ n ih =>
      intro v6 v7 v8 H locs ls P hl hq
      obtain ⟨z1, hS1, hI1, hR1⟩ := loop_some hq
      have hF : F_X2_giveRound_L9 h a0 ap1 vp2 vp3 v6 v7 v8 = some z1 := hS1
      unfold F_X2_giveRound_L9 at hF
      refine lv_iload (pc := 9) hx hb dX2_giveRound_9 (lv_at hl 6 rfl) ?_
      refine lv_bipush (pc := 11) (v := 28) hx hb dX2_giveRound_11 (by decide) ?_
      refine lv_icmp_ge (pc := 13) (tgt := 67) hx hb dX2_giveRound_13 (by decide) (fun hc => ?_) (fun hc => ?_)
      · rw [if_pos hc] at hF
        exact hX1 _ _ _ _ _ P (lv_sub hl [0, 1, 2, 3, 4, 5] rfl) (hR1 _ (Option.some.inj hF).symm)
      · rw [if_neg hc] at hF
        refine lv_aload_n (pc := 16) hx hb dX2_giveRound_16 rfl (lv_at hl 0 rfl) ?_
        refine lv_aload_n (pc := 17) hx hb dX2_giveRound_17 rfl (lv_at hl 1 rfl) ?_
        refine lv_iload_n (pc := 18) hx hb dX2_giveRound_18 rfl (lv_at hl 2 rfl) ?_
        refine lv_iload (pc := 19) hx hb dX2_giveRound_19 (lv_at hl 6 rfl) ?_
        refine r_cVp (pc := 21) (As := [.ref (B + ap1), .int vp2, .int v8]) (rest := []) CX P hl.1 hF kv_X2_97 (fun r q => c_X2_askingWeight l G B _ _ _ _ _ _ q) rfl rfl ⟨Nat.le_of_ble_eq_true rfl, Nat.le_of_ble_eq_true rfl⟩ (Nat.le_of_ble_eq_true rfl) ⟨Nat.le_of_ble_eq_true rfl, Nat.le_of_ble_eq_true rfl⟩ dX2_giveRound_21 (fun v10 H locs P hF => ?_)
        refine lv_istore (pc := 24) hx hb dX2_giveRound_24 hl (by decide) rfl (fun ls hl => ?_)
        replace hl : lv_has ls 9 [(7, .int v10), (0, .ref (B + a0)), (1, .ref (B + ap1)), (2, .int vp2), (3, .int vp3), (4, .int v6), (5, .int v7), (6, .int v8)] := hl
        refine lv_iload (pc := 26) hx hb dX2_giveRound_26 (lv_at hl 5 rfl) ?_
        refine lv_iload (pc := 28) hx hb dX2_giveRound_28 (lv_at hl 0 rfl) ?_
        refine lv_iadd (pc := 30) hx hb dX2_giveRound_30 ?_
        refine lv_topi (fun v11 ev11 => ?_)
        replace hF := bl_e hF ev11
        refine lv_istore (pc := 31) hx hb dX2_giveRound_31 hl (by decide) rfl (fun ls hl => ?_)
        replace hl : lv_has ls 9 [(4, .int v11), (7, .int v10), (0, .ref (B + a0)), (1, .ref (B + ap1)), (2, .int vp2), (3, .int vp3), (5, .int v7), (6, .int v8)] := hl
        refine lv_iload (pc := 33) hx hb dX2_giveRound_33 (lv_at hl 1 rfl) ?_
        refine lv_if_le (pc := 35) (tgt := 61) hx hb dX2_giveRound_35 (by decide) (fun hc => ?_) (fun hc => ?_)
        · rw [if_pos hc] at hF
          obtain ⟨v12, ev12, hF⟩ := bl_o hF
          refine lv_iinc (pc := 61) (k := 7) (v := v12) hx hb dX2_giveRound_61 hl rfl ev12 (by decide) rfl (fun ls hl => ?_)
          replace hl : lv_has ls 9 [(6, .int v12), (4, .int v11), (7, .int v10), (0, .ref (B + a0)), (1, .ref (B + ap1)), (2, .int vp2), (3, .int vp3), (5, .int v7)] := hl
          refine lv_goto (pc := 64) (tgt := 9) hx hb dX2_giveRound_64 (by decide) ?_
          exact ih _ _ _ _ _ _ P (lv_sub hl [3, 4, 5, 6, 1, 7, 0] rfl) (hI1 _ (Option.some.inj hF).symm)
        · rw [if_neg hc] at hF
          refine lv_iload (pc := 38) hx hb dX2_giveRound_38 (lv_at hl 6 rfl) ?_
          refine lv_iconst (pc := 40) (v := (-1)) hx hb dX2_giveRound_40 (by decide) ?_
          obtain ⟨k13, ek13, hF⟩ := bl_o hF
          have hJ13 : ∀ (v16 : Int32) (H : Heap) (locs : List Loc) (ls : Array Slot), Pic G B h s H locs → lv_has ls 9 [(0, .ref (B + a0)), (1, .ref (B + ap1)), (2, .int vp2), (3, .int vp3), (4, .int v11), (6, .int v16)] → k13 v16 = some z1 → W p l e (rmM 1 39 0 0) s m args below meth c H locs 0 0 Q (F0 m 57 ls []) := by
            intro v16 H locs ls P hl hF
            rw [← ek13] at hF
            try dsimp only at hF
            refine lv_iload (pc := 57) hx hb dX2_giveRound_57 (lv_at hl 5 rfl) ?_
            refine lv_istore (pc := 59) hx hb dX2_giveRound_59 hl (by decide) rfl (fun ls hl => ?_)
            replace hl : lv_has ls 9 [(5, .int v16), (0, .ref (B + a0)), (1, .ref (B + ap1)), (2, .int vp2), (3, .int vp3), (4, .int v11), (6, .int v16)] := hl
            obtain ⟨v17, ev17, hF⟩ := bl_o hF
            refine lv_iinc (pc := 61) (k := 6) (v := v17) hx hb dX2_giveRound_61 hl rfl ev17 (by decide) rfl (fun ls hl => ?_)
            replace hl : lv_has ls 9 [(6, .int v17), (5, .int v16), (0, .ref (B + a0)), (1, .ref (B + ap1)), (2, .int vp2), (3, .int vp3), (4, .int v11)] := hl
            refine lv_goto (pc := 64) (tgt := 9) hx hb dX2_giveRound_64 (by decide) ?_
            exact ih _ _ _ _ _ _ P (lv_sub hl [2, 3, 4, 5, 6, 1, 0] rfl) (hI1 _ (Option.some.inj hF).symm)
          refine lv_icmp_eq (pc := 41) (tgt := 57) hx hb dX2_giveRound_41 (by decide) (fun hc => ?_) (fun hc => ?_)
          · rw [if_pos hc] at hF
            exact hJ13 _ _ _ _ P (lv_sub hl [2, 3, 4, 5, 0, 7] rfl) hF
          · rw [if_neg hc] at hF
            refine lv_iload (pc := 44) hx hb dX2_giveRound_44 (lv_at hl 1 rfl) ?_
            refine lv_aload_n (pc := 46) hx hb dX2_giveRound_46 rfl (lv_at hl 2 rfl) ?_
            refine lv_aload_n (pc := 47) hx hb dX2_giveRound_47 rfl (lv_at hl 3 rfl) ?_
            refine lv_iload_n (pc := 48) hx hb dX2_giveRound_48 rfl (lv_at hl 4 rfl) ?_
            refine lv_iload (pc := 49) hx hb dX2_giveRound_49 (lv_at hl 6 rfl) ?_
            refine r_cVp (pc := 51) (As := [.ref (B + ap1), .int vp2, .int v7]) (rest := [.int v10]) CX P hl.1 hF kv_X2_97 (fun r q => c_X2_askingWeight l G B _ _ _ _ _ _ q) rfl rfl ⟨Nat.le_of_ble_eq_true rfl, Nat.le_of_ble_eq_true rfl⟩ (Nat.le_of_ble_eq_true rfl) ⟨Nat.le_of_ble_eq_true rfl, Nat.le_of_ble_eq_true rfl⟩ dX2_giveRound_51 (fun v14 H locs P hF => ?_)
            refine lv_icmp_le (pc := 54) (tgt := 61) hx hb dX2_giveRound_54 (by decide) (fun hc => ?_) (fun hc => ?_)
            · rw [if_pos hc] at hF
              obtain ⟨v15, ev15, hF⟩ := bl_o hF
              refine lv_iinc (pc := 61) (k := 7) (v := v15) hx hb dX2_giveRound_61 hl rfl ev15 (by decide) rfl (fun ls hl => ?_)
              replace hl : lv_has ls 9 [(6, .int v15), (4, .int v11), (7, .int v10), (0, .ref (B + a0)), (1, .ref (B + ap1)), (2, .int vp2), (3, .int vp3), (5, .int v7)] := hl
              refine lv_goto (pc := 64) (tgt := 9) hx hb dX2_giveRound_64 (by decide) ?_
              exact ih _ _ _ _ _ _ P (lv_sub hl [3, 4, 5, 6, 1, 7, 0] rfl) (hI1 _ (Option.some.inj hF).symm)
            · rw [if_neg hc] at hF
              exact hJ13 _ _ _ _ P (lv_sub hl [2, 3, 4, 5, 0, 7] rfl) hF
  exact hL1 _ _ _ _ _ _ _ P (lv_sub hl [3, 4, 5, 6, 2, 1, 0] rfl) hLp1
def F_X2_plan_L66 (a22 : Nat) (a23 : Nat) (v24 : Int32) (v25 : Int32) (v26 : Int32) (v27 : Int32) (h28 : Hp) : Option ((Int32 × Int32 × Hp) ⊕ (Hp)) :=
if v26 ≤ 0 then (
some (.inr h28)) else (
if 99 < v27 then (
some (.inr h28)) else (
(cO h28 a22 2 (F_X2_giveRound h28 a22 a23 v25 v26)).bind (un fun v29 h30 =>
bl (v26 - v29) fun v31 =>
bl (v27 + 1) fun v32 =>
some (.inl (v31, v32, h30)))))
def F_X2_plan_L34 (a10 : Nat) (a11 : Nat) (v12 : Int32) (h13 : Hp) : Option ((Int32 × Hp) ⊕ (Hp)) :=
(gR h13 a11 8 0).bind fun a14 =>
(gI h13 a14 6 2).bind fun v15 =>
if v15 ≤ v12 then (
some (.inr h13)) else (
(gR h13 a11 8 0).bind fun a16 =>
(gR h13 a16 6 1).bind fun a17 =>
(aI h13 a17 v12).bind fun v18 =>
(gR h13 a10 2 0).bind fun a19 =>
(aI h13 a19 v18).bind fun v20 =>
(loopF (fun x => F_X2_plan_L66 a10 a11 v12 v18 x.1 x.2.1 x.2.2) 6000 (v20, 0, h13)).bind fun h33 =>
bl (v12 + 1) fun v34 =>
some (.inl (v34, h33)))
def F_X2_plan (h : Hp) (a0 : Nat) (ap1 : Nat) : Option (Hp) :=
(cO h a0 2 (F_X2_collectAsks h a0 ap1)).bind fun h1 =>
(gR h1 a0 2 0).bind fun a2 =>
(F_J7_fill_53178 h1 a2 0).bind fun h3 =>
(gR h3 a0 2 0).bind fun a4 =>
(gI h3 ap1 8 6).bind fun v5 =>
(gR h3 a0 2 1).bind fun a6 =>
(aI h3 a6 0).bind fun v7 =>
(sI h3 a4 0 (mnI v5 v7)).bind fun h8 =>
(loopF (fun x => F_X2_plan_L34 a0 ap1 x.1 x.2) 6000 (0, h8)).bind fun h35 =>
some h35
set_option maxRecDepth 100000 in
set_option maxHeartbeats 4000000 in
theorem c_X2_plan (l : Launch) (G : GG) (B : Nat) (h : Hp) (a0 : Nat) (ap1 : Nat) (hr : Hp) (hF : F_X2_plan h a0 ap1 = some hr) : CV l yX2_plan cX2_plan 6 3 85 0 0 G B h [.ref (B + a0), .ref (B + ap1)] hr := by
  refine ent_v rfl (Nat.le_of_ble_eq_true rfl) ?_
  intro p e s m args below meth c ls Q CX hnm hret P hl
  have CX : Cxt p m c cX2_plan 6 s args RX2 G B := CX
  obtain ⟨⟨hx, hb, hml, hown, hts⟩, -, -⟩ := id CX
  replace hl : lv_has ls 6 [(0, .ref (B + a0)), (1, .ref (B + ap1))] := hl
  generalize s.heap = H at P ⊢
  generalize ([] : List Loc) = locs at P ⊢
  unfold F_X2_plan at hF
  refine lv_aload_n (pc := 0) hx hb dX2_plan_0 rfl (lv_at hl 0 rfl) ?_
  refine lv_aload_n (pc := 1) hx hb dX2_plan_1 rfl (lv_at hl 1 rfl) ?_
  refine r_cVv (pc := 2) (As := [.ref (B + ap1)]) (rest := []) CX P hl.1 hF kv_X2_18 (fun h1 q => c_X2_collectAsks l G B _ _ _ _ q) rfl rfl ⟨Nat.le_of_ble_eq_true rfl, Nat.le_of_ble_eq_true rfl⟩ (Nat.le_of_ble_eq_true rfl) ⟨Nat.le_of_ble_eq_true rfl, Nat.le_of_ble_eq_true rfl⟩ dX2_plan_2 (fun h1 H locs P hF => ?_)
  refine lv_aload_n (pc := 5) hx hb dX2_plan_5 rfl (lv_at hl 0 rfl) ?_
  refine r_gR (pc := 6) CX P hF fl_X2_11 dX2_plan_6 (fun a2 hF => ?_)
  refine lv_iconst (pc := 9) (v := 0) hx hb dX2_plan_9 (by decide) ?_
  refine r_cSv (pc := 10) (As := [.ref (B + a2), .int 0]) (rest := []) CX P hl.1 hF ks_X2_22 (fun h1 q => c_J7_fill_53178 l G B _ _ _ _ q) rfl rfl ⟨Nat.le_of_ble_eq_true rfl, Nat.le_of_ble_eq_true rfl⟩ (Nat.le_of_ble_eq_true rfl) ⟨Nat.le_of_ble_eq_true rfl, Nat.le_of_ble_eq_true rfl⟩ dX2_plan_10 (fun h3 H locs P hF => ?_)
  refine lv_aload_n (pc := 13) hx hb dX2_plan_13 rfl (lv_at hl 0 rfl) ?_
  refine r_gR (pc := 14) CX P hF fl_X2_11 dX2_plan_14 (fun a4 hF => ?_)
  refine lv_iconst (pc := 17) (v := 0) hx hb dX2_plan_17 (by decide) ?_
  refine lv_aload_n (pc := 18) hx hb dX2_plan_18 rfl (lv_at hl 1 rfl) ?_
  refine r_gI (pc := 19) CX P hF fl_X2_28 dX2_plan_19 (fun v5 hF => ?_)
  refine lv_aload_n (pc := 22) hx hb dX2_plan_22 rfl (lv_at hl 0 rfl) ?_
  refine r_gR (pc := 23) CX P hF fl_X2_15 dX2_plan_23 (fun a6 hF => ?_)
  refine lv_iconst (pc := 26) (v := 0) hx hb dX2_plan_26 (by decide) ?_
  refine r_aI (pc := 27) CX P hF dX2_plan_27 (fun v7 hF => ?_)
  refine r_mn (pc := 28) CX hl.1 tw_711 tw_468 tw_14 tw_469 (Nat.le_of_ble_eq_true rfl) (Nat.le_of_ble_eq_true rfl) (Nat.le_of_ble_eq_true rfl) (Nat.le_of_ble_eq_true rfl) dX2_plan_28 ?_
  refine r_sI (pc := 31) CX P hF dX2_plan_31 (fun h8 H locs P hF => ?_)
  refine lv_iconst (pc := 32) (v := 0) hx hb dX2_plan_32 (by decide) ?_
  refine lv_istore_n (pc := 33) hx hb dX2_plan_33 rfl hl (by decide) rfl (fun ls hl => ?_)
  replace hl : lv_has ls 6 [(2, .int 0), (0, .ref (B + a0)), (1, .ref (B + ap1))] := hl
  obtain ⟨r9, hLp9, hK9⟩ := bd_some hF
  have hX9 : ∀ (h35 : Hp) (H : Heap) (locs : List Loc) (ls : Array Slot), Pic G B h35 s H locs → lv_has ls 6 [] → h35 = r9 → W p l e (rmM 3 85 0 0) s m args below meth c H locs 0 0 Q (F0 m 103 ls []) := by
    intro h35 H locs ls P hl er
    subst er
    have hF := hK9
    cases hF
    exact hret _ _ _ _ P dX2_plan_103
  have hL9 : ∀ (n : Nat) (v12 : Int32) (h13 : Hp) (H : Heap) (locs : List Loc) (ls : Array Slot), Pic G B h13 s H locs → lv_has ls 6 [(0, .ref (B + a0)), (1, .ref (B + ap1)), (2, .int v12)] → loopF (fun x => F_X2_plan_L34 a0 ap1 x.1 x.2) n (v12, h13) = some r9 → W p l e (rmM 3 85 0 0) s m args below meth c H locs 0 0 Q (F0 m 34 ls []) := by
    intro n
    induction n with
    | zero => intro v12 h13 H locs ls P hl hq; cases hq
    | succ n ih =>
      intro v12 h13 H locs ls P hl hq
      obtain ⟨z9, hS9, hI9, hR9⟩ := loop_some hq
      have hF : F_X2_plan_L34 a0 ap1 v12 h13 = some z9 := hS9
      unfold F_X2_plan_L34 at hF
      refine lv_iload_n (pc := 34) hx hb dX2_plan_34 rfl (lv_at hl 2 rfl) ?_
      refine lv_aload_n (pc := 35) hx hb dX2_plan_35 rfl (lv_at hl 1 rfl) ?_
      refine r_gR (pc := 36) CX P hF fl_X2_40 dX2_plan_36 (fun a14 hF => ?_)
      refine r_gI (pc := 39) CX P hF fl_X2_44 dX2_plan_39 (fun v15 hF => ?_)
      refine lv_icmp_ge (pc := 42) (tgt := 103) hx hb dX2_plan_42 (by decide) (fun hc => ?_) (fun hc => ?_)
      · rw [if_pos hc] at hF
        exact hX9 _ _ _ _ P (lv_sub hl [] rfl) (hR9 _ (Option.some.inj hF).symm)
      · rw [if_neg hc] at hF
        refine lv_aload_n (pc := 45) hx hb dX2_plan_45 rfl (lv_at hl 1 rfl) ?_
        refine r_gR (pc := 46) CX P hF fl_X2_40 dX2_plan_46 (fun a16 hF => ?_)
        refine r_gR (pc := 49) CX P hF fl_X2_49 dX2_plan_49 (fun a17 hF => ?_)
        refine lv_iload_n (pc := 52) hx hb dX2_plan_52 rfl (lv_at hl 2 rfl) ?_
        refine r_aI (pc := 53) CX P hF dX2_plan_53 (fun v18 hF => ?_)
        refine lv_istore_n (pc := 54) hx hb dX2_plan_54 rfl hl (by decide) rfl (fun ls hl => ?_)
        replace hl : lv_has ls 6 [(3, .int v18), (0, .ref (B + a0)), (1, .ref (B + ap1)), (2, .int v12)] := hl
        refine lv_aload_n (pc := 55) hx hb dX2_plan_55 rfl (lv_at hl 1 rfl) ?_
        refine r_gR (pc := 56) CX P hF fl_X2_11 dX2_plan_56 (fun a19 hF => ?_)
        refine lv_iload_n (pc := 59) hx hb dX2_plan_59 rfl (lv_at hl 0 rfl) ?_
        refine r_aI (pc := 60) CX P hF dX2_plan_60 (fun v20 hF => ?_)
        refine lv_istore (pc := 61) hx hb dX2_plan_61 hl (by decide) rfl (fun ls hl => ?_)
        replace hl : lv_has ls 6 [(4, .int v20), (3, .int v18), (0, .ref (B + a0)), (1, .ref (B + ap1)), (2, .int v12)] := hl
        refine lv_iconst (pc := 63) (v := 0) hx hb dX2_plan_63 (by decide) ?_
        refine lv_istore (pc := 64) hx hb dX2_plan_64 hl (by decide) rfl (fun ls hl => ?_)
        replace hl : lv_has ls 6 [(5, .int 0), (4, .int v20), (3, .int v18), (0, .ref (B + a0)), (1, .ref (B + ap1)), (2, .int v12)] := hl
        obtain ⟨r21, hLp21, hK21⟩ := bd_some hF
        have hX21 : ∀ (h33 : Hp) (H : Heap) (locs : List Loc) (ls : Array Slot), Pic G B h33 s H locs → lv_has ls 6 [(0, .ref (B + a0)), (1, .ref (B + ap1)), (2, .int v12)] → h33 = r21 → W p l e (rmM 3 85 0 0) s m args below meth c H locs 0 0 Q (F0 m 97 ls []) := by
          intro h33 H locs ls P hl er
          subst er
          have hF := hK21
          obtain ⟨v34, ev34, hF⟩ := bl_o hF
          refine lv_iinc (pc := 97) (k := 2) (v := v34) hx hb dX2_plan_97 hl rfl ev34 (by decide) rfl (fun ls hl => ?_)
          replace hl : lv_has ls 6 [(2, .int v34), (0, .ref (B + a0)), (1, .ref (B + ap1))] := hl
          refine lv_goto (pc := 100) (tgt := 34) hx hb dX2_plan_100 (by decide) ?_
          exact ih _ _ _ _ _ P (lv_sub hl [1, 2, 0] rfl) (hI9 _ (Option.some.inj hF).symm)
        have hL21 : ∀ (n : Nat) (v26 : Int32) (v27 : Int32) (h28 : Hp) (H : Heap) (locs : List Loc) (ls : Array Slot), Pic G B h28 s H locs → lv_has ls 6 [(0, .ref (B + a0)), (1, .ref (B + ap1)), (2, .int v12), (3, .int v18), (4, .int v26), (5, .int v27)] → loopF (fun x => F_X2_plan_L66 a0 ap1 v12 v18 x.1 x.2.1 x.2.2) n (v26, v27, h28) = some r21 → W p l e (rmM 3 85 0 0) s m args below meth c H locs 0 0 Q (F0 m 66 ls []) := by
          intro n
          induction n with
          | zero => intro v26 v27 h28 H locs ls P hl hq; cases hq
          | succ n ih =>
            intro v26 v27 h28 H locs ls P hl hq
            obtain ⟨z21, hS21, hI21, hR21⟩ := loop_some hq
            have hF : F_X2_plan_L66 a0 ap1 v12 v18 v26 v27 h28 = some z21 := hS21
            unfold F_X2_plan_L66 at hF
            refine lv_iload (pc := 66) hx hb dX2_plan_66 (lv_at hl 4 rfl) ?_
            refine lv_if_le (pc := 68) (tgt := 97) hx hb dX2_plan_68 (by decide) (fun hc => ?_) (fun hc => ?_)
            · rw [if_pos hc] at hF
              exact hX21 _ _ _ _ P (lv_sub hl [0, 1, 2] rfl) (hR21 _ (Option.some.inj hF).symm)
            · rw [if_neg hc] at hF
              refine lv_iload (pc := 71) hx hb dX2_plan_71 (lv_at hl 5 rfl) ?_
              refine lv_bipush (pc := 73) (v := 99) hx hb dX2_plan_73 (by decide) ?_
              refine lv_icmp_gt (pc := 75) (tgt := 97) hx hb dX2_plan_75 (by decide) (fun hc => ?_) (fun hc => ?_)
              · rw [if_pos hc] at hF
                exact hX21 _ _ _ _ P (lv_sub hl [0, 1, 2] rfl) (hR21 _ (Option.some.inj hF).symm)
              · rw [if_neg hc] at hF
                refine lv_iload (pc := 78) hx hb dX2_plan_78 (lv_at hl 4 rfl) ?_
                refine lv_aload_n (pc := 80) hx hb dX2_plan_80 rfl (lv_at hl 0 rfl) ?_
                refine lv_aload_n (pc := 81) hx hb dX2_plan_81 rfl (lv_at hl 1 rfl) ?_
                refine lv_iload_n (pc := 82) hx hb dX2_plan_82 rfl (lv_at hl 3 rfl) ?_
                refine lv_iload (pc := 83) hx hb dX2_plan_83 (lv_at hl 4 rfl) ?_
                refine r_cVi (pc := 85) (As := [.ref (B + ap1), .int v18, .int v26]) (rest := [.int v26]) CX P hl.1 hF kv_X2_52 (fun r h1 q => c_X2_giveRound l G B _ _ _ _ _ _ _ q) rfl rfl ⟨Nat.le_of_ble_eq_true rfl, Nat.le_of_ble_eq_true rfl⟩ (Nat.le_of_ble_eq_true rfl) ⟨Nat.le_of_ble_eq_true rfl, Nat.le_of_ble_eq_true rfl⟩ dX2_plan_85 (fun v29 h30 H locs P hF => ?_)
                replace hF := un_i hF
                refine lv_isub (pc := 88) hx hb dX2_plan_88 ?_
                refine lv_topi (fun v31 ev31 => ?_)
                replace hF := bl_e hF ev31
                refine lv_istore (pc := 89) hx hb dX2_plan_89 hl (by decide) rfl (fun ls hl => ?_)
                replace hl : lv_has ls 6 [(4, .int v31), (0, .ref (B + a0)), (1, .ref (B + ap1)), (2, .int v12), (3, .int v18), (5, .int v27)] := hl
                obtain ⟨v32, ev32, hF⟩ := bl_o hF
                refine lv_iinc (pc := 91) (k := 5) (v := v32) hx hb dX2_plan_91 hl rfl ev32 (by decide) rfl (fun ls hl => ?_)
                replace hl : lv_has ls 6 [(5, .int v32), (4, .int v31), (0, .ref (B + a0)), (1, .ref (B + ap1)), (2, .int v12), (3, .int v18)] := hl
                refine lv_goto (pc := 94) (tgt := 66) hx hb dX2_plan_94 (by decide) ?_
                exact ih _ _ _ _ _ _ P (lv_sub hl [2, 3, 4, 5, 1, 0] rfl) (hI21 _ (Option.some.inj hF).symm)
        exact hL21 _ _ _ _ _ _ _ P (lv_sub hl [3, 4, 5, 2, 1, 0] rfl) hLp21
  exact hL9 _ _ _ _ _ _ P (lv_sub hl [1, 2, 0] rfl) hLp9
