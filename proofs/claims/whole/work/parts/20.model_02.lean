def F_X10_laysTotals_L2 (a2 : Nat) (v3 : Int32) (h4 : Hp) : Option ((Int32 × Hp) ⊕ (Hp)) :=
if 12 ≤ v3 then (
some (.inr h4)) else (
(gR h4 a2 10 10).bind fun a5 =>
(sI h4 a5 v3 0).bind fun h6 =>
(gR h6 a2 10 11).bind fun a7 =>
(sI h6 a7 v3 0).bind fun h8 =>
(gR h8 a2 10 12).bind fun a9 =>
(sI h8 a9 v3 0).bind fun h10 =>
(gR h10 a2 10 13).bind fun a11 =>
(sI h10 a11 v3 0).bind fun h12 =>
bl (v3 + 1) fun v13 =>
some (.inl (v13, h12)))
def F_X10_laysTotals_L44 (a16 : Nat) (v17 : Int32) (h18 : Hp) : Option ((Int32 × Hp) ⊕ (Hp)) :=
if 12 ≤ v17 then (
some (.inr h18)) else (
(cO h18 a16 10 (F_X10_isGroup h18 a16 v17)).bind fun v19 =>
if v19 = 0 then (
bl (v17 + 1) fun v20 =>
some (.inl (v20, h18))) else (
(gR h18 a16 10 10).bind fun a21 =>
(cO h18 a16 10 (F_X10_of h18 a16 v17 10 0)).bind (un fun v22 h23 =>
(cO h23 a16 10 (F_X10_adds h23 a16 a21 v17 v22)).bind fun h24 =>
bl (v17 + 1) fun v25 =>
some (.inl (v25, h24)))))
def F_X10_laysTotals_L83 (a28 : Nat) (v29 : Int32) (h30 : Hp) : Option ((Int32 × Hp) ⊕ (Hp)) :=
if 16 ≤ v29 then (
some (.inr h30)) else (
(cO h30 a28 10 (F_X10_isProcess h30 a28 v29)).bind fun v31 =>
if v31 = 0 then (
bl (v29 + 1) fun v59 =>
some (.inl (v59, h30))) else (
(gR h30 a28 10 10).bind fun a32 =>
(cO h30 a28 10 (F_X10_groupOf h30 a28 v29)).bind (un fun v33 h34 =>
(cO h34 a28 10 (F_X10_pagesOf h34 a28 v29)).bind (un fun v35 h36 =>
(cO h36 a28 10 (F_X10_adds h36 a28 a32 v33 v35)).bind fun h37 =>
(gR h37 a28 10 13).bind fun a38 =>
(cO h37 a28 10 (F_X10_groupOf h37 a28 v29)).bind (un fun v39 h40 =>
(cO h40 a28 10 (F_X10_ofProcess h40 a28 v29 5 0)).bind (un fun v41 h42 =>
(cO h42 a28 10 (F_X10_adds h42 a28 a38 v39 v41)).bind fun h43 =>
(gR h43 a28 10 11).bind fun a44 =>
(cO h43 a28 10 (F_X10_groupOf h43 a28 v29)).bind (un fun v45 h46 =>
(aI h46 a44 v45).bind fun v47 =>
(cO h46 a28 10 (F_X10_ofProcess h46 a28 v29 2 0)).bind (un fun v48 h49 =>
(sI h49 a44 v45 (v47 + v48)).bind fun h50 =>
(gR h50 a28 10 12).bind fun a51 =>
(cO h50 a28 10 (F_X10_groupOf h50 a28 v29)).bind (un fun v52 h53 =>
(aI h53 a51 v52).bind fun v54 =>
(cO h53 a28 10 (F_X10_ofProcess h53 a28 v29 3 0)).bind (un fun v55 h56 =>
(sI h56 a51 v52 (v54 + v55)).bind fun h57 =>
bl (v29 + 1) fun v58 =>
some (.inl (v58, h57))))))))))))
def F_X10_laysTotals (h : Hp) (a0 : Nat) : Option (Hp) :=
(loopF (fun x => F_X10_laysTotals_L2 a0 x.1 x.2) 6000 (0, h)).bind fun h14 =>
(loopF (fun x => F_X10_laysTotals_L44 a0 x.1 x.2) 6000 (0, h14)).bind fun h26 =>
(loopF (fun x => F_X10_laysTotals_L83 a0 x.1 x.2) 6000 (0, h26)).bind fun h60 =>
some h60
set_option maxRecDepth 100000 in
set_option maxHeartbeats 4000000 in
theorem c_X10_laysTotals (l : Launch) (G : GG) (B : Nat) (h : Hp) (a0 : Nat) (hr : Hp) (hF : F_X10_laysTotals h a0 = some hr) : CV l yX10_laysTotals cX10_laysTotals 2 3 68 0 0 G B h [.ref (B + a0)] hr := by
  refine ent_v rfl (Nat.le_of_ble_eq_true rfl) ?_
  intro p e s m args below meth c ls Q CX hnm hret P hl
  have CX : Cxt p m c cX10_laysTotals 2 s args RX10 G B := CX
  obtain ⟨⟨hx, hb, hml, hown, hts⟩, -, -⟩ := id CX
  replace hl : lv_has ls 2 [(0, .ref (B + a0))] := hl
  generalize s.heap = H at P ⊢
  generalize ([] : List Loc) = locs at P ⊢
  unfold F_X10_laysTotals at hF
  refine lv_iconst (pc := 0) (v := 0) hx hb dX10_laysTotals_0 (by decide) ?_
  refine lv_istore_n (pc := 1) hx hb dX10_laysTotals_1 rfl hl (by decide) rfl (fun ls hl => ?_)
  replace hl : lv_has ls 2 [(1, .int 0), (0, .ref (B + a0))] := hl
  obtain ⟨r1, hLp1, hK1⟩ := bd_some hF
  have hX1 : ∀ (h14 : Hp) (H : Heap) (locs : List Loc) (ls : Array Slot), Pic G B h14 s H locs → lv_has ls 2 [(0, .ref (B + a0))] → h14 = r1 → W p l e (rmM 3 68 0 0) s m args below meth c H locs 0 0 Q (F0 m 42 ls []) := by
    intro h14 H locs ls P hl er
    subst er
    have hF := hK1
    refine lv_iconst (pc := 42) (v := 0) hx hb dX10_laysTotals_42 (by decide) ?_
    refine lv_istore_n (pc := 43) hx hb dX10_laysTotals_43 rfl hl (by decide) rfl (fun ls hl => ?_)
    replace hl : lv_has ls 2 [(1, .int 0), (0, .ref (B + a0))] := hl
    obtain ⟨r15, hLp15, hK15⟩ := bd_some hF
    have hX15 : ∀ (h26 : Hp) (H : Heap) (locs : List Loc) (ls : Array Slot), Pic G B h26 s H locs → lv_has ls 2 [(0, .ref (B + a0))] → h26 = r15 → W p l e (rmM 3 68 0 0) s m args below meth c H locs 0 0 Q (F0 m 81 ls []) := by
      intro h26 H locs ls P hl er
      subst er
      have hF := hK15
      refine lv_iconst (pc := 81) (v := 0) hx hb dX10_laysTotals_81 (by decide) ?_
      refine lv_istore_n (pc := 82) hx hb dX10_laysTotals_82 rfl hl (by decide) rfl (fun ls hl => ?_)
      replace hl : lv_has ls 2 [(1, .int 0), (0, .ref (B + a0))] := hl
      obtain ⟨r27, hLp27, hK27⟩ := bd_some hF
      have hX27 : ∀ (h60 : Hp) (H : Heap) (locs : List Loc) (ls : Array Slot), Pic G B h60 s H locs → lv_has ls 2 [] → h60 = r27 → W p l e (rmM 3 68 0 0) s m args below meth c H locs 0 0 Q (F0 m 184 ls []) := by
        intro h60 H locs ls P hl er
        subst er
        have hF := hK27
        cases hF
        exact hret _ _ _ _ P dX10_laysTotals_184
      have hL27 : ∀ (n : Nat) (v29 : Int32) (h30 : Hp) (H : Heap) (locs : List Loc) (ls : Array Slot), Pic G B h30 s H locs → lv_has ls 2 [(0, .ref (B + a0)), (1, .int v29)] → loopF (fun x => F_X10_laysTotals_L83 a0 x.1 x.2) n (v29, h30) = some r27 → W p l e (rmM 3 68 0 0) s m args below meth c H locs 0 0 Q (F0 m 83 ls []) := by
        intro n
        induction n with
        | zero => intro v29 h30 H locs ls P hl hq; cases hq
        | succ n ih =>
          intro v29 h30 H locs ls P hl hq
          obtain ⟨z27, hS27, hI27, hR27⟩ := loop_some hq
          have hF : F_X10_laysTotals_L83 a0 v29 h30 = some z27 := hS27
          unfold F_X10_laysTotals_L83 at hF
          refine lv_iload_n (pc := 83) hx hb dX10_laysTotals_83 rfl (lv_at hl 1 rfl) ?_
          refine lv_bipush (pc := 84) (v := 16) hx hb dX10_laysTotals_84 (by decide) ?_
          refine lv_icmp_ge (pc := 86) (tgt := 184) hx hb dX10_laysTotals_86 (by decide) (fun hc => ?_) (fun hc => ?_)
          · rw [if_pos hc] at hF
            exact hX27 _ _ _ _ P (lv_sub hl [] rfl) (hR27 _ (Option.some.inj hF).symm)
          · rw [if_neg hc] at hF
            refine lv_aload_n (pc := 89) hx hb dX10_laysTotals_89 rfl (lv_at hl 0 rfl) ?_
            refine lv_iload_n (pc := 90) hx hb dX10_laysTotals_90 rfl (lv_at hl 1 rfl) ?_
            refine r_cVp (pc := 91) (As := [.int v29]) (rest := []) CX P hl.1 hF kv_X10_117 (fun r q => c_X10_isProcess l G B _ _ _ _ q) rfl rfl ⟨Nat.le_of_ble_eq_true rfl, Nat.le_of_ble_eq_true rfl⟩ (Nat.le_of_ble_eq_true rfl) ⟨Nat.le_of_ble_eq_true rfl, Nat.le_of_ble_eq_true rfl⟩ dX10_laysTotals_91 (fun v31 H locs P hF => ?_)
            refine lv_if_ne (pc := 94) (tgt := 100) hx hb dX10_laysTotals_94 (by decide) (fun hc => ?_) (fun hc => ?_)
            · rw [if_neg hc] at hF
              refine lv_aload_n (pc := 100) hx hb dX10_laysTotals_100 rfl (lv_at hl 0 rfl) ?_
              refine lv_aload_n (pc := 101) hx hb dX10_laysTotals_101 rfl (lv_at hl 0 rfl) ?_
              refine r_gR (pc := 102) CX P hF fl_X10_39 dX10_laysTotals_102 (fun a32 hF => ?_)
              refine lv_aload_n (pc := 105) hx hb dX10_laysTotals_105 rfl (lv_at hl 0 rfl) ?_
              refine lv_iload_n (pc := 106) hx hb dX10_laysTotals_106 rfl (lv_at hl 1 rfl) ?_
              refine r_cVi (pc := 107) (As := [.int v29]) (rest := [.ref (B + a32), .ref (B + a0)]) CX P hl.1 hF kv_X10_120 (fun r h1 q => c_X10_groupOf l G B _ _ _ _ _ q) rfl rfl ⟨Nat.le_of_ble_eq_true rfl, Nat.le_of_ble_eq_true rfl⟩ (Nat.le_of_ble_eq_true rfl) ⟨Nat.le_of_ble_eq_true rfl, Nat.le_of_ble_eq_true rfl⟩ dX10_laysTotals_107 (fun v33 h34 H locs P hF => ?_)
              replace hF := un_i hF
              refine lv_aload_n (pc := 110) hx hb dX10_laysTotals_110 rfl (lv_at hl 0 rfl) ?_
              refine lv_iload_n (pc := 111) hx hb dX10_laysTotals_111 rfl (lv_at hl 1 rfl) ?_
              refine r_cVi (pc := 112) (As := [.int v29]) (rest := [.int v33, .ref (B + a32), .ref (B + a0)]) CX P hl.1 hF kv_X10_134 (fun r h1 q => c_X10_pagesOf l G B _ _ _ _ _ q) rfl rfl ⟨Nat.le_of_ble_eq_true rfl, Nat.le_of_ble_eq_true rfl⟩ (Nat.le_of_ble_eq_true rfl) ⟨Nat.le_of_ble_eq_true rfl, Nat.le_of_ble_eq_true rfl⟩ dX10_laysTotals_112 (fun v35 h36 H locs P hF => ?_)
              replace hF := un_i hF
              refine r_cVv (pc := 115) (As := [.ref (B + a32), .int v33, .int v35]) (rest := []) CX P hl.1 hF kv_X10_130 (fun h1 q => c_X10_adds l G B _ _ _ _ _ _ q) rfl rfl ⟨Nat.le_of_ble_eq_true rfl, Nat.le_of_ble_eq_true rfl⟩ (Nat.le_of_ble_eq_true rfl) ⟨Nat.le_of_ble_eq_true rfl, Nat.le_of_ble_eq_true rfl⟩ dX10_laysTotals_115 (fun h37 H locs P hF => ?_)
              refine lv_aload_n (pc := 118) hx hb dX10_laysTotals_118 rfl (lv_at hl 0 rfl) ?_
              refine lv_aload_n (pc := 119) hx hb dX10_laysTotals_119 rfl (lv_at hl 0 rfl) ?_
              refine r_gR (pc := 120) CX P hF fl_X10_48 dX10_laysTotals_120 (fun a38 hF => ?_)
              refine lv_aload_n (pc := 123) hx hb dX10_laysTotals_123 rfl (lv_at hl 0 rfl) ?_
              refine lv_iload_n (pc := 124) hx hb dX10_laysTotals_124 rfl (lv_at hl 1 rfl) ?_
              refine r_cVi (pc := 125) (As := [.int v29]) (rest := [.ref (B + a38), .ref (B + a0)]) CX P hl.1 hF kv_X10_120 (fun r h1 q => c_X10_groupOf l G B _ _ _ _ _ q) rfl rfl ⟨Nat.le_of_ble_eq_true rfl, Nat.le_of_ble_eq_true rfl⟩ (Nat.le_of_ble_eq_true rfl) ⟨Nat.le_of_ble_eq_true rfl, Nat.le_of_ble_eq_true rfl⟩ dX10_laysTotals_125 (fun v39 h40 H locs P hF => ?_)
              replace hF := un_i hF
              refine lv_aload_n (pc := 128) hx hb dX10_laysTotals_128 rfl (lv_at hl 0 rfl) ?_
              refine lv_iload_n (pc := 129) hx hb dX10_laysTotals_129 rfl (lv_at hl 1 rfl) ?_
              refine lv_iconst (pc := 130) (v := 5) hx hb dX10_laysTotals_130 (by decide) ?_
              refine lv_iconst (pc := 131) (v := 0) hx hb dX10_laysTotals_131 (by decide) ?_
              refine r_cVi (pc := 132) (As := [.int v29, .int 5, .int 0]) (rest := [.int v39, .ref (B + a38), .ref (B + a0)]) CX P hl.1 hF kv_X10_114 (fun r h1 q => c_X10_ofProcess l G B _ _ _ _ _ _ _ q) rfl rfl ⟨Nat.le_of_ble_eq_true rfl, Nat.le_of_ble_eq_true rfl⟩ (Nat.le_of_ble_eq_true rfl) ⟨Nat.le_of_ble_eq_true rfl, Nat.le_of_ble_eq_true rfl⟩ dX10_laysTotals_132 (fun v41 h42 H locs P hF => ?_)
              replace hF := un_i hF
              refine r_cVv (pc := 135) (As := [.ref (B + a38), .int v39, .int v41]) (rest := []) CX P hl.1 hF kv_X10_130 (fun h1 q => c_X10_adds l G B _ _ _ _ _ _ q) rfl rfl ⟨Nat.le_of_ble_eq_true rfl, Nat.le_of_ble_eq_true rfl⟩ (Nat.le_of_ble_eq_true rfl) ⟨Nat.le_of_ble_eq_true rfl, Nat.le_of_ble_eq_true rfl⟩ dX10_laysTotals_135 (fun h43 H locs P hF => ?_)
              refine lv_aload_n (pc := 138) hx hb dX10_laysTotals_138 rfl (lv_at hl 0 rfl) ?_
              refine r_gR (pc := 139) CX P hF fl_X10_42 dX10_laysTotals_139 (fun a44 hF => ?_)
              refine lv_aload_n (pc := 142) hx hb dX10_laysTotals_142 rfl (lv_at hl 0 rfl) ?_
              refine lv_iload_n (pc := 143) hx hb dX10_laysTotals_143 rfl (lv_at hl 1 rfl) ?_
              refine r_cVi (pc := 144) (As := [.int v29]) (rest := [.ref (B + a44)]) CX P hl.1 hF kv_X10_120 (fun r h1 q => c_X10_groupOf l G B _ _ _ _ _ q) rfl rfl ⟨Nat.le_of_ble_eq_true rfl, Nat.le_of_ble_eq_true rfl⟩ (Nat.le_of_ble_eq_true rfl) ⟨Nat.le_of_ble_eq_true rfl, Nat.le_of_ble_eq_true rfl⟩ dX10_laysTotals_144 (fun v45 h46 H locs P hF => ?_)
              replace hF := un_i hF
              refine lv_dup2_11 (pc := 147) hx hb dX10_laysTotals_147 rfl rfl ?_
              refine r_aI (pc := 148) CX P hF dX10_laysTotals_148 (fun v47 hF => ?_)
              refine lv_aload_n (pc := 149) hx hb dX10_laysTotals_149 rfl (lv_at hl 0 rfl) ?_
              refine lv_iload_n (pc := 150) hx hb dX10_laysTotals_150 rfl (lv_at hl 1 rfl) ?_
              refine lv_iconst (pc := 151) (v := 2) hx hb dX10_laysTotals_151 (by decide) ?_
              refine lv_iconst (pc := 152) (v := 0) hx hb dX10_laysTotals_152 (by decide) ?_
              refine r_cVi (pc := 153) (As := [.int v29, .int 2, .int 0]) (rest := [.int v47, .int v45, .ref (B + a44)]) CX P hl.1 hF kv_X10_114 (fun r h1 q => c_X10_ofProcess l G B _ _ _ _ _ _ _ q) rfl rfl ⟨Nat.le_of_ble_eq_true rfl, Nat.le_of_ble_eq_true rfl⟩ (Nat.le_of_ble_eq_true rfl) ⟨Nat.le_of_ble_eq_true rfl, Nat.le_of_ble_eq_true rfl⟩ dX10_laysTotals_153 (fun v48 h49 H locs P hF => ?_)
              replace hF := un_i hF
              refine lv_iadd (pc := 156) hx hb dX10_laysTotals_156 ?_
              refine r_sI (pc := 157) CX P hF dX10_laysTotals_157 (fun h50 H locs P hF => ?_)
              refine lv_aload_n (pc := 158) hx hb dX10_laysTotals_158 rfl (lv_at hl 0 rfl) ?_
              refine r_gR (pc := 159) CX P hF fl_X10_45 dX10_laysTotals_159 (fun a51 hF => ?_)
              refine lv_aload_n (pc := 162) hx hb dX10_laysTotals_162 rfl (lv_at hl 0 rfl) ?_
              refine lv_iload_n (pc := 163) hx hb dX10_laysTotals_163 rfl (lv_at hl 1 rfl) ?_
              refine r_cVi (pc := 164) (As := [.int v29]) (rest := [.ref (B + a51)]) CX P hl.1 hF kv_X10_120 (fun r h1 q => c_X10_groupOf l G B _ _ _ _ _ q) rfl rfl ⟨Nat.le_of_ble_eq_true rfl, Nat.le_of_ble_eq_true rfl⟩ (Nat.le_of_ble_eq_true rfl) ⟨Nat.le_of_ble_eq_true rfl, Nat.le_of_ble_eq_true rfl⟩ dX10_laysTotals_164 (fun v52 h53 H locs P hF => ?_)
              replace hF := un_i hF
              refine lv_dup2_11 (pc := 167) hx hb dX10_laysTotals_167 rfl rfl ?_
              refine r_aI (pc := 168) CX P hF dX10_laysTotals_168 (fun v54 hF => ?_)
              refine lv_aload_n (pc := 169) hx hb dX10_laysTotals_169 rfl (lv_at hl 0 rfl) ?_
              refine lv_iload_n (pc := 170) hx hb dX10_laysTotals_170 rfl (lv_at hl 1 rfl) ?_
              refine lv_iconst (pc := 171) (v := 3) hx hb dX10_laysTotals_171 (by decide) ?_
              refine lv_iconst (pc := 172) (v := 0) hx hb dX10_laysTotals_172 (by decide) ?_
              refine r_cVi (pc := 173) (As := [.int v29, .int 3, .int 0]) (rest := [.int v54, .int v52, .ref (B + a51)]) CX P hl.1 hF kv_X10_114 (fun r h1 q => c_X10_ofProcess l G B _ _ _ _ _ _ _ q) rfl rfl ⟨Nat.le_of_ble_eq_true rfl, Nat.le_of_ble_eq_true rfl⟩ (Nat.le_of_ble_eq_true rfl) ⟨Nat.le_of_ble_eq_true rfl, Nat.le_of_ble_eq_true rfl⟩ dX10_laysTotals_173 (fun v55 h56 H locs P hF => ?_)
              replace hF := un_i hF
              refine lv_iadd (pc := 176) hx hb dX10_laysTotals_176 ?_
              refine r_sI (pc := 177) CX P hF dX10_laysTotals_177 (fun h57 H locs P hF => ?_)
              obtain ⟨v58, ev58, hF⟩ := bl_o hF
              refine lv_iinc (pc := 178) (k := 1) (v := v58) hx hb dX10_laysTotals_178 hl rfl ev58 (by decide) rfl (fun ls hl => ?_)
              replace hl : lv_has ls 2 [(1, .int v58), (0, .ref (B + a0))] := hl
              refine lv_goto (pc := 181) (tgt := 83) hx hb dX10_laysTotals_181 (by decide) ?_
              exact ih _ _ _ _ _ P (lv_sub hl [1, 0] rfl) (hI27 _ (Option.some.inj hF).symm)
            · rw [if_pos hc] at hF
              refine lv_goto (pc := 97) (tgt := 178) hx hb dX10_laysTotals_97 (by decide) ?_
              obtain ⟨v59, ev59, hF⟩ := bl_o hF
              refine lv_iinc (pc := 178) (k := 1) (v := v59) hx hb dX10_laysTotals_178 hl rfl ev59 (by decide) rfl (fun ls hl => ?_)
              replace hl : lv_has ls 2 [(1, .int v59), (0, .ref (B + a0))] := hl
              refine lv_goto (pc := 181) (tgt := 83) hx hb dX10_laysTotals_181 (by decide) ?_
              exact ih _ _ _ _ _ P (lv_sub hl [1, 0] rfl) (hI27 _ (Option.some.inj hF).symm)
      exact hL27 _ _ _ _ _ _ P (lv_sub hl [1, 0] rfl) hLp27
    have hL15 : ∀ (n : Nat) (v17 : Int32) (h18 : Hp) (H : Heap) (locs : List Loc) (ls : Array Slot), Pic G B h18 s H locs → lv_has ls 2 [(0, .ref (B + a0)), (1, .int v17)] → loopF (fun x => F_X10_laysTotals_L44 a0 x.1 x.2) n (v17, h18) = some r15 → W p l e (rmM 3 68 0 0) s m args below meth c H locs 0 0 Q (F0 m 44 ls []) := by
      intro n
      induction n with
      | zero => intro v17 h18 H locs ls P hl hq; cases hq
      | succ n ih =>
        intro v17 h18 H locs ls P hl hq
        obtain ⟨z15, hS15, hI15, hR15⟩ := loop_some hq
        have hF : F_X10_laysTotals_L44 a0 v17 h18 = some z15 := hS15
        unfold F_X10_laysTotals_L44 at hF
        refine lv_iload_n (pc := 44) hx hb dX10_laysTotals_44 rfl (lv_at hl 1 rfl) ?_
        refine lv_bipush (pc := 45) (v := 12) hx hb dX10_laysTotals_45 (by decide) ?_
        refine lv_icmp_ge (pc := 47) (tgt := 81) hx hb dX10_laysTotals_47 (by decide) (fun hc => ?_) (fun hc => ?_)
        · rw [if_pos hc] at hF
          exact hX15 _ _ _ _ P (lv_sub hl [0] rfl) (hR15 _ (Option.some.inj hF).symm)
        · rw [if_neg hc] at hF
          refine lv_aload_n (pc := 50) hx hb dX10_laysTotals_50 rfl (lv_at hl 0 rfl) ?_
          refine lv_iload_n (pc := 51) hx hb dX10_laysTotals_51 rfl (lv_at hl 1 rfl) ?_
          refine r_cVp (pc := 52) (As := [.int v17]) (rest := []) CX P hl.1 hF kv_X10_107 (fun r q => c_X10_isGroup l G B _ _ _ _ q) rfl rfl ⟨Nat.le_of_ble_eq_true rfl, Nat.le_of_ble_eq_true rfl⟩ (Nat.le_of_ble_eq_true rfl) ⟨Nat.le_of_ble_eq_true rfl, Nat.le_of_ble_eq_true rfl⟩ dX10_laysTotals_52 (fun v19 H locs P hF => ?_)
          refine lv_if_eq (pc := 55) (tgt := 75) hx hb dX10_laysTotals_55 (by decide) (fun hc => ?_) (fun hc => ?_)
          · rw [if_pos hc] at hF
            obtain ⟨v20, ev20, hF⟩ := bl_o hF
            refine lv_iinc (pc := 75) (k := 1) (v := v20) hx hb dX10_laysTotals_75 hl rfl ev20 (by decide) rfl (fun ls hl => ?_)
            replace hl : lv_has ls 2 [(1, .int v20), (0, .ref (B + a0))] := hl
            refine lv_goto (pc := 78) (tgt := 44) hx hb dX10_laysTotals_78 (by decide) ?_
            exact ih _ _ _ _ _ P (lv_sub hl [1, 0] rfl) (hI15 _ (Option.some.inj hF).symm)
          · rw [if_neg hc] at hF
            refine lv_aload_n (pc := 58) hx hb dX10_laysTotals_58 rfl (lv_at hl 0 rfl) ?_
            refine lv_aload_n (pc := 59) hx hb dX10_laysTotals_59 rfl (lv_at hl 0 rfl) ?_
            refine r_gR (pc := 60) CX P hF fl_X10_39 dX10_laysTotals_60 (fun a21 hF => ?_)
            refine lv_iload_n (pc := 63) hx hb dX10_laysTotals_63 rfl (lv_at hl 1 rfl) ?_
            refine lv_aload_n (pc := 64) hx hb dX10_laysTotals_64 rfl (lv_at hl 0 rfl) ?_
            refine lv_iload_n (pc := 65) hx hb dX10_laysTotals_65 rfl (lv_at hl 1 rfl) ?_
            refine lv_bipush (pc := 66) (v := 10) hx hb dX10_laysTotals_66 (by decide) ?_
            refine lv_iconst (pc := 68) (v := 0) hx hb dX10_laysTotals_68 (by decide) ?_
            refine r_cVi (pc := 69) (As := [.int v17, .int 10, .int 0]) (rest := [.int v17, .ref (B + a21), .ref (B + a0)]) CX P hl.1 hF kv_X10_99 (fun r h1 q => c_X10_of l G B _ _ _ _ _ _ _ q) rfl rfl ⟨Nat.le_of_ble_eq_true rfl, Nat.le_of_ble_eq_true rfl⟩ (Nat.le_of_ble_eq_true rfl) ⟨Nat.le_of_ble_eq_true rfl, Nat.le_of_ble_eq_true rfl⟩ dX10_laysTotals_69 (fun v22 h23 H locs P hF => ?_)
            replace hF := un_i hF
            refine r_cVv (pc := 72) (As := [.ref (B + a21), .int v17, .int v22]) (rest := []) CX P hl.1 hF kv_X10_130 (fun h1 q => c_X10_adds l G B _ _ _ _ _ _ q) rfl rfl ⟨Nat.le_of_ble_eq_true rfl, Nat.le_of_ble_eq_true rfl⟩ (Nat.le_of_ble_eq_true rfl) ⟨Nat.le_of_ble_eq_true rfl, Nat.le_of_ble_eq_true rfl⟩ dX10_laysTotals_72 (fun h24 H locs P hF => ?_)
            obtain ⟨v25, ev25, hF⟩ := bl_o hF
            refine lv_iinc (pc := 75) (k := 1) (v := v25) hx hb dX10_laysTotals_75 hl rfl ev25 (by decide) rfl (fun ls hl => ?_)
            replace hl : lv_has ls 2 [(1, .int v25), (0, .ref (B + a0))] := hl
            refine lv_goto (pc := 78) (tgt := 44) hx hb dX10_laysTotals_78 (by decide) ?_
            exact ih _ _ _ _ _ P (lv_sub hl [1, 0] rfl) (hI15 _ (Option.some.inj hF).symm)
    exact hL15 _ _ _ _ _ _ P (lv_sub hl [1, 0] rfl) hLp15
  have hL1 : ∀ (n : Nat) (v3 : Int32) (h4 : Hp) (H : Heap) (locs : List Loc) (ls : Array Slot), Pic G B h4 s H locs → lv_has ls 2 [(0, .ref (B + a0)), (1, .int v3)] → loopF (fun x => F_X10_laysTotals_L2 a0 x.1 x.2) n (v3, h4) = some r1 → W p l e (rmM 3 68 0 0) s m args below meth c H locs 0 0 Q (F0 m 2 ls []) := by
    intro n
    induction n with
    | zero => intro v3 h4 H locs ls P hl hq; cases hq
    | succ n ih =>
      intro v3 h4 H locs ls P hl hq
      obtain ⟨z1, hS1, hI1, hR1⟩ := loop_some hq
      have hF : F_X10_laysTotals_L2 a0 v3 h4 = some z1 := hS1
      unfold F_X10_laysTotals_L2 at hF
      refine lv_iload_n (pc := 2) hx hb dX10_laysTotals_2 rfl (lv_at hl 1 rfl) ?_
      refine lv_bipush (pc := 3) (v := 12) hx hb dX10_laysTotals_3 (by decide) ?_
      refine lv_icmp_ge (pc := 5) (tgt := 42) hx hb dX10_laysTotals_5 (by decide) (fun hc => ?_) (fun hc => ?_)
      · rw [if_pos hc] at hF
        exact hX1 _ _ _ _ P (lv_sub hl [0] rfl) (hR1 _ (Option.some.inj hF).symm)
      · rw [if_neg hc] at hF
        refine lv_aload_n (pc := 8) hx hb dX10_laysTotals_8 rfl (lv_at hl 0 rfl) ?_
        refine r_gR (pc := 9) CX P hF fl_X10_39 dX10_laysTotals_9 (fun a5 hF => ?_)
        refine lv_iload_n (pc := 12) hx hb dX10_laysTotals_12 rfl (lv_at hl 1 rfl) ?_
        refine lv_iconst (pc := 13) (v := 0) hx hb dX10_laysTotals_13 (by decide) ?_
        refine r_sI (pc := 14) CX P hF dX10_laysTotals_14 (fun h6 H locs P hF => ?_)
        refine lv_aload_n (pc := 15) hx hb dX10_laysTotals_15 rfl (lv_at hl 0 rfl) ?_
        refine r_gR (pc := 16) CX P hF fl_X10_42 dX10_laysTotals_16 (fun a7 hF => ?_)
        refine lv_iload_n (pc := 19) hx hb dX10_laysTotals_19 rfl (lv_at hl 1 rfl) ?_
        refine lv_iconst (pc := 20) (v := 0) hx hb dX10_laysTotals_20 (by decide) ?_
        refine r_sI (pc := 21) CX P hF dX10_laysTotals_21 (fun h8 H locs P hF => ?_)
        refine lv_aload_n (pc := 22) hx hb dX10_laysTotals_22 rfl (lv_at hl 0 rfl) ?_
        refine r_gR (pc := 23) CX P hF fl_X10_45 dX10_laysTotals_23 (fun a9 hF => ?_)
        refine lv_iload_n (pc := 26) hx hb dX10_laysTotals_26 rfl (lv_at hl 1 rfl) ?_
        refine lv_iconst (pc := 27) (v := 0) hx hb dX10_laysTotals_27 (by decide) ?_
        refine r_sI (pc := 28) CX P hF dX10_laysTotals_28 (fun h10 H locs P hF => ?_)
        refine lv_aload_n (pc := 29) hx hb dX10_laysTotals_29 rfl (lv_at hl 0 rfl) ?_
        refine r_gR (pc := 30) CX P hF fl_X10_48 dX10_laysTotals_30 (fun a11 hF => ?_)
        refine lv_iload_n (pc := 33) hx hb dX10_laysTotals_33 rfl (lv_at hl 1 rfl) ?_
        refine lv_iconst (pc := 34) (v := 0) hx hb dX10_laysTotals_34 (by decide) ?_
        refine r_sI (pc := 35) CX P hF dX10_laysTotals_35 (fun h12 H locs P hF => ?_)
        obtain ⟨v13, ev13, hF⟩ := bl_o hF
        refine lv_iinc (pc := 36) (k := 1) (v := v13) hx hb dX10_laysTotals_36 hl rfl ev13 (by decide) rfl (fun ls hl => ?_)
        replace hl : lv_has ls 2 [(1, .int v13), (0, .ref (B + a0))] := hl
        refine lv_goto (pc := 39) (tgt := 2) hx hb dX10_laysTotals_39 (by decide) ?_
        exact ih _ _ _ _ _ P (lv_sub hl [1, 0] rfl) (hI1 _ (Option.some.inj hF).symm)
  exact hL1 _ _ _ _ _ _ P (lv_sub hl [1, 0] rfl) hLp1
def F_X10_totalOf (h : Hp) (a0 : Nat) (vp1 : Int32) : Option (Int32 × Hp) :=
(cO h a0 10 (F_X10_laysTotals h a0)).bind fun h1 =>
(gR h1 a0 10 10).bind fun a2 =>
(aI h1 a2 vp1).bind fun v3 =>
some (v3, h1)
set_option maxRecDepth 100000 in
set_option maxHeartbeats 4000000 in
theorem c_X10_totalOf (l : Launch) (G : GG) (B : Nat) (h : Hp) (a0 : Nat) (vp1 : Int32) (r0 : Int32) (hr : Hp) (hF : F_X10_totalOf h a0 vp1 = some (r0, hr)) : CI l yX10_totalOf cX10_totalOf 2 .int 4 89 0 0 G B h [.ref (B + a0), .int vp1] r0 hr := by
  refine ent_i rfl (Nat.le_of_ble_eq_true rfl) ?_
  intro p e s m args below meth c ls Q CX hnm hret P hl
  have CX : Cxt p m c cX10_totalOf 2 s args RX10 G B := CX
  obtain ⟨⟨hx, hb, hml, hown, hts⟩, -, -⟩ := id CX
  replace hl : lv_has ls 2 [(0, .ref (B + a0)), (1, .int vp1)] := hl
  generalize s.heap = H at P ⊢
  generalize ([] : List Loc) = locs at P ⊢
  unfold F_X10_totalOf at hF
  refine lv_aload_n (pc := 0) hx hb dX10_totalOf_0 rfl (lv_at hl 0 rfl) ?_
  refine r_cVv (pc := 1) (As := []) (rest := []) CX P hl.1 hF kv_X10_127 (fun h1 q => c_X10_laysTotals l G B _ _ _ q) rfl rfl ⟨Nat.le_of_ble_eq_true rfl, Nat.le_of_ble_eq_true rfl⟩ (Nat.le_of_ble_eq_true rfl) ⟨Nat.le_of_ble_eq_true rfl, Nat.le_of_ble_eq_true rfl⟩ dX10_totalOf_1 (fun h1 H locs P hF => ?_)
  refine lv_aload_n (pc := 4) hx hb dX10_totalOf_4 rfl (lv_at hl 0 rfl) ?_
  refine r_gR (pc := 5) CX P hF fl_X10_39 dX10_totalOf_5 (fun a2 hF => ?_)
  refine lv_iload_n (pc := 8) hx hb dX10_totalOf_8 rfl (lv_at hl 1 rfl) ?_
  refine r_aI (pc := 9) CX P hF dX10_totalOf_9 (fun v3 hF => ?_)
  cases hF
  exact hret _ _ _ _ P rfl dX10_totalOf_10
def F_X10_sharedOut (h : Hp) (a0 : Nat) (vp1 : Int32) (vp2 : Int32) : Option (Int32 × Hp) :=
(cO h a0 10 (F_X10_parentOf h a0 vp1)).bind (un fun v1 h2 =>
if v1 = vp2 then (
(gR h2 a0 10 14).bind fun a3 =>
(aI h2 a3 vp1).bind fun v4 =>
some (v4, h2)) else (
(gR h2 a0 10 15).bind fun a5 =>
(aI h2 a5 v1).bind fun v6 =>
(gR h2 a0 10 16).bind fun a7 =>
(aI h2 a7 v1).bind fun v8 =>
if v8 < v6 then (
(gR h2 a0 10 14).bind fun a9 =>
(aI h2 a9 vp1).bind fun v10 =>
(gR h2 a0 10 16).bind fun a11 =>
(aI h2 a11 v1).bind fun v12 =>
(gR h2 a0 10 15).bind fun a13 =>
(aI h2 a13 v1).bind fun v14 =>
(dvI (v10 * v12) v14).bind fun v15 =>
some (v15, h2)) else (
(gR h2 a0 10 14).bind fun a16 =>
(aI h2 a16 vp1).bind fun v17 =>
some (v17, h2))))
set_option maxRecDepth 100000 in
set_option maxHeartbeats 4000000 in
theorem c_X10_sharedOut (l : Launch) (G : GG) (B : Nat) (h : Hp) (a0 : Nat) (vp1 : Int32) (vp2 : Int32) (r0 : Int32) (hr : Hp) (hF : F_X10_sharedOut h a0 vp1 vp2 = some (r0, hr)) : CI l yX10_sharedOut cX10_sharedOut 4 .int 2 44 0 0 G B h [.ref (B + a0), .int vp1, .int vp2] r0 hr := by
  refine ent_i rfl (Nat.le_of_ble_eq_true rfl) ?_
  intro p e s m args below meth c ls Q CX hnm hret P hl
  have CX : Cxt p m c cX10_sharedOut 4 s args RX10 G B := CX
  obtain ⟨⟨hx, hb, hml, hown, hts⟩, -, -⟩ := id CX
  replace hl : lv_has ls 4 [(0, .ref (B + a0)), (1, .int vp1), (2, .int vp2)] := hl
  generalize s.heap = H at P ⊢
  generalize ([] : List Loc) = locs at P ⊢
  unfold F_X10_sharedOut at hF
  refine lv_aload_n (pc := 0) hx hb dX10_sharedOut_0 rfl (lv_at hl 0 rfl) ?_
  refine lv_iload_n (pc := 1) hx hb dX10_sharedOut_1 rfl (lv_at hl 1 rfl) ?_
  refine r_cVi (pc := 2) (As := [.int vp1]) (rest := []) CX P hl.1 hF kv_X10_103 (fun r h1 q => c_X10_parentOf l G B _ _ _ _ _ q) rfl rfl ⟨Nat.le_of_ble_eq_true rfl, Nat.le_of_ble_eq_true rfl⟩ (Nat.le_of_ble_eq_true rfl) ⟨Nat.le_of_ble_eq_true rfl, Nat.le_of_ble_eq_true rfl⟩ dX10_sharedOut_2 (fun v1 h2 H locs P hF => ?_)
  replace hF := un_i hF
  refine lv_istore_n (pc := 5) hx hb dX10_sharedOut_5 rfl hl (by decide) rfl (fun ls hl => ?_)
  replace hl : lv_has ls 4 [(3, .int v1), (0, .ref (B + a0)), (1, .int vp1), (2, .int vp2)] := hl
  refine lv_iload_n (pc := 6) hx hb dX10_sharedOut_6 rfl (lv_at hl 0 rfl) ?_
  refine lv_iload_n (pc := 7) hx hb dX10_sharedOut_7 rfl (lv_at hl 3 rfl) ?_
  refine lv_icmp_eq (pc := 8) (tgt := 26) hx hb dX10_sharedOut_8 (by decide) (fun hc => ?_) (fun hc => ?_)
  · rw [if_pos hc] at hF
    refine lv_aload_n (pc := 26) hx hb dX10_sharedOut_26 rfl (lv_at hl 1 rfl) ?_
    refine r_gR (pc := 27) CX P hF fl_X10_51 dX10_sharedOut_27 (fun a3 hF => ?_)
    refine lv_iload_n (pc := 30) hx hb dX10_sharedOut_30 rfl (lv_at hl 2 rfl) ?_
    refine r_aI (pc := 31) CX P hF dX10_sharedOut_31 (fun v4 hF => ?_)
    cases hF
    exact hret _ _ _ _ P rfl dX10_sharedOut_32
  · rw [if_neg hc] at hF
    refine lv_aload_n (pc := 11) hx hb dX10_sharedOut_11 rfl (lv_at hl 1 rfl) ?_
    refine r_gR (pc := 12) CX P hF fl_X10_54 dX10_sharedOut_12 (fun a5 hF => ?_)
    refine lv_iload_n (pc := 15) hx hb dX10_sharedOut_15 rfl (lv_at hl 0 rfl) ?_
    refine r_aI (pc := 16) CX P hF dX10_sharedOut_16 (fun v6 hF => ?_)
    refine lv_aload_n (pc := 17) hx hb dX10_sharedOut_17 rfl (lv_at hl 1 rfl) ?_
    refine r_gR (pc := 18) CX P hF fl_X10_57 dX10_sharedOut_18 (fun a7 hF => ?_)
    refine lv_iload_n (pc := 21) hx hb dX10_sharedOut_21 rfl (lv_at hl 0 rfl) ?_
    refine r_aI (pc := 22) CX P hF dX10_sharedOut_22 (fun v8 hF => ?_)
    refine lv_icmp_gt (pc := 23) (tgt := 33) hx hb dX10_sharedOut_23 (by decide) (fun hc => ?_) (fun hc => ?_)
    · rw [if_pos hc] at hF
      refine lv_aload_n (pc := 33) hx hb dX10_sharedOut_33 rfl (lv_at hl 1 rfl) ?_
      refine r_gR (pc := 34) CX P hF fl_X10_51 dX10_sharedOut_34 (fun a9 hF => ?_)
      refine lv_iload_n (pc := 37) hx hb dX10_sharedOut_37 rfl (lv_at hl 2 rfl) ?_
      refine r_aI (pc := 38) CX P hF dX10_sharedOut_38 (fun v10 hF => ?_)
      refine lv_aload_n (pc := 39) hx hb dX10_sharedOut_39 rfl (lv_at hl 1 rfl) ?_
      refine r_gR (pc := 40) CX P hF fl_X10_57 dX10_sharedOut_40 (fun a11 hF => ?_)
      refine lv_iload_n (pc := 43) hx hb dX10_sharedOut_43 rfl (lv_at hl 0 rfl) ?_
      refine r_aI (pc := 44) CX P hF dX10_sharedOut_44 (fun v12 hF => ?_)
      refine lv_imul (pc := 45) hx hb dX10_sharedOut_45 ?_
      refine lv_aload_n (pc := 46) hx hb dX10_sharedOut_46 rfl (lv_at hl 1 rfl) ?_
      refine r_gR (pc := 47) CX P hF fl_X10_54 dX10_sharedOut_47 (fun a13 hF => ?_)
      refine lv_iload_n (pc := 50) hx hb dX10_sharedOut_50 rfl (lv_at hl 0 rfl) ?_
      refine r_aI (pc := 51) CX P hF dX10_sharedOut_51 (fun v14 hF => ?_)
      refine r_dv (pc := 52) hx hb hF dX10_sharedOut_52 (fun v15 hF => ?_)
      cases hF
      exact hret _ _ _ _ P rfl dX10_sharedOut_53
    · rw [if_neg hc] at hF
      refine lv_aload_n (pc := 26) hx hb dX10_sharedOut_26 rfl (lv_at hl 1 rfl) ?_
      refine r_gR (pc := 27) CX P hF fl_X10_51 dX10_sharedOut_27 (fun a16 hF => ?_)
      refine lv_iload_n (pc := 30) hx hb dX10_sharedOut_30 rfl (lv_at hl 2 rfl) ?_
      refine r_aI (pc := 31) CX P hF dX10_sharedOut_31 (fun v17 hF => ?_)
      cases hF
      exact hret _ _ _ _ P rfl dX10_sharedOut_32
def F_X10_laysShares_L6 (a3 : Nat) (v4 : Int32) (v5 : Int32) (v6 : Int32) (h7 : Hp) : Option ((Int32 × Hp) ⊕ (Hp)) :=
if 12 ≤ v6 then (
some (.inr h7)) else (
(gR h7 a3 10 14).bind fun a8 =>
(cO h7 a3 10 (F_X10_isGroup h7 a3 v6)).bind fun v9 =>
(if v9 = 0 then (
some ((0 : Int32), h7)) else (
(if v5 = 0 then (
some (1 : Int32)) else (
some (0 : Int32))).bind fun v12 =>
(cO h7 a3 10 (F_X10_of h7 a3 v6 v12 0)).bind (un fun v13 h14 =>
(gR h14 a3 10 10).bind fun a15 =>
(aI h14 a15 v6).bind fun v16 =>
(F_X10_lesser h14 v13 v16).bind fun v17 =>
some ((v17 : Int32), h14)))).bind fun q10 =>
bl q10.1 fun v18 =>
bl q10.2 fun h19 =>
(sI h19 a8 v6 v18).bind fun h20 =>
(gR h20 a3 10 15).bind fun a21 =>
(sI h20 a21 v6 0).bind fun h22 =>
(gR h22 a3 10 16).bind fun a23 =>
(sI h22 a23 v6 (-1)).bind fun h24 =>
bl (v6 + 1) fun v25 =>
some (.inl (v25, h24)))
def F_X10_laysShares_L76 (a28 : Nat) (v29 : Int32) (v30 : Int32) (h31 : Hp) : Option ((Int32 × Hp) ⊕ (Hp)) :=
if 12 ≤ v30 then (
some (.inr h31)) else (
(cO h31 a28 10 (F_X10_isGroup h31 a28 v30)).bind fun v32 =>
if v32 = 0 then (
bl (v30 + 1) fun v33 =>
some (.inl (v33, h31))) else (
(gR h31 a28 10 15).bind fun a34 =>
(cO h31 a28 10 (F_X10_parentOf h31 a28 v30)).bind (un fun v35 h36 =>
(aI h36 a34 v35).bind fun v37 =>
(gR h36 a28 10 14).bind fun a38 =>
(aI h36 a38 v30).bind fun v39 =>
(sI h36 a34 v35 (v37 + v39)).bind fun h40 =>
bl (v30 + 1) fun v41 =>
some (.inl (v41, h40)))))
def F_X10_laysShares_L126 (a49 : Nat) (v50 : Int32) (v51 : Int32) (v52 : Int32) (h53 : Hp) : Option ((Int32 × Int32 × Hp) ⊕ (Int32 × Hp)) :=
if 12 ≤ v52 then (
some (.inr (v51, h53))) else (
(cO h53 a49 10 (F_X10_isGroup h53 a49 v52)).bind fun v54 =>
if v54 = 0 then (
bl (v52 + 1) fun v55 =>
some (.inl (v51, v55, h53))) else (
if v52 = v50 then (
bl (v52 + 1) fun v56 =>
some (.inl (v51, v56, h53))) else (
(gR h53 a49 10 16).bind fun a57 =>
(aI h53 a57 v52).bind fun v58 =>
if v58 = (-1) then (
(cO h53 a49 10 (F_X10_parentOf h53 a49 v52)).bind (un fun v60 h61 =>
bl (fun (v68 : Int32) (h69 : Hp) =>
(gR h69 a49 10 16).bind fun a70 =>
(cO h69 a49 10 (F_X10_sharedOut h69 a49 v68 v50)).bind (un fun v71 h72 =>
(sI h72 a70 v68 v71).bind fun h73 =>
bl (v68 + 1) fun v74 =>
some (.inl (1, v74, h73)))) fun k62 =>
if v60 = v50 then (
k62 (v52 : Int32) h61) else (
(gR h61 a49 10 16).bind fun a63 =>
(cO h61 a49 10 (F_X10_parentOf h61 a49 v52)).bind (un fun v64 h65 =>
(aI h65 a63 v64).bind fun v66 =>
if v66 = (-1) then (
bl (v52 + 1) fun v67 =>
some (.inl (v51, v67, h65))) else (
k62 (v52 : Int32) h65))))) else (
bl (v52 + 1) fun v59 =>
some (.inl (v51, v59, h53))))))
def F_X10_laysShares_L117 (a44 : Nat) (v45 : Int32) (v46 : Int32) (h47 : Hp) : Option ((Int32 × Hp) ⊕ (Hp)) :=
if v46 = 0 then (
some (.inr h47)) else (
(loopF (fun x => F_X10_laysShares_L126 a44 v45 x.1 x.2.1 x.2.2) 6000 (0, 1, h47)).bind fun q48 =>
bl q48.1 fun v75 =>
bl q48.2 fun h76 =>
some (.inl (v75, h76)))
def F_X10_laysShares (h : Hp) (a0 : Nat) (vp1 : Int32) (vp2 : Int32) : Option (Hp) :=
(cO h a0 10 (F_X10_laysTotals h a0)).bind fun h1 =>
(loopF (fun x => F_X10_laysShares_L6 a0 vp1 vp2 x.1 x.2) 6000 (0, h1)).bind fun h26 =>
(loopF (fun x => F_X10_laysShares_L76 a0 vp1 x.1 x.2) 6000 (1, h26)).bind fun h42 =>
(loopF (fun x => F_X10_laysShares_L117 a0 vp1 x.1 x.2) 6000 (1, h42)).bind fun h77 =>
some h77
set_option maxRecDepth 100000 in
set_option maxHeartbeats 4000000 in
theorem c_X10_laysShares (l : Launch) (G : GG) (B : Nat) (h : Hp) (a0 : Nat) (vp1 : Int32) (vp2 : Int32) (hr : Hp) (hF : F_X10_laysShares h a0 vp1 vp2 = some hr) : CV l yX10_laysShares cX10_laysShares 5 4 89 0 0 G B h [.ref (B + a0), .int vp1, .int vp2] hr := by
  refine ent_v rfl (Nat.le_of_ble_eq_true rfl) ?_
  intro p e s m args below meth c ls Q CX hnm hret P hl
  have CX : Cxt p m c cX10_laysShares 5 s args RX10 G B := CX
  obtain ⟨⟨hx, hb, hml, hown, hts⟩, -, -⟩ := id CX
  replace hl : lv_has ls 5 [(0, .ref (B + a0)), (1, .int vp1), (2, .int vp2)] := hl
  generalize s.heap = H at P ⊢
  generalize ([] : List Loc) = locs at P ⊢
  unfold F_X10_laysShares at hF
  refine lv_aload_n (pc := 0) hx hb dX10_laysShares_0 rfl (lv_at hl 0 rfl) ?_
  refine r_cVv (pc := 1) (As := []) (rest := []) CX P hl.1 hF kv_X10_127 (fun h1 q => c_X10_laysTotals l G B _ _ _ q) rfl rfl ⟨Nat.le_of_ble_eq_true rfl, Nat.le_of_ble_eq_true rfl⟩ (Nat.le_of_ble_eq_true rfl) ⟨Nat.le_of_ble_eq_true rfl, Nat.le_of_ble_eq_true rfl⟩ dX10_laysShares_1 (fun h1 H locs P hF => ?_)
  refine lv_iconst (pc := 4) (v := 0) hx hb dX10_laysShares_4 (by decide) ?_
  refine lv_istore_n (pc := 5) hx hb dX10_laysShares_5 rfl hl (by decide) rfl (fun ls hl => ?_)
  replace hl : lv_has ls 5 [(3, .int 0), (0, .ref (B + a0)), (1, .int vp1), (2, .int vp2)] := hl
  obtain ⟨r2, hLp2, hK2⟩ := bd_some hF
  have hX2 : ∀ (h26 : Hp) (H : Heap) (locs : List Loc) (ls : Array Slot), Pic G B h26 s H locs → lv_has ls 5 [(0, .ref (B + a0)), (1, .int vp1)] → h26 = r2 → W p l e (rmM 4 89 0 0) s m args below meth c H locs 0 0 Q (F0 m 74 ls []) := by
    intro h26 H locs ls P hl er
    subst er
    have hF := hK2
    refine lv_iconst (pc := 74) (v := 1) hx hb dX10_laysShares_74 (by decide) ?_
    refine lv_istore_n (pc := 75) hx hb dX10_laysShares_75 rfl hl (by decide) rfl (fun ls hl => ?_)
    replace hl : lv_has ls 5 [(3, .int 1), (0, .ref (B + a0)), (1, .int vp1)] := hl
    obtain ⟨r27, hLp27, hK27⟩ := bd_some hF
    have hX27 : ∀ (h42 : Hp) (H : Heap) (locs : List Loc) (ls : Array Slot), Pic G B h42 s H locs → lv_has ls 5 [(0, .ref (B + a0)), (1, .int vp1)] → h42 = r27 → W p l e (rmM 4 89 0 0) s m args below meth c H locs 0 0 Q (F0 m 115 ls []) := by
      intro h42 H locs ls P hl er
      subst er
      have hF := hK27
      refine lv_iconst (pc := 115) (v := 1) hx hb dX10_laysShares_115 (by decide) ?_
      refine lv_istore_n (pc := 116) hx hb dX10_laysShares_116 rfl hl (by decide) rfl (fun ls hl => ?_)
      replace hl : lv_has ls 5 [(3, .int 1), (0, .ref (B + a0)), (1, .int vp1)] := hl
      obtain ⟨r43, hLp43, hK43⟩ := bd_some hF
      have hX43 : ∀ (h77 : Hp) (H : Heap) (locs : List Loc) (ls : Array Slot), Pic G B h77 s H locs → lv_has ls 5 [] → h77 = r43 → W p l e (rmM 4 89 0 0) s m args below meth c H locs 0 0 Q (F0 m 212 ls []) := by
        intro h77 H locs ls P hl er
        subst er
        have hF := hK43
        cases hF
        exact hret _ _ _ _ P dX10_laysShares_212
      have hL43 : ∀ (n : Nat) (v46 : Int32) (h47 : Hp) (H : Heap) (locs : List Loc) (ls : Array Slot), Pic G B h47 s H locs → lv_has ls 5 [(0, .ref (B + a0)), (1, .int vp1), (3, .int v46)] → loopF (fun x => F_X10_laysShares_L117 a0 vp1 x.1 x.2) n (v46, h47) = some r43 → W p l e (rmM 4 89 0 0) s m args below meth c H locs 0 0 Q (F0 m 117 ls []) := by
        intro n
        induction n with
        | zero => intro v46 h47 H locs ls P hl hq; cases hq
        | succ n ih =>
          intro v46 h47 H locs ls P hl hq
          obtain ⟨z43, hS43, hI43, hR43⟩ := loop_some hq
          have hF : F_X10_laysShares_L117 a0 vp1 v46 h47 = some z43 := hS43
          unfold F_X10_laysShares_L117 at hF
          refine lv_iload_n (pc := 117) hx hb dX10_laysShares_117 rfl (lv_at hl 2 rfl) ?_
          refine lv_if_eq (pc := 118) (tgt := 212) hx hb dX10_laysShares_118 (by decide) (fun hc => ?_) (fun hc => ?_)
          · rw [if_pos hc] at hF
            exact hX43 _ _ _ _ P (lv_sub hl [] rfl) (hR43 _ (Option.some.inj hF).symm)
          · rw [if_neg hc] at hF
            refine lv_iconst (pc := 121) (v := 0) hx hb dX10_laysShares_121 (by decide) ?_
            refine lv_istore_n (pc := 122) hx hb dX10_laysShares_122 rfl hl (by decide) rfl (fun ls hl => ?_)
            replace hl : lv_has ls 5 [(3, .int 0), (0, .ref (B + a0)), (1, .int vp1)] := hl
            refine lv_iconst (pc := 123) (v := 1) hx hb dX10_laysShares_123 (by decide) ?_
            refine lv_istore (pc := 124) hx hb dX10_laysShares_124 hl (by decide) rfl (fun ls hl => ?_)
            replace hl : lv_has ls 5 [(4, .int 1), (3, .int 0), (0, .ref (B + a0)), (1, .int vp1)] := hl
            obtain ⟨r48, hLp48, hK48⟩ := bd_some hF
            have hX48 : ∀ (v75 : Int32) (h76 : Hp) (H : Heap) (locs : List Loc) (ls : Array Slot), Pic G B h76 s H locs → lv_has ls 5 [(0, .ref (B + a0)), (1, .int vp1), (3, .int v75)] → (v75, h76) = r48 → W p l e (rmM 4 89 0 0) s m args below meth c H locs 0 0 Q (F0 m 209 ls []) := by
              intro v75 h76 H locs ls P hl er
              subst er
              have hF := hK48
              replace hF := bl_i hF
              replace hF := bl_i hF
              try dsimp only at hF
              refine lv_goto (pc := 209) (tgt := 117) hx hb dX10_laysShares_209 (by decide) ?_
              exact ih _ _ _ _ _ P (lv_sub hl [0, 1, 2] rfl) (hI43 _ (Option.some.inj hF).symm)
            have hL48 : ∀ (n : Nat) (v51 : Int32) (v52 : Int32) (h53 : Hp) (H : Heap) (locs : List Loc) (ls : Array Slot), Pic G B h53 s H locs → lv_has ls 5 [(0, .ref (B + a0)), (1, .int vp1), (3, .int v51), (4, .int v52)] → loopF (fun x => F_X10_laysShares_L126 a0 vp1 x.1 x.2.1 x.2.2) n (v51, v52, h53) = some r48 → W p l e (rmM 4 89 0 0) s m args below meth c H locs 0 0 Q (F0 m 126 ls []) := by
              intro n
              induction n with
              | zero => intro v51 v52 h53 H locs ls P hl hq; cases hq
              | succ n ih =>
                intro v51 v52 h53 H locs ls P hl hq
                obtain ⟨z48, hS48, hI48, hR48⟩ := loop_some hq
                have hF : F_X10_laysShares_L126 a0 vp1 v51 v52 h53 = some z48 := hS48
                unfold F_X10_laysShares_L126 at hF
                refine lv_iload (pc := 126) hx hb dX10_laysShares_126 (lv_at hl 3 rfl) ?_
                refine lv_bipush (pc := 128) (v := 12) hx hb dX10_laysShares_128 (by decide) ?_
                refine lv_icmp_ge (pc := 130) (tgt := 209) hx hb dX10_laysShares_130 (by decide) (fun hc => ?_) (fun hc => ?_)
                · rw [if_pos hc] at hF
                  exact hX48 _ _ _ _ _ P (lv_sub hl [0, 1, 2] rfl) (hR48 _ (Option.some.inj hF).symm)
                · rw [if_neg hc] at hF
                  refine lv_aload_n (pc := 133) hx hb dX10_laysShares_133 rfl (lv_at hl 0 rfl) ?_
                  refine lv_iload (pc := 134) hx hb dX10_laysShares_134 (lv_at hl 3 rfl) ?_
                  refine r_cVp (pc := 136) (As := [.int v52]) (rest := []) CX P hl.1 hF kv_X10_107 (fun r q => c_X10_isGroup l G B _ _ _ _ q) rfl rfl ⟨Nat.le_of_ble_eq_true rfl, Nat.le_of_ble_eq_true rfl⟩ (Nat.le_of_ble_eq_true rfl) ⟨Nat.le_of_ble_eq_true rfl, Nat.le_of_ble_eq_true rfl⟩ dX10_laysShares_136 (fun v54 H locs P hF => ?_)
                  refine lv_if_eq (pc := 139) (tgt := 203) hx hb dX10_laysShares_139 (by decide) (fun hc => ?_) (fun hc => ?_)
                  · rw [if_pos hc] at hF
                    obtain ⟨v55, ev55, hF⟩ := bl_o hF
                    refine lv_iinc (pc := 203) (k := 3) (v := v55) hx hb dX10_laysShares_203 hl rfl ev55 (by decide) rfl (fun ls hl => ?_)
                    replace hl : lv_has ls 5 [(4, .int v55), (0, .ref (B + a0)), (1, .int vp1), (3, .int v51)] := hl
                    refine lv_goto (pc := 206) (tgt := 126) hx hb dX10_laysShares_206 (by decide) ?_
                    exact ih _ _ _ _ _ _ P (lv_sub hl [1, 2, 3, 0] rfl) (hI48 _ (Option.some.inj hF).symm)
                  · rw [if_neg hc] at hF
                    refine lv_iload (pc := 142) hx hb dX10_laysShares_142 (lv_at hl 3 rfl) ?_
                    refine lv_iload_n (pc := 144) hx hb dX10_laysShares_144 rfl (lv_at hl 1 rfl) ?_
                    refine lv_icmp_eq (pc := 145) (tgt := 203) hx hb dX10_laysShares_145 (by decide) (fun hc => ?_) (fun hc => ?_)
                    · rw [if_pos hc] at hF
                      obtain ⟨v56, ev56, hF⟩ := bl_o hF
                      refine lv_iinc (pc := 203) (k := 3) (v := v56) hx hb dX10_laysShares_203 hl rfl ev56 (by decide) rfl (fun ls hl => ?_)
                      replace hl : lv_has ls 5 [(4, .int v56), (0, .ref (B + a0)), (1, .int vp1), (3, .int v51)] := hl
                      refine lv_goto (pc := 206) (tgt := 126) hx hb dX10_laysShares_206 (by decide) ?_
                      exact ih _ _ _ _ _ _ P (lv_sub hl [1, 2, 3, 0] rfl) (hI48 _ (Option.some.inj hF).symm)
                    · rw [if_neg hc] at hF
                      refine lv_aload_n (pc := 148) hx hb dX10_laysShares_148 rfl (lv_at hl 0 rfl) ?_
                      refine r_gR (pc := 149) CX P hF fl_X10_57 dX10_laysShares_149 (fun a57 hF => ?_)
                      refine lv_iload (pc := 152) hx hb dX10_laysShares_152 (lv_at hl 3 rfl) ?_
                      refine r_aI (pc := 154) CX P hF dX10_laysShares_154 (fun v58 hF => ?_)
                      refine lv_iconst (pc := 155) (v := (-1)) hx hb dX10_laysShares_155 (by decide) ?_
                      refine lv_icmp_ne (pc := 156) (tgt := 203) hx hb dX10_laysShares_156 (by decide) (fun hc => ?_) (fun hc => ?_)
                      · rw [if_neg hc] at hF
                        obtain ⟨v59, ev59, hF⟩ := bl_o hF
                        refine lv_iinc (pc := 203) (k := 3) (v := v59) hx hb dX10_laysShares_203 hl rfl ev59 (by decide) rfl (fun ls hl => ?_)
                        replace hl : lv_has ls 5 [(4, .int v59), (0, .ref (B + a0)), (1, .int vp1), (3, .int v51)] := hl
                        refine lv_goto (pc := 206) (tgt := 126) hx hb dX10_laysShares_206 (by decide) ?_
                        exact ih _ _ _ _ _ _ P (lv_sub hl [1, 2, 3, 0] rfl) (hI48 _ (Option.some.inj hF).symm)
                      · rw [if_pos hc] at hF
                        refine lv_aload_n (pc := 159) hx hb dX10_laysShares_159 rfl (lv_at hl 0 rfl) ?_
                        refine lv_iload (pc := 160) hx hb dX10_laysShares_160 (lv_at hl 3 rfl) ?_
                        refine r_cVi (pc := 162) (As := [.int v52]) (rest := []) CX P hl.1 hF kv_X10_103 (fun r h1 q => c_X10_parentOf l G B _ _ _ _ _ q) rfl rfl ⟨Nat.le_of_ble_eq_true rfl, Nat.le_of_ble_eq_true rfl⟩ (Nat.le_of_ble_eq_true rfl) ⟨Nat.le_of_ble_eq_true rfl, Nat.le_of_ble_eq_true rfl⟩ dX10_laysShares_162 (fun v60 h61 H locs P hF => ?_)
                        replace hF := un_i hF
                        refine lv_iload_n (pc := 165) hx hb dX10_laysShares_165 rfl (lv_at hl 1 rfl) ?_
                        obtain ⟨k62, ek62, hF⟩ := bl_o hF
                        have hJ62 : ∀ (v68 : Int32) (h69 : Hp) (H : Heap) (locs : List Loc) (ls : Array Slot), Pic G B h69 s H locs → lv_has ls 5 [(0, .ref (B + a0)), (1, .int vp1), (4, .int v68)] → k62 v68 h69 = some z48 → W p l e (rmM 4 89 0 0) s m args below meth c H locs 0 0 Q (F0 m 187 ls []) := by
                          intro v68 h69 H locs ls P hl hF
                          rw [← ek62] at hF
                          try dsimp only at hF
                          refine lv_aload_n (pc := 187) hx hb dX10_laysShares_187 rfl (lv_at hl 0 rfl) ?_
                          refine r_gR (pc := 188) CX P hF fl_X10_57 dX10_laysShares_188 (fun a70 hF => ?_)
                          refine lv_iload (pc := 191) hx hb dX10_laysShares_191 (lv_at hl 2 rfl) ?_
                          refine lv_aload_n (pc := 193) hx hb dX10_laysShares_193 rfl (lv_at hl 0 rfl) ?_
                          refine lv_iload (pc := 194) hx hb dX10_laysShares_194 (lv_at hl 2 rfl) ?_
                          refine lv_iload_n (pc := 196) hx hb dX10_laysShares_196 rfl (lv_at hl 1 rfl) ?_
                          refine r_cVi (pc := 197) (As := [.int v68, .int vp1]) (rest := [.int v68, .ref (B + a70)]) CX P hl.1 hF kv_X10_140 (fun r h1 q => c_X10_sharedOut l G B _ _ _ _ _ _ q) rfl rfl ⟨Nat.le_of_ble_eq_true rfl, Nat.le_of_ble_eq_true rfl⟩ (Nat.le_of_ble_eq_true rfl) ⟨Nat.le_of_ble_eq_true rfl, Nat.le_of_ble_eq_true rfl⟩ dX10_laysShares_197 (fun v71 h72 H locs P hF => ?_)
                          replace hF := un_i hF
                          refine r_sI (pc := 200) CX P hF dX10_laysShares_200 (fun h73 H locs P hF => ?_)
                          refine lv_iconst (pc := 201) (v := 1) hx hb dX10_laysShares_201 (by decide) ?_
                          refine lv_istore_n (pc := 202) hx hb dX10_laysShares_202 rfl hl (by decide) rfl (fun ls hl => ?_)
                          replace hl : lv_has ls 5 [(3, .int 1), (0, .ref (B + a0)), (1, .int vp1), (4, .int v68)] := hl
                          obtain ⟨v74, ev74, hF⟩ := bl_o hF
                          refine lv_iinc (pc := 203) (k := 3) (v := v74) hx hb dX10_laysShares_203 hl rfl ev74 (by decide) rfl (fun ls hl => ?_)
                          replace hl : lv_has ls 5 [(4, .int v74), (3, .int 1), (0, .ref (B + a0)), (1, .int vp1)] := hl
                          refine lv_goto (pc := 206) (tgt := 126) hx hb dX10_laysShares_206 (by decide) ?_
                          exact ih _ _ _ _ _ _ P (lv_sub hl [2, 3, 1, 0] rfl) (hI48 _ (Option.some.inj hF).symm)
                        refine lv_icmp_eq (pc := 166) (tgt := 187) hx hb dX10_laysShares_166 (by decide) (fun hc => ?_) (fun hc => ?_)
                        · rw [if_pos hc] at hF
                          exact hJ62 _ _ _ _ _ P (lv_sub hl [0, 1, 3] rfl) hF
                        · rw [if_neg hc] at hF
                          refine lv_aload_n (pc := 169) hx hb dX10_laysShares_169 rfl (lv_at hl 0 rfl) ?_
                          refine r_gR (pc := 170) CX P hF fl_X10_57 dX10_laysShares_170 (fun a63 hF => ?_)
                          refine lv_aload_n (pc := 173) hx hb dX10_laysShares_173 rfl (lv_at hl 0 rfl) ?_
                          refine lv_iload (pc := 174) hx hb dX10_laysShares_174 (lv_at hl 3 rfl) ?_
                          refine r_cVi (pc := 176) (As := [.int v52]) (rest := [.ref (B + a63)]) CX P hl.1 hF kv_X10_103 (fun r h1 q => c_X10_parentOf l G B _ _ _ _ _ q) rfl rfl ⟨Nat.le_of_ble_eq_true rfl, Nat.le_of_ble_eq_true rfl⟩ (Nat.le_of_ble_eq_true rfl) ⟨Nat.le_of_ble_eq_true rfl, Nat.le_of_ble_eq_true rfl⟩ dX10_laysShares_176 (fun v64 h65 H locs P hF => ?_)
                          replace hF := un_i hF
                          refine r_aI (pc := 179) CX P hF dX10_laysShares_179 (fun v66 hF => ?_)
                          refine lv_iconst (pc := 180) (v := (-1)) hx hb dX10_laysShares_180 (by decide) ?_
                          refine lv_icmp_ne (pc := 181) (tgt := 187) hx hb dX10_laysShares_181 (by decide) (fun hc => ?_) (fun hc => ?_)
                          · rw [if_neg hc] at hF
                            exact hJ62 _ _ _ _ _ P (lv_sub hl [0, 1, 3] rfl) hF
                          · rw [if_pos hc] at hF
                            refine lv_goto (pc := 184) (tgt := 203) hx hb dX10_laysShares_184 (by decide) ?_
                            obtain ⟨v67, ev67, hF⟩ := bl_o hF
                            refine lv_iinc (pc := 203) (k := 3) (v := v67) hx hb dX10_laysShares_203 hl rfl ev67 (by decide) rfl (fun ls hl => ?_)
                            replace hl : lv_has ls 5 [(4, .int v67), (0, .ref (B + a0)), (1, .int vp1), (3, .int v51)] := hl
                            refine lv_goto (pc := 206) (tgt := 126) hx hb dX10_laysShares_206 (by decide) ?_
                            exact ih _ _ _ _ _ _ P (lv_sub hl [1, 2, 3, 0] rfl) (hI48 _ (Option.some.inj hF).symm)
            exact hL48 _ _ _ _ _ _ _ P (lv_sub hl [2, 3, 1, 0] rfl) hLp48
      exact hL43 _ _ _ _ _ _ P (lv_sub hl [1, 2, 0] rfl) hLp43
    have hL27 : ∀ (n : Nat) (v30 : Int32) (h31 : Hp) (H : Heap) (locs : List Loc) (ls : Array Slot), Pic G B h31 s H locs → lv_has ls 5 [(0, .ref (B + a0)), (1, .int vp1), (3, .int v30)] → loopF (fun x => F_X10_laysShares_L76 a0 vp1 x.1 x.2) n (v30, h31) = some r27 → W p l e (rmM 4 89 0 0) s m args below meth c H locs 0 0 Q (F0 m 76 ls []) := by
      intro n
      induction n with
      | zero => intro v30 h31 H locs ls P hl hq; cases hq
      | succ n ih =>
        intro v30 h31 H locs ls P hl hq
        obtain ⟨z27, hS27, hI27, hR27⟩ := loop_some hq
        have hF : F_X10_laysShares_L76 a0 vp1 v30 h31 = some z27 := hS27
        unfold F_X10_laysShares_L76 at hF
        refine lv_iload_n (pc := 76) hx hb dX10_laysShares_76 rfl (lv_at hl 2 rfl) ?_
        refine lv_bipush (pc := 77) (v := 12) hx hb dX10_laysShares_77 (by decide) ?_
        refine lv_icmp_ge (pc := 79) (tgt := 115) hx hb dX10_laysShares_79 (by decide) (fun hc => ?_) (fun hc => ?_)
        · rw [if_pos hc] at hF
          exact hX27 _ _ _ _ P (lv_sub hl [0, 1] rfl) (hR27 _ (Option.some.inj hF).symm)
        · rw [if_neg hc] at hF
          refine lv_aload_n (pc := 82) hx hb dX10_laysShares_82 rfl (lv_at hl 0 rfl) ?_
          refine lv_iload_n (pc := 83) hx hb dX10_laysShares_83 rfl (lv_at hl 2 rfl) ?_
          refine r_cVp (pc := 84) (As := [.int v30]) (rest := []) CX P hl.1 hF kv_X10_107 (fun r q => c_X10_isGroup l G B _ _ _ _ q) rfl rfl ⟨Nat.le_of_ble_eq_true rfl, Nat.le_of_ble_eq_true rfl⟩ (Nat.le_of_ble_eq_true rfl) ⟨Nat.le_of_ble_eq_true rfl, Nat.le_of_ble_eq_true rfl⟩ dX10_laysShares_84 (fun v32 H locs P hF => ?_)
          refine lv_if_eq (pc := 87) (tgt := 109) hx hb dX10_laysShares_87 (by decide) (fun hc => ?_) (fun hc => ?_)
          · rw [if_pos hc] at hF
            obtain ⟨v33, ev33, hF⟩ := bl_o hF
            refine lv_iinc (pc := 109) (k := 2) (v := v33) hx hb dX10_laysShares_109 hl rfl ev33 (by decide) rfl (fun ls hl => ?_)
            replace hl : lv_has ls 5 [(3, .int v33), (0, .ref (B + a0)), (1, .int vp1)] := hl
            refine lv_goto (pc := 112) (tgt := 76) hx hb dX10_laysShares_112 (by decide) ?_
            exact ih _ _ _ _ _ P (lv_sub hl [1, 2, 0] rfl) (hI27 _ (Option.some.inj hF).symm)
          · rw [if_neg hc] at hF
            refine lv_aload_n (pc := 90) hx hb dX10_laysShares_90 rfl (lv_at hl 0 rfl) ?_
            refine r_gR (pc := 91) CX P hF fl_X10_54 dX10_laysShares_91 (fun a34 hF => ?_)
            refine lv_aload_n (pc := 94) hx hb dX10_laysShares_94 rfl (lv_at hl 0 rfl) ?_
            refine lv_iload_n (pc := 95) hx hb dX10_laysShares_95 rfl (lv_at hl 2 rfl) ?_
            refine r_cVi (pc := 96) (As := [.int v30]) (rest := [.ref (B + a34)]) CX P hl.1 hF kv_X10_103 (fun r h1 q => c_X10_parentOf l G B _ _ _ _ _ q) rfl rfl ⟨Nat.le_of_ble_eq_true rfl, Nat.le_of_ble_eq_true rfl⟩ (Nat.le_of_ble_eq_true rfl) ⟨Nat.le_of_ble_eq_true rfl, Nat.le_of_ble_eq_true rfl⟩ dX10_laysShares_96 (fun v35 h36 H locs P hF => ?_)
            replace hF := un_i hF
            refine lv_dup2_11 (pc := 99) hx hb dX10_laysShares_99 rfl rfl ?_
            refine r_aI (pc := 100) CX P hF dX10_laysShares_100 (fun v37 hF => ?_)
            refine lv_aload_n (pc := 101) hx hb dX10_laysShares_101 rfl (lv_at hl 0 rfl) ?_
            refine r_gR (pc := 102) CX P hF fl_X10_51 dX10_laysShares_102 (fun a38 hF => ?_)
            refine lv_iload_n (pc := 105) hx hb dX10_laysShares_105 rfl (lv_at hl 2 rfl) ?_
            refine r_aI (pc := 106) CX P hF dX10_laysShares_106 (fun v39 hF => ?_)
            refine lv_iadd (pc := 107) hx hb dX10_laysShares_107 ?_
            refine r_sI (pc := 108) CX P hF dX10_laysShares_108 (fun h40 H locs P hF => ?_)
            obtain ⟨v41, ev41, hF⟩ := bl_o hF
            refine lv_iinc (pc := 109) (k := 2) (v := v41) hx hb dX10_laysShares_109 hl rfl ev41 (by decide) rfl (fun ls hl => ?_)
            replace hl : lv_has ls 5 [(3, .int v41), (0, .ref (B + a0)), (1, .int vp1)] := hl
            refine lv_goto (pc := 112) (tgt := 76) hx hb dX10_laysShares_112 (by decide) ?_
            exact ih _ _ _ _ _ P (lv_sub hl [1, 2, 0] rfl) (hI27 _ (Option.some.inj hF).symm)
    exact hL27 _ _ _ _ _ _ P (lv_sub hl [1, 2, 0] rfl) hLp27
  have hL2 : ∀ (n : Nat) (v6 : Int32) (h7 : Hp) (H : Heap) (locs : List Loc) (ls : Array Slot), Pic G B h7 s H locs → lv_has ls 5 [(0, .ref (B + a0)), (1, .int vp1), (2, .int vp2), (3, .int v6)] → loopF (fun x => F_X10_laysShares_L6 a0 vp1 vp2 x.1 x.2) n (v6, h7) = some r2 → W p l e (rmM 4 89 0 0) s m args below meth c H locs 0 0 Q (F0 m 6 ls []) := by
    intro n
    induction n with
    | zero => intro v6 h7 H locs ls P hl hq; cases hq
    | succ n ih =>
      intro v6 h7 H locs ls P hl hq
      obtain ⟨z2, hS2, hI2, hR2⟩ := loop_some hq
      have hF : F_X10_laysShares_L6 a0 vp1 vp2 v6 h7 = some z2 := hS2
      unfold F_X10_laysShares_L6 at hF
      refine lv_iload_n (pc := 6) hx hb dX10_laysShares_6 rfl (lv_at hl 3 rfl) ?_
      refine lv_bipush (pc := 7) (v := 12) hx hb dX10_laysShares_7 (by decide) ?_
      refine lv_icmp_ge (pc := 9) (tgt := 74) hx hb dX10_laysShares_9 (by decide) (fun hc => ?_) (fun hc => ?_)
      · rw [if_pos hc] at hF
        exact hX2 _ _ _ _ P (lv_sub hl [0, 1] rfl) (hR2 _ (Option.some.inj hF).symm)
      · rw [if_neg hc] at hF
        refine lv_aload_n (pc := 12) hx hb dX10_laysShares_12 rfl (lv_at hl 0 rfl) ?_
        refine r_gR (pc := 13) CX P hF fl_X10_51 dX10_laysShares_13 (fun a8 hF => ?_)
        refine lv_iload_n (pc := 16) hx hb dX10_laysShares_16 rfl (lv_at hl 3 rfl) ?_
        refine lv_aload_n (pc := 17) hx hb dX10_laysShares_17 rfl (lv_at hl 0 rfl) ?_
        refine lv_iload_n (pc := 18) hx hb dX10_laysShares_18 rfl (lv_at hl 3 rfl) ?_
        refine r_cVp (pc := 19) (As := [.int v6]) (rest := [.int v6, .ref (B + a8)]) CX P hl.1 hF kv_X10_107 (fun r q => c_X10_isGroup l G B _ _ _ _ q) rfl rfl ⟨Nat.le_of_ble_eq_true rfl, Nat.le_of_ble_eq_true rfl⟩ (Nat.le_of_ble_eq_true rfl) ⟨Nat.le_of_ble_eq_true rfl, Nat.le_of_ble_eq_true rfl⟩ dX10_laysShares_19 (fun v9 H locs P hF => ?_)
        obtain ⟨j10, hA10, hK10⟩ := bd_some hF
        have hJ10 : ∀ (v18 : Int32) (h19 : Hp) (H : Heap) (locs : List Loc) (ls : Array Slot), Pic G B h19 s H locs → lv_has ls 5 [(0, .ref (B + a0)), (1, .int vp1), (2, .int vp2), (3, .int v6)] → (v18, h19) = j10 → W p l e (rmM 4 89 0 0) s m args below meth c H locs 0 0 Q (F0 m 53 ls [.int v18, .int v6, .ref (B + a8)]) := by
          intro v18 h19 H locs ls P hl ej
          subst ej
          have hF := hK10
          replace hF := bl_i hF
          replace hF := bl_i hF
          try dsimp only at hF
          refine r_sI (pc := 53) CX P hF dX10_laysShares_53 (fun h20 H locs P hF => ?_)
          refine lv_aload_n (pc := 54) hx hb dX10_laysShares_54 rfl (lv_at hl 0 rfl) ?_
          refine r_gR (pc := 55) CX P hF fl_X10_54 dX10_laysShares_55 (fun a21 hF => ?_)
          refine lv_iload_n (pc := 58) hx hb dX10_laysShares_58 rfl (lv_at hl 3 rfl) ?_
          refine lv_iconst (pc := 59) (v := 0) hx hb dX10_laysShares_59 (by decide) ?_
          refine r_sI (pc := 60) CX P hF dX10_laysShares_60 (fun h22 H locs P hF => ?_)
          refine lv_aload_n (pc := 61) hx hb dX10_laysShares_61 rfl (lv_at hl 0 rfl) ?_
          refine r_gR (pc := 62) CX P hF fl_X10_57 dX10_laysShares_62 (fun a23 hF => ?_)
          refine lv_iload_n (pc := 65) hx hb dX10_laysShares_65 rfl (lv_at hl 3 rfl) ?_
          refine lv_iconst (pc := 66) (v := (-1)) hx hb dX10_laysShares_66 (by decide) ?_
          refine r_sI (pc := 67) CX P hF dX10_laysShares_67 (fun h24 H locs P hF => ?_)
          obtain ⟨v25, ev25, hF⟩ := bl_o hF
          refine lv_iinc (pc := 68) (k := 3) (v := v25) hx hb dX10_laysShares_68 hl rfl ev25 (by decide) rfl (fun ls hl => ?_)
          replace hl : lv_has ls 5 [(3, .int v25), (0, .ref (B + a0)), (1, .int vp1), (2, .int vp2)] := hl
          refine lv_goto (pc := 71) (tgt := 6) hx hb dX10_laysShares_71 (by decide) ?_
          exact ih _ _ _ _ _ P (lv_sub hl [1, 2, 3, 0] rfl) (hI2 _ (Option.some.inj hF).symm)
        replace hF := hA10
        refine lv_if_eq (pc := 22) (tgt := 52) hx hb dX10_laysShares_22 (by decide) (fun hc => ?_) (fun hc => ?_)
        · rw [if_pos hc] at hF
          refine lv_iconst (pc := 52) (v := 0) hx hb dX10_laysShares_52 (by decide) ?_
          exact hJ10 _ _ _ _ _ P (lv_sub hl [0, 1, 2, 3] rfl) (Option.some.inj hF)
        · rw [if_neg hc] at hF
          refine lv_aload_n (pc := 25) hx hb dX10_laysShares_25 rfl (lv_at hl 0 rfl) ?_
          refine lv_iload_n (pc := 26) hx hb dX10_laysShares_26 rfl (lv_at hl 3 rfl) ?_
          refine lv_iload_n (pc := 27) hx hb dX10_laysShares_27 rfl (lv_at hl 2 rfl) ?_
          obtain ⟨j11, hA11, hK11⟩ := bd_some hF
          have hJ11 : ∀ (v12 : Int32) (H : Heap) (locs : List Loc) (ls : Array Slot), Pic G B h7 s H locs → lv_has ls 5 [(0, .ref (B + a0)), (1, .int vp1), (2, .int vp2), (3, .int v6)] → v12 = j11 → W p l e (rmM 4 89 0 0) s m args below meth c H locs 0 0 Q (F0 m 36 ls [.int v12, .int v6, .ref (B + a0), .int v6, .ref (B + a8)]) := by
            intro v12 H locs ls P hl ej
            subst ej
            have hF := hK11
            refine lv_iconst (pc := 36) (v := 0) hx hb dX10_laysShares_36 (by decide) ?_
            refine r_cVi (pc := 37) (As := [.int v6, .int v12, .int 0]) (rest := [.int v6, .ref (B + a8)]) CX P hl.1 hF kv_X10_99 (fun r h1 q => c_X10_of l G B _ _ _ _ _ _ _ q) rfl rfl ⟨Nat.le_of_ble_eq_true rfl, Nat.le_of_ble_eq_true rfl⟩ (Nat.le_of_ble_eq_true rfl) ⟨Nat.le_of_ble_eq_true rfl, Nat.le_of_ble_eq_true rfl⟩ dX10_laysShares_37 (fun v13 h14 H locs P hF => ?_)
            replace hF := un_i hF
            refine lv_aload_n (pc := 40) hx hb dX10_laysShares_40 rfl (lv_at hl 0 rfl) ?_
            refine r_gR (pc := 41) CX P hF fl_X10_39 dX10_laysShares_41 (fun a15 hF => ?_)
            refine lv_iload_n (pc := 44) hx hb dX10_laysShares_44 rfl (lv_at hl 3 rfl) ?_
            refine r_aI (pc := 45) CX P hF dX10_laysShares_45 (fun v16 hF => ?_)
            refine r_cSp (pc := 46) (As := [.int v13, .int v16]) (rest := [.int v6, .ref (B + a8)]) CX P hl.1 hF ks_X10_137 (fun r q => c_X10_lesser l G B _ _ _ _ q) rfl rfl ⟨Nat.le_of_ble_eq_true rfl, Nat.le_of_ble_eq_true rfl⟩ (Nat.le_of_ble_eq_true rfl) ⟨Nat.le_of_ble_eq_true rfl, Nat.le_of_ble_eq_true rfl⟩ dX10_laysShares_46 (fun v17 H locs P hF => ?_)
            refine lv_goto (pc := 49) (tgt := 53) hx hb dX10_laysShares_49 (by decide) ?_
            exact hJ10 _ _ _ _ _ P (lv_sub hl [0, 1, 2, 3] rfl) (Option.some.inj hF)
          replace hF := hA11
          refine lv_if_ne (pc := 28) (tgt := 35) hx hb dX10_laysShares_28 (by decide) (fun hc => ?_) (fun hc => ?_)
          · rw [if_neg hc] at hF
            refine lv_iconst (pc := 35) (v := 0) hx hb dX10_laysShares_35 (by decide) ?_
            exact hJ11 _ _ _ _ P (lv_sub hl [0, 1, 2, 3] rfl) (Option.some.inj hF)
          · rw [if_pos hc] at hF
            refine lv_iconst (pc := 31) (v := 1) hx hb dX10_laysShares_31 (by decide) ?_
            refine lv_goto (pc := 32) (tgt := 36) hx hb dX10_laysShares_32 (by decide) ?_
            exact hJ11 _ _ _ _ P (lv_sub hl [0, 1, 2, 3] rfl) (Option.some.inj hF)
  exact hL2 _ _ _ _ _ _ P (lv_sub hl [1, 2, 3, 0] rfl) hLp2
