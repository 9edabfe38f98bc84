def F_X4_init (h : Hp) (a0 : Nat) : Option (Hp) :=
(nwA h 14 11).bind fun h1 =>
(pR h1 a0 4 2 (mN h)).bind fun h2 =>
(gR h2 a0 4 2).bind fun a3 =>
bl (nwO h2 8) fun h4 =>
(F_X8_init h4 (mN h2)).bind fun h5 =>
(sR h5 a3 0 (mN h2)).bind fun h6 =>
(gR h6 a0 4 2).bind fun a8 =>
bl (nwO h6 8) fun h9 =>
(F_X8_init h9 (mN h6)).bind fun h10 =>
(sR h10 a8 1 (mN h6)).bind fun h11 =>
(gR h11 a0 4 2).bind fun a13 =>
bl (nwO h11 8) fun h14 =>
(F_X8_init h14 (mN h11)).bind fun h15 =>
(sR h15 a13 2 (mN h11)).bind fun h16 =>
(gR h16 a0 4 2).bind fun a18 =>
bl (nwO h16 8) fun h19 =>
(F_X8_init h19 (mN h16)).bind fun h20 =>
(sR h20 a18 3 (mN h16)).bind fun h21 =>
(gR h21 a0 4 2).bind fun a23 =>
bl (nwO h21 8) fun h24 =>
(F_X8_init h24 (mN h21)).bind fun h25 =>
(sR h25 a23 4 (mN h21)).bind fun h26 =>
(gR h26 a0 4 2).bind fun a28 =>
bl (nwO h26 8) fun h29 =>
(F_X8_init h29 (mN h26)).bind fun h30 =>
(sR h30 a28 5 (mN h26)).bind fun h31 =>
(gR h31 a0 4 2).bind fun a33 =>
bl (nwO h31 8) fun h34 =>
(F_X8_init h34 (mN h31)).bind fun h35 =>
(sR h35 a33 6 (mN h31)).bind fun h36 =>
(gR h36 a0 4 2).bind fun a38 =>
bl (nwO h36 8) fun h39 =>
(F_X8_init h39 (mN h36)).bind fun h40 =>
(sR h40 a38 7 (mN h36)).bind fun h41 =>
(gR h41 a0 4 2).bind fun a43 =>
bl (nwO h41 8) fun h44 =>
(F_X8_init h44 (mN h41)).bind fun h45 =>
(sR h45 a43 8 (mN h41)).bind fun h46 =>
(gR h46 a0 4 2).bind fun a48 =>
bl (nwO h46 8) fun h49 =>
(F_X8_init h49 (mN h46)).bind fun h50 =>
(sR h50 a48 9 (mN h46)).bind fun h51 =>
(gR h51 a0 4 2).bind fun a53 =>
bl (nwO h51 8) fun h54 =>
(F_X8_init h54 (mN h51)).bind fun h55 =>
(sR h55 a53 10 (mN h51)).bind fun h56 =>
some h56
set_option maxRecDepth 100000 in
set_option maxHeartbeats 4000000 in
theorem c_X4_init (l : Launch) (G : GG) (B : Nat) (h : Hp) (a0 : Nat) (hr : Hp) (hF : F_X4_init h a0 = some hr) : CV l yX4_init cX4_init 2 3 79 628 6765 G B h [.ref (B + a0)] hr := by
  refine ent_v rfl (Nat.le_of_ble_eq_true rfl) ?_
  intro p e s m args below meth c ls Q CX hnm hret P hl
  have CX : Cxt p m c cX4_init 2 s args RX4 G B := CX
  obtain ⟨⟨hx, hb, hml, hown, hts⟩, -, -⟩ := id CX
  replace hl : lv_has ls 2 [(0, .ref (B + a0))] := hl
  generalize s.heap = H at P ⊢
  generalize ([] : List Loc) = locs at P ⊢
  unfold F_X4_init at hF
  refine lv_aload_n (pc := 0) hx hb dX4_init_0 rfl (lv_at hl 0 rfl) ?_
  refine r_obj (pc := 1) CX hl.1 tw_253 tw_23 tw_24 (Nat.le_of_ble_eq_true rfl) (Nat.le_of_ble_eq_true rfl) dX4_init_1 ?_
  refine lv_aload_n (pc := 4) hx hb dX4_init_4 rfl (lv_at hl 0 rfl) ?_
  refine lv_bipush (pc := 5) (v := 11) hx hb dX4_init_5 (by decide) ?_
  refine r_nwW (pc := 7) (N' := 11) CX P hF tw_254 (by decide) (Nat.le_of_ble_eq_true rfl) (Nat.le_of_ble_eq_true rfl) dX4_init_7 (fun h1 H eN P hF => ?_)
  refine r_pR (pc := 10) CX P hnm hF fl_X4_13 (fun q hq => by cases hq; rfl) dX4_init_10 (fun h2 H locs P hF => ?_)
  refine lv_iconst (pc := 13) (v := 0) hx hb dX4_init_13 (by decide) ?_
  refine lv_istore_n (pc := 14) hx hb dX4_init_14 rfl hl (by decide) rfl (fun ls hl => ?_)
  replace hl : lv_has ls 2 [(1, .int 0), (0, .ref (B + a0))] := hl
  refine lv_iload_n (pc := 15) hx hb dX4_init_15 rfl (lv_at hl 0 rfl) ?_
  refine lv_bipush (pc := 16) (v := 11) hx hb dX4_init_16 (by decide) ?_
  refine lv_icmp_ge (pc := 18) (tgt := 40) hx hb dX4_init_18 (by decide) (fun hc => absurd hc (by decide)) (fun _ => ?_)
  refine lv_aload_n (pc := 21) hx hb dX4_init_21 rfl (lv_at hl 1 rfl) ?_
  refine r_gR (pc := 22) CX P hF fl_X4_13 dX4_init_22 (fun a3 hF => ?_)
  refine lv_iload_n (pc := 25) hx hb dX4_init_25 rfl (lv_at hl 0 rfl) ?_
  refine r_nwO (pc := 26) CX P hF cl_X4_11 (Nat.le_of_ble_eq_true rfl) (Nat.le_of_ble_eq_true rfl) dX4_init_26 (fun h4 H eN P hF => ?_)
  refine lv_dup (pc := 29) hx hb dX4_init_29 rfl ?_
  refine r_cO (pc := 30) (As := []) (rest := [.ref (B + (mN h2)), .int 0, .ref (B + a3)]) CX P hl.1 hF ko_X4_17 (fun h1 q => c_X8_init l G B _ _ _ q) rfl rfl ⟨Nat.le_of_ble_eq_true rfl, Nat.le_of_ble_eq_true rfl⟩ (Nat.le_of_ble_eq_true rfl) ⟨Nat.le_of_ble_eq_true rfl, Nat.le_of_ble_eq_true rfl⟩ dX4_init_30 (fun h5 H locs P hF => ?_)
  refine r_sR (pc := 33) CX P hF dX4_init_33 (fun h6 H locs P hF => ?_)
  refine lv_iinc (pc := 34) (k := 0) (v := 1) hx hb dX4_init_34 hl rfl (by decide) (by decide) rfl (fun ls hl => ?_)
  replace hl : lv_has ls 2 [(1, .int 1), (0, .ref (B + a0))] := hl
  refine lv_goto (pc := 37) (tgt := 15) hx hb dX4_init_37 (by decide) ?_
  refine lv_iload_n (pc := 15) hx hb dX4_init_15 rfl (lv_at hl 0 rfl) ?_
  refine lv_bipush (pc := 16) (v := 11) hx hb dX4_init_16 (by decide) ?_
  refine lv_icmp_ge (pc := 18) (tgt := 40) hx hb dX4_init_18 (by decide) (fun hc => absurd hc (by decide)) (fun _ => ?_)
  refine lv_aload_n (pc := 21) hx hb dX4_init_21 rfl (lv_at hl 1 rfl) ?_
  refine r_gR (pc := 22) CX P hF fl_X4_13 dX4_init_22 (fun a8 hF => ?_)
  refine lv_iload_n (pc := 25) hx hb dX4_init_25 rfl (lv_at hl 0 rfl) ?_
  refine r_nwO (pc := 26) CX P hF cl_X4_11 (Nat.le_of_ble_eq_true rfl) (Nat.le_of_ble_eq_true rfl) dX4_init_26 (fun h9 H eN P hF => ?_)
  refine lv_dup (pc := 29) hx hb dX4_init_29 rfl ?_
  refine r_cO (pc := 30) (As := []) (rest := [.ref (B + (mN h6)), .int 1, .ref (B + a8)]) CX P hl.1 hF ko_X4_17 (fun h1 q => c_X8_init l G B _ _ _ q) rfl rfl ⟨Nat.le_of_ble_eq_true rfl, Nat.le_of_ble_eq_true rfl⟩ (Nat.le_of_ble_eq_true rfl) ⟨Nat.le_of_ble_eq_true rfl, Nat.le_of_ble_eq_true rfl⟩ dX4_init_30 (fun h10 H locs P hF => ?_)
  refine r_sR (pc := 33) CX P hF dX4_init_33 (fun h11 H locs P hF => ?_)
  refine lv_iinc (pc := 34) (k := 0) (v := 2) hx hb dX4_init_34 hl rfl (by decide) (by decide) rfl (fun ls hl => ?_)
  replace hl : lv_has ls 2 [(1, .int 2), (0, .ref (B + a0))] := hl
  refine lv_goto (pc := 37) (tgt := 15) hx hb dX4_init_37 (by decide) ?_
  refine lv_iload_n (pc := 15) hx hb dX4_init_15 rfl (lv_at hl 0 rfl) ?_
  refine lv_bipush (pc := 16) (v := 11) hx hb dX4_init_16 (by decide) ?_
  refine lv_icmp_ge (pc := 18) (tgt := 40) hx hb dX4_init_18 (by decide) (fun hc => absurd hc (by decide)) (fun _ => ?_)
  refine lv_aload_n (pc := 21) hx hb dX4_init_21 rfl (lv_at hl 1 rfl) ?_
  refine r_gR (pc := 22) CX P hF fl_X4_13 dX4_init_22 (fun a13 hF => ?_)
  refine lv_iload_n (pc := 25) hx hb dX4_init_25 rfl (lv_at hl 0 rfl) ?_
  refine r_nwO (pc := 26) CX P hF cl_X4_11 (Nat.le_of_ble_eq_true rfl) (Nat.le_of_ble_eq_true rfl) dX4_init_26 (fun h14 H eN P hF => ?_)
  refine lv_dup (pc := 29) hx hb dX4_init_29 rfl ?_
  refine r_cO (pc := 30) (As := []) (rest := [.ref (B + (mN h11)), .int 2, .ref (B + a13)]) CX P hl.1 hF ko_X4_17 (fun h1 q => c_X8_init l G B _ _ _ q) rfl rfl ⟨Nat.le_of_ble_eq_true rfl, Nat.le_of_ble_eq_true rfl⟩ (Nat.le_of_ble_eq_true rfl) ⟨Nat.le_of_ble_eq_true rfl, Nat.le_of_ble_eq_true rfl⟩ dX4_init_30 (fun h15 H locs P hF => ?_)
  refine r_sR (pc := 33) CX P hF dX4_init_33 (fun h16 H locs P hF => ?_)
  refine lv_iinc (pc := 34) (k := 0) (v := 3) hx hb dX4_init_34 hl rfl (by decide) (by decide) rfl (fun ls hl => ?_)
  replace hl : lv_has ls 2 [(1, .int 3), (0, .ref (B + a0))] := hl
  refine lv_goto (pc := 37) (tgt := 15) hx hb dX4_init_37 (by decide) ?_
  refine lv_iload_n (pc := 15) hx hb dX4_init_15 rfl (lv_at hl 0 rfl) ?_
  refine lv_bipush (pc := 16) (v := 11) hx hb dX4_init_16 (by decide) ?_
  refine lv_icmp_ge (pc := 18) (tgt := 40) hx hb dX4_init_18 (by decide) (fun hc => absurd hc (by decide)) (fun _ => ?_)
  refine lv_aload_n (pc := 21) hx hb dX4_init_21 rfl (lv_at hl 1 rfl) ?_
  refine r_gR (pc := 22) CX P hF fl_X4_13 dX4_init_22 (fun a18 hF => ?_)
  refine lv_iload_n (pc := 25) hx hb dX4_init_25 rfl (lv_at hl 0 rfl) ?_
  refine r_nwO (pc := 26) CX P hF cl_X4_11 (Nat.le_of_ble_eq_true rfl) (Nat.le_of_ble_eq_true rfl) dX4_init_26 (fun h19 H eN P hF => ?_)
  refine lv_dup (pc := 29) hx hb dX4_init_29 rfl ?_
  refine r_cO (pc := 30) (As := []) (rest := [.ref (B + (mN h16)), .int 3, .ref (B + a18)]) CX P hl.1 hF ko_X4_17 (fun h1 q => c_X8_init l G B _ _ _ q) rfl rfl ⟨Nat.le_of_ble_eq_true rfl, Nat.le_of_ble_eq_true rfl⟩ (Nat.le_of_ble_eq_true rfl) ⟨Nat.le_of_ble_eq_true rfl, Nat.le_of_ble_eq_true rfl⟩ dX4_init_30 (fun h20 H locs P hF => ?_)
  refine r_sR (pc := 33) CX P hF dX4_init_33 (fun h21 H locs P hF => ?_)
  refine lv_iinc (pc := 34) (k := 0) (v := 4) hx hb dX4_init_34 hl rfl (by decide) (by decide) rfl (fun ls hl => ?_)
  replace hl : lv_has ls 2 [(1, .int 4), (0, .ref (B + a0))] := hl
  refine lv_goto (pc := 37) (tgt := 15) hx hb dX4_init_37 (by decide) ?_
  refine lv_iload_n (pc := 15) hx hb dX4_init_15 rfl (lv_at hl 0 rfl) ?_
  refine lv_bipush (pc := 16) (v := 11) hx hb dX4_init_16 (by decide) ?_
  refine lv_icmp_ge (pc := 18) (tgt := 40) hx hb dX4_init_18 (by decide) (fun hc => absurd hc (by decide)) (fun _ => ?_)
  refine lv_aload_n (pc := 21) hx hb dX4_init_21 rfl (lv_at hl 1 rfl) ?_
  refine r_gR (pc := 22) CX P hF fl_X4_13 dX4_init_22 (fun a23 hF => ?_)
  refine lv_iload_n (pc := 25) hx hb dX4_init_25 rfl (lv_at hl 0 rfl) ?_
  refine r_nwO (pc := 26) CX P hF cl_X4_11 (Nat.le_of_ble_eq_true rfl) (Nat.le_of_ble_eq_true rfl) dX4_init_26 (fun h24 H eN P hF => ?_)
  refine lv_dup (pc := 29) hx hb dX4_init_29 rfl ?_
  refine r_cO (pc := 30) (As := []) (rest := [.ref (B + (mN h21)), .int 4, .ref (B + a23)]) CX P hl.1 hF ko_X4_17 (fun h1 q => c_X8_init l G B _ _ _ q) rfl rfl ⟨Nat.le_of_ble_eq_true rfl, Nat.le_of_ble_eq_true rfl⟩ (Nat.le_of_ble_eq_true rfl) ⟨Nat.le_of_ble_eq_true rfl, Nat.le_of_ble_eq_true rfl⟩ dX4_init_30 (fun h25 H locs P hF => ?_)
  refine r_sR (pc := 33) CX P hF dX4_init_33 (fun h26 H locs P hF => ?_)
  refine lv_iinc (pc := 34) (k := 0) (v := 5) hx hb dX4_init_34 hl rfl (by decide) (by decide) rfl (fun ls hl => ?_)
  replace hl : lv_has ls 2 [(1, .int 5), (0, .ref (B + a0))] := hl
  refine lv_goto (pc := 37) (tgt := 15) hx hb dX4_init_37 (by decide) ?_
  refine lv_iload_n (pc := 15) hx hb dX4_init_15 rfl (lv_at hl 0 rfl) ?_
  refine lv_bipush (pc := 16) (v := 11) hx hb dX4_init_16 (by decide) ?_
  refine lv_icmp_ge (pc := 18) (tgt := 40) hx hb dX4_init_18 (by decide) (fun hc => absurd hc (by decide)) (fun _ => ?_)
  refine lv_aload_n (pc := 21) hx hb dX4_init_21 rfl (lv_at hl 1 rfl) ?_
  refine r_gR (pc := 22) CX P hF fl_X4_13 dX4_init_22 (fun a28 hF => ?_)
  refine lv_iload_n (pc := 25) hx hb dX4_init_25 rfl (lv_at hl 0 rfl) ?_
  refine r_nwO (pc := 26) CX P hF cl_X4_11 (Nat.le_of_ble_eq_true rfl) (Nat.le_of_ble_eq_true rfl) dX4_init_26 (fun h29 H eN P hF => ?_)
  refine lv_dup (pc := 29) hx hb dX4_init_29 rfl ?_
  refine r_cO (pc := 30) (As := []) (rest := [.ref (B + (mN h26)), .int 5, .ref (B + a28)]) CX P hl.1 hF ko_X4_17 (fun h1 q => c_X8_init l G B _ _ _ q) rfl rfl ⟨Nat.le_of_ble_eq_true rfl, Nat.le_of_ble_eq_true rfl⟩ (Nat.le_of_ble_eq_true rfl) ⟨Nat.le_of_ble_eq_true rfl, Nat.le_of_ble_eq_true rfl⟩ dX4_init_30 (fun h30 H locs P hF => ?_)
  refine r_sR (pc := 33) CX P hF dX4_init_33 (fun h31 H locs P hF => ?_)
  refine lv_iinc (pc := 34) (k := 0) (v := 6) hx hb dX4_init_34 hl rfl (by decide) (by decide) rfl (fun ls hl => ?_)
  replace hl : lv_has ls 2 [(1, .int 6), (0, .ref (B + a0))] := hl
  refine lv_goto (pc := 37) (tgt := 15) hx hb dX4_init_37 (by decide) ?_
  refine lv_iload_n (pc := 15) hx hb dX4_init_15 rfl (lv_at hl 0 rfl) ?_
  refine lv_bipush (pc := 16) (v := 11) hx hb dX4_init_16 (by decide) ?_
  refine lv_icmp_ge (pc := 18) (tgt := 40) hx hb dX4_init_18 (by decide) (fun hc => absurd hc (by decide)) (fun _ => ?_)
  refine lv_aload_n (pc := 21) hx hb dX4_init_21 rfl (lv_at hl 1 rfl) ?_
  refine r_gR (pc := 22) CX P hF fl_X4_13 dX4_init_22 (fun a33 hF => ?_)
  refine lv_iload_n (pc := 25) hx hb dX4_init_25 rfl (lv_at hl 0 rfl) ?_
  refine r_nwO (pc := 26) CX P hF cl_X4_11 (Nat.le_of_ble_eq_true rfl) (Nat.le_of_ble_eq_true rfl) dX4_init_26 (fun h34 H eN P hF => ?_)
  refine lv_dup (pc := 29) hx hb dX4_init_29 rfl ?_
  refine r_cO (pc := 30) (As := []) (rest := [.ref (B + (mN h31)), .int 6, .ref (B + a33)]) CX P hl.1 hF ko_X4_17 (fun h1 q => c_X8_init l G B _ _ _ q) rfl rfl ⟨Nat.le_of_ble_eq_true rfl, Nat.le_of_ble_eq_true rfl⟩ (Nat.le_of_ble_eq_true rfl) ⟨Nat.le_of_ble_eq_true rfl, Nat.le_of_ble_eq_true rfl⟩ dX4_init_30 (fun h35 H locs P hF => ?_)
  refine r_sR (pc := 33) CX P hF dX4_init_33 (fun h36 H locs P hF => ?_)
  refine lv_iinc (pc := 34) (k := 0) (v := 7) hx hb dX4_init_34 hl rfl (by decide) (by decide) rfl (fun ls hl => ?_)
  replace hl : lv_has ls 2 [(1, .int 7), (0, .ref (B + a0))] := hl
  refine lv_goto (pc := 37) (tgt := 15) hx hb dX4_init_37 (by decide) ?_
  refine lv_iload_n (pc := 15) hx hb dX4_init_15 rfl (lv_at hl 0 rfl) ?_
  refine lv_bipush (pc := 16) (v := 11) hx hb dX4_init_16 (by decide) ?_
  refine lv_icmp_ge (pc := 18) (tgt := 40) hx hb dX4_init_18 (by decide) (fun hc => absurd hc (by decide)) (fun _ => ?_)
  refine lv_aload_n (pc := 21) hx hb dX4_init_21 rfl (lv_at hl 1 rfl) ?_
  refine r_gR (pc := 22) CX P hF fl_X4_13 dX4_init_22 (fun a38 hF => ?_)
  refine lv_iload_n (pc := 25) hx hb dX4_init_25 rfl (lv_at hl 0 rfl) ?_
  refine r_nwO (pc := 26) CX P hF cl_X4_11 (Nat.le_of_ble_eq_true rfl) (Nat.le_of_ble_eq_true rfl) dX4_init_26 (fun h39 H eN P hF => ?_)
  refine lv_dup (pc := 29) hx hb dX4_init_29 rfl ?_
  refine r_cO (pc := 30) (As := []) (rest := [.ref (B + (mN h36)), .int 7, .ref (B + a38)]) CX P hl.1 hF ko_X4_17 (fun h1 q => c_X8_init l G B _ _ _ q) rfl rfl ⟨Nat.le_of_ble_eq_true rfl, Nat.le_of_ble_eq_true rfl⟩ (Nat.le_of_ble_eq_true rfl) ⟨Nat.le_of_ble_eq_true rfl, Nat.le_of_ble_eq_true rfl⟩ dX4_init_30 (fun h40 H locs P hF => ?_)
  refine r_sR (pc := 33) CX P hF dX4_init_33 (fun h41 H locs P hF => ?_)
  refine lv_iinc (pc := 34) (k := 0) (v := 8) hx hb dX4_init_34 hl rfl (by decide) (by decide) rfl (fun ls hl => ?_)
  replace hl : lv_has ls 2 [(1, .int 8), (0, .ref (B + a0))] := hl
  refine lv_goto (pc := 37) (tgt := 15) hx hb dX4_init_37 (by decide) ?_
  refine lv_iload_n (pc := 15) hx hb dX4_init_15 rfl (lv_at hl 0 rfl) ?_
  refine lv_bipush (pc := 16) (v := 11) hx hb dX4_init_16 (by decide) ?_
  refine lv_icmp_ge (pc := 18) (tgt := 40) hx hb dX4_init_18 (by decide) (fun hc => absurd hc (by decide)) (fun _ => ?_)
  refine lv_aload_n (pc := 21) hx hb dX4_init_21 rfl (lv_at hl 1 rfl) ?_
  refine r_gR (pc := 22) CX P hF fl_X4_13 dX4_init_22 (fun a43 hF => ?_)
  refine lv_iload_n (pc := 25) hx hb dX4_init_25 rfl (lv_at hl 0 rfl) ?_
  refine r_nwO (pc := 26) CX P hF cl_X4_11 (Nat.le_of_ble_eq_true rfl) (Nat.le_of_ble_eq_true rfl) dX4_init_26 (fun h44 H eN P hF => ?_)
  refine lv_dup (pc := 29) hx hb dX4_init_29 rfl ?_
  refine r_cO (pc := 30) (As := []) (rest := [.ref (B + (mN h41)), .int 8, .ref (B + a43)]) CX P hl.1 hF ko_X4_17 (fun h1 q => c_X8_init l G B _ _ _ q) rfl rfl ⟨Nat.le_of_ble_eq_true rfl, Nat.le_of_ble_eq_true rfl⟩ (Nat.le_of_ble_eq_true rfl) ⟨Nat.le_of_ble_eq_true rfl, Nat.le_of_ble_eq_true rfl⟩ dX4_init_30 (fun h45 H locs P hF => ?_)
  refine r_sR (pc := 33) CX P hF dX4_init_33 (fun h46 H locs P hF => ?_)
  refine lv_iinc (pc := 34) (k := 0) (v := 9) hx hb dX4_init_34 hl rfl (by decide) (by decide) rfl (fun ls hl => ?_)
  replace hl : lv_has ls 2 [(1, .int 9), (0, .ref (B + a0))] := hl
  refine lv_goto (pc := 37) (tgt := 15) hx hb dX4_init_37 (by decide) ?_
  refine lv_iload_n (pc := 15) hx hb dX4_init_15 rfl (lv_at hl 0 rfl) ?_
  refine lv_bipush (pc := 16) (v := 11) hx hb dX4_init_16 (by decide) ?_
  refine lv_icmp_ge (pc := 18) (tgt := 40) hx hb dX4_init_18 (by decide) (fun hc => absurd hc (by decide)) (fun _ => ?_)
  refine lv_aload_n (pc := 21) hx hb dX4_init_21 rfl (lv_at hl 1 rfl) ?_
  refine r_gR (pc := 22) CX P hF fl_X4_13 dX4_init_22 (fun a48 hF => ?_)
  refine lv_iload_n (pc := 25) hx hb dX4_init_25 rfl (lv_at hl 0 rfl) ?_
  refine r_nwO (pc := 26) CX P hF cl_X4_11 (Nat.le_of_ble_eq_true rfl) (Nat.le_of_ble_eq_true rfl) dX4_init_26 (fun h49 H eN P hF => ?_)
  refine lv_dup (pc := 29) hx hb dX4_init_29 rfl ?_
  refine r_cO (pc := 30) (As := []) (rest := [.ref (B + (mN h46)), .int 9, .ref (B + a48)]) CX P hl.1 hF ko_X4_17 (fun h1 q => c_X8_init l G B _ _ _ q) rfl rfl ⟨Nat.le_of_ble_eq_true rfl, Nat.le_of_ble_eq_true rfl⟩ (Nat.le_of_ble_eq_true rfl) ⟨Nat.le_of_ble_eq_true rfl, Nat.le_of_ble_eq_true rfl⟩ dX4_init_30 (fun h50 H locs P hF => ?_)
  refine r_sR (pc := 33) CX P hF dX4_init_33 (fun h51 H locs P hF => ?_)
  refine lv_iinc (pc := 34) (k := 0) (v := 10) hx hb dX4_init_34 hl rfl (by decide) (by decide) rfl (fun ls hl => ?_)
  replace hl : lv_has ls 2 [(1, .int 10), (0, .ref (B + a0))] := hl
  refine lv_goto (pc := 37) (tgt := 15) hx hb dX4_init_37 (by decide) ?_
  refine lv_iload_n (pc := 15) hx hb dX4_init_15 rfl (lv_at hl 0 rfl) ?_
  refine lv_bipush (pc := 16) (v := 11) hx hb dX4_init_16 (by decide) ?_
  refine lv_icmp_ge (pc := 18) (tgt := 40) hx hb dX4_init_18 (by decide) (fun hc => absurd hc (by decide)) (fun _ => ?_)
  refine lv_aload_n (pc := 21) hx hb dX4_init_21 rfl (lv_at hl 1 rfl) ?_
  refine r_gR (pc := 22) CX P hF fl_X4_13 dX4_init_22 (fun a53 hF => ?_)
  refine lv_iload_n (pc := 25) hx hb dX4_init_25 rfl (lv_at hl 0 rfl) ?_
  refine r_nwO (pc := 26) CX P hF cl_X4_11 (Nat.le_of_ble_eq_true rfl) (Nat.le_of_ble_eq_true rfl) dX4_init_26 (fun h54 H eN P hF => ?_)
  refine lv_dup (pc := 29) hx hb dX4_init_29 rfl ?_
  refine r_cO (pc := 30) (As := []) (rest := [.ref (B + (mN h51)), .int 10, .ref (B + a53)]) CX P hl.1 hF ko_X4_17 (fun h1 q => c_X8_init l G B _ _ _ q) rfl rfl ⟨Nat.le_of_ble_eq_true rfl, Nat.le_of_ble_eq_true rfl⟩ (Nat.le_of_ble_eq_true rfl) ⟨Nat.le_of_ble_eq_true rfl, Nat.le_of_ble_eq_true rfl⟩ dX4_init_30 (fun h55 H locs P hF => ?_)
  refine r_sR (pc := 33) CX P hF dX4_init_33 (fun h56 H locs P hF => ?_)
  refine lv_iinc (pc := 34) (k := 0) (v := 11) hx hb dX4_init_34 hl rfl (by decide) (by decide) rfl (fun ls hl => ?_)
  replace hl : lv_has ls 2 [(1, .int 11), (0, .ref (B + a0))] := hl
  refine lv_goto (pc := 37) (tgt := 15) hx hb dX4_init_37 (by decide) ?_
  refine lv_iload_n (pc := 15) hx hb dX4_init_15 rfl (lv_at hl 0 rfl) ?_
  refine lv_bipush (pc := 16) (v := 11) hx hb dX4_init_16 (by decide) ?_
  refine lv_icmp_ge (pc := 18) (tgt := 40) hx hb dX4_init_18 (by decide) (fun _ => ?_) (fun hc => absurd hc (by decide))
  cases hF
  exact hret _ _ _ _ P dX4_init_40
def F_X5_init (h : Hp) (a0 : Nat) : Option (Hp) :=
(nwA h 11 12).bind fun h1 =>
(pR h1 a0 5 0 (mN h)).bind fun h2 =>
(nwA h2 11 12).bind fun h3 =>
(pR h3 a0 5 1 (mN h2)).bind fun h4 =>
(nwA h4 11 12).bind fun h5 =>
(pR h5 a0 5 2 (mN h4)).bind fun h6 =>
(nwA h6 11 12).bind fun h7 =>
(pR h7 a0 5 3 (mN h6)).bind fun h8 =>
(nwA h8 11 12).bind fun h9 =>
(pR h9 a0 5 4 (mN h8)).bind fun h10 =>
(nwA h10 11 12).bind fun h11 =>
(pR h11 a0 5 5 (mN h10)).bind fun h12 =>
some h12
set_option maxRecDepth 100000 in
set_option maxHeartbeats 4000000 in
theorem c_X5_init (l : Launch) (G : GG) (B : Nat) (h : Hp) (a0 : Nat) (hr : Hp) (hF : F_X5_init h a0 = some hr) : CV l yX5_init cX5_init 1 1 39 6 72 G B h [.ref (B + a0)] hr := by
  refine ent_v rfl (Nat.le_of_ble_eq_true rfl) ?_
  intro p e s m args below meth c ls Q CX hnm hret P hl
  have CX : Cxt p m c cX5_init 1 s args RX5 G B := CX
  obtain ⟨⟨hx, hb, hml, hown, hts⟩, -, -⟩ := id CX
  replace hl : lv_has ls 1 [(0, .ref (B + a0))] := hl
  generalize s.heap = H at P ⊢
  generalize ([] : List Loc) = locs at P ⊢
  unfold F_X5_init at hF
  refine lv_aload_n (pc := 0) hx hb dX5_init_0 rfl (lv_at hl 0 rfl) ?_
  refine r_obj (pc := 1) CX hl.1 tw_273 tw_23 tw_24 (Nat.le_of_ble_eq_true rfl) (Nat.le_of_ble_eq_true rfl) dX5_init_1 ?_
  refine lv_aload_n (pc := 4) hx hb dX5_init_4 rfl (lv_at hl 0 rfl) ?_
  refine lv_bipush (pc := 5) (v := 12) hx hb dX5_init_5 (by decide) ?_
  refine r_nwA (pc := 7) (atype := .int) (N' := 12) CX P hF (Or.inl ⟨rfl, rfl⟩) tw_107 (by decide) (Nat.le_of_ble_eq_true rfl) (Nat.le_of_ble_eq_true rfl) dX5_init_7 (fun h1 H eN P hF => ?_)
  refine r_pR (pc := 9) CX P hnm hF fl_X5_9 (fun q hq => by cases hq; rfl) dX5_init_9 (fun h2 H locs P hF => ?_)
  refine lv_aload_n (pc := 12) hx hb dX5_init_12 rfl (lv_at hl 0 rfl) ?_
  refine lv_bipush (pc := 13) (v := 12) hx hb dX5_init_13 (by decide) ?_
  refine r_nwA (pc := 15) (atype := .int) (N' := 12) CX P hF (Or.inl ⟨rfl, rfl⟩) tw_107 (by decide) (Nat.le_of_ble_eq_true rfl) (Nat.le_of_ble_eq_true rfl) dX5_init_15 (fun h3 H eN P hF => ?_)
  refine r_pR (pc := 17) CX P hnm hF fl_X5_15 (fun q hq => by cases hq; rfl) dX5_init_17 (fun h4 H locs P hF => ?_)
  refine lv_aload_n (pc := 20) hx hb dX5_init_20 rfl (lv_at hl 0 rfl) ?_
  refine lv_bipush (pc := 21) (v := 12) hx hb dX5_init_21 (by decide) ?_
  refine r_nwA (pc := 23) (atype := .int) (N' := 12) CX P hF (Or.inl ⟨rfl, rfl⟩) tw_107 (by decide) (Nat.le_of_ble_eq_true rfl) (Nat.le_of_ble_eq_true rfl) dX5_init_23 (fun h5 H eN P hF => ?_)
  refine r_pR (pc := 25) CX P hnm hF fl_X5_18 (fun q hq => by cases hq; rfl) dX5_init_25 (fun h6 H locs P hF => ?_)
  refine lv_aload_n (pc := 28) hx hb dX5_init_28 rfl (lv_at hl 0 rfl) ?_
  refine lv_bipush (pc := 29) (v := 12) hx hb dX5_init_29 (by decide) ?_
  refine r_nwA (pc := 31) (atype := .int) (N' := 12) CX P hF (Or.inl ⟨rfl, rfl⟩) tw_107 (by decide) (Nat.le_of_ble_eq_true rfl) (Nat.le_of_ble_eq_true rfl) dX5_init_31 (fun h7 H eN P hF => ?_)
  refine r_pR (pc := 33) CX P hnm hF fl_X5_21 (fun q hq => by cases hq; rfl) dX5_init_33 (fun h8 H locs P hF => ?_)
  refine lv_aload_n (pc := 36) hx hb dX5_init_36 rfl (lv_at hl 0 rfl) ?_
  refine lv_bipush (pc := 37) (v := 12) hx hb dX5_init_37 (by decide) ?_
  refine r_nwA (pc := 39) (atype := .int) (N' := 12) CX P hF (Or.inl ⟨rfl, rfl⟩) tw_107 (by decide) (Nat.le_of_ble_eq_true rfl) (Nat.le_of_ble_eq_true rfl) dX5_init_39 (fun h9 H eN P hF => ?_)
  refine r_pR (pc := 41) CX P hnm hF fl_X5_24 (fun q hq => by cases hq; rfl) dX5_init_41 (fun h10 H locs P hF => ?_)
  refine lv_aload_n (pc := 44) hx hb dX5_init_44 rfl (lv_at hl 0 rfl) ?_
  refine lv_bipush (pc := 45) (v := 12) hx hb dX5_init_45 (by decide) ?_
  refine r_nwA (pc := 47) (atype := .int) (N' := 12) CX P hF (Or.inl ⟨rfl, rfl⟩) tw_107 (by decide) (Nat.le_of_ble_eq_true rfl) (Nat.le_of_ble_eq_true rfl) dX5_init_47 (fun h11 H eN P hF => ?_)
  refine r_pR (pc := 49) CX P hnm hF fl_X5_27 (fun q hq => by cases hq; rfl) dX5_init_49 (fun h12 H locs P hF => ?_)
  cases hF
  exact hret _ _ _ _ P dX5_init_52
def F_X3_init (h : Hp) (a0 : Nat) (ap1 : Nat) : Option (Hp) :=
(pR h a0 3 0 ap1).bind fun h1 =>
some h1
set_option maxRecDepth 100000 in
set_option maxHeartbeats 4000000 in
theorem c_X3_init (l : Launch) (G : GG) (B : Nat) (h : Hp) (a0 : Nat) (ap1 : Nat) (hr : Hp) (hF : F_X3_init h a0 ap1 = some hr) : CV l yX3_init cX3_init 2 1 39 0 0 G B h [.ref (B + a0), .ref (B + ap1)] hr := by
  refine ent_v rfl (Nat.le_of_ble_eq_true rfl) ?_
  intro p e s m args below meth c ls Q CX hnm hret P hl
  have CX : Cxt p m c cX3_init 2 s args RX3 G B := CX
  obtain ⟨⟨hx, hb, hml, hown, hts⟩, -, -⟩ := id CX
  replace hl : lv_has ls 2 [(0, .ref (B + a0)), (1, .ref (B + ap1))] := hl
  generalize s.heap = H at P ⊢
  generalize ([] : List Loc) = locs at P ⊢
  unfold F_X3_init at hF
  refine lv_aload_n (pc := 0) hx hb dX3_init_0 rfl (lv_at hl 0 rfl) ?_
  refine r_obj (pc := 1) CX hl.1 tw_300 tw_23 tw_24 (Nat.le_of_ble_eq_true rfl) (Nat.le_of_ble_eq_true rfl) dX3_init_1 ?_
  refine lv_aload_n (pc := 4) hx hb dX3_init_4 rfl (lv_at hl 0 rfl) ?_
  refine lv_aload_n (pc := 5) hx hb dX3_init_5 rfl (lv_at hl 1 rfl) ?_
  refine r_pR (pc := 6) CX P hnm hF fl_X3_9 (fun q hq => by cases hq; rfl) dX3_init_6 (fun h1 H locs P hF => ?_)
  cases hF
  exact hret _ _ _ _ P dX3_init_9
def F_X2_init (h : Hp) (a0 : Nat) : Option (Hp) :=
(nwA h 11 28).bind fun h1 =>
(pR h1 a0 2 0 (mN h)).bind fun h2 =>
(nwA h2 11 28).bind fun h3 =>
(pR h3 a0 2 1 (mN h2)).bind fun h4 =>
some h4
set_option maxRecDepth 100000 in
set_option maxHeartbeats 4000000 in
theorem c_X2_init (l : Launch) (G : GG) (B : Nat) (h : Hp) (a0 : Nat) (hr : Hp) (hF : F_X2_init h a0 = some hr) : CV l yX2_init cX2_init 1 1 39 2 56 G B h [.ref (B + a0)] hr := by
  refine ent_v rfl (Nat.le_of_ble_eq_true rfl) ?_
  intro p e s m args below meth c ls Q CX hnm hret P hl
  have CX : Cxt p m c cX2_init 1 s args RX2 G B := CX
  obtain ⟨⟨hx, hb, hml, hown, hts⟩, -, -⟩ := id CX
  replace hl : lv_has ls 1 [(0, .ref (B + a0))] := hl
  generalize s.heap = H at P ⊢
  generalize ([] : List Loc) = locs at P ⊢
  unfold F_X2_init at hF
  refine lv_aload_n (pc := 0) hx hb dX2_init_0 rfl (lv_at hl 0 rfl) ?_
  refine r_obj (pc := 1) CX hl.1 tw_310 tw_23 tw_24 (Nat.le_of_ble_eq_true rfl) (Nat.le_of_ble_eq_true rfl) dX2_init_1 ?_
  refine lv_aload_n (pc := 4) hx hb dX2_init_4 rfl (lv_at hl 0 rfl) ?_
  refine lv_bipush (pc := 5) (v := 28) hx hb dX2_init_5 (by decide) ?_
  refine r_nwA (pc := 7) (atype := .int) (N' := 28) CX P hF (Or.inl ⟨rfl, rfl⟩) tw_107 (by decide) (Nat.le_of_ble_eq_true rfl) (Nat.le_of_ble_eq_true rfl) dX2_init_7 (fun h1 H eN P hF => ?_)
  refine r_pR (pc := 9) CX P hnm hF fl_X2_11 (fun q hq => by cases hq; rfl) dX2_init_9 (fun h2 H locs P hF => ?_)
  refine lv_aload_n (pc := 12) hx hb dX2_init_12 rfl (lv_at hl 0 rfl) ?_
  refine lv_bipush (pc := 13) (v := 28) hx hb dX2_init_13 (by decide) ?_
  refine r_nwA (pc := 15) (atype := .int) (N' := 28) CX P hF (Or.inl ⟨rfl, rfl⟩) tw_107 (by decide) (Nat.le_of_ble_eq_true rfl) (Nat.le_of_ble_eq_true rfl) dX2_init_15 (fun h3 H eN P hF => ?_)
  refine r_pR (pc := 17) CX P hnm hF fl_X2_15 (fun q hq => by cases hq; rfl) dX2_init_17 (fun h4 H locs P hF => ?_)
  cases hF
  exact hret _ _ _ _ P dX2_init_20
def F_X4_slot (h : Hp) (a0 : Nat) (vp1 : Int32) : Option (Nat) :=
(gR h a0 4 2).bind fun a1 =>
(gI h a0 4 1).bind fun v2 =>
(rmI (v2 + vp1) 11).bind fun v3 =>
(aR h a1 14 v3).bind fun a4 =>
some a4
set_option maxRecDepth 100000 in
set_option maxHeartbeats 4000000 in
theorem c_X4_slot (l : Launch) (G : GG) (B : Nat) (h : Hp) (a0 : Nat) (vp1 : Int32) (r0 : Nat) (hF : F_X4_slot h a0 vp1 = some r0) : CR l yX4_slot cX4_slot 2 (.object "GroupLimits$World") 0 0 0 0 G B h [.ref (B + a0), .int vp1] r0 h := by
  refine ent_r rfl (Nat.le_of_ble_eq_true rfl) ?_
  intro p e s m args below meth c ls Q CX hnm hret P hl
  have CX : Cxt p m c cX4_slot 2 s args RX4 G B := CX
  obtain ⟨⟨hx, hb, hml, hown, hts⟩, -, -⟩ := id CX
  replace hl : lv_has ls 2 [(0, .ref (B + a0)), (1, .int vp1)] := hl
  generalize s.heap = H at P ⊢
  generalize ([] : List Loc) = locs at P ⊢
  unfold F_X4_slot at hF
  refine lv_aload_n (pc := 0) hx hb dX4_slot_0 rfl (lv_at hl 0 rfl) ?_
  refine r_gR (pc := 1) CX P hF fl_X4_13 dX4_slot_1 (fun a1 hF => ?_)
  refine lv_aload_n (pc := 4) hx hb dX4_slot_4 rfl (lv_at hl 0 rfl) ?_
  refine r_gI (pc := 5) CX P hF fl_X4_18 dX4_slot_5 (fun v2 hF => ?_)
  refine lv_iload_n (pc := 8) hx hb dX4_slot_8 rfl (lv_at hl 1 rfl) ?_
  refine lv_iadd (pc := 9) hx hb dX4_slot_9 ?_
  refine lv_bipush (pc := 10) (v := 11) hx hb dX4_slot_10 (by decide) ?_
  refine r_rm (pc := 12) hx hb hF dX4_slot_12 (fun v3 hF => ?_)
  refine r_aR (pc := 13) CX P hF (Or.inl rfl) dX4_slot_13 (fun a4 hF => ?_)
  cases hF
  exact hret _ _ _ _ P dX4_slot_14
def F_X4_keep (h : Hp) (a0 : Nat) (ap1 : Nat) : Option (Hp) :=
(gI h a0 4 0).bind fun v1 =>
(cO h a0 4 (F_X4_slot h a0 v1)).bind fun a2 =>
(cO h a2 8 (F_X8_copyFrom h a2 ap1)).bind fun h3 =>
some h3
set_option maxRecDepth 100000 in
set_option maxHeartbeats 4000000 in
theorem c_X4_keep (l : Launch) (G : GG) (B : Nat) (h : Hp) (a0 : Nat) (ap1 : Nat) (hr : Hp) (hF : F_X4_keep h a0 ap1 = some hr) : CV l yX4_keep cX4_keep 2 3 142 0 0 G B h [.ref (B + a0), .ref (B + ap1)] hr := by
  refine ent_v rfl (Nat.le_of_ble_eq_true rfl) ?_
  intro p e s m args below meth c ls Q CX hnm hret P hl
  have CX : Cxt p m c cX4_keep 2 s args RX4 G B := CX
  obtain ⟨⟨hx, hb, hml, hown, hts⟩, -, -⟩ := id CX
  replace hl : lv_has ls 2 [(0, .ref (B + a0)), (1, .ref (B + ap1))] := hl
  generalize s.heap = H at P ⊢
  generalize ([] : List Loc) = locs at P ⊢
  unfold F_X4_keep at hF
  refine lv_aload_n (pc := 0) hx hb dX4_keep_0 rfl (lv_at hl 0 rfl) ?_
  refine lv_aload_n (pc := 1) hx hb dX4_keep_1 rfl (lv_at hl 0 rfl) ?_
  refine r_gI (pc := 2) CX P hF fl_X4_22 dX4_keep_2 (fun v1 hF => ?_)
  refine r_cVr (pc := 5) (As := [.int v1]) (rest := []) CX P hl.1 hF kv_X4_25 (fun r q => c_X4_slot l G B _ _ _ _ q) rfl rfl ⟨Nat.le_of_ble_eq_true rfl, Nat.le_of_ble_eq_true rfl⟩ (Nat.le_of_ble_eq_true rfl) ⟨Nat.le_of_ble_eq_true rfl, Nat.le_of_ble_eq_true rfl⟩ dX4_keep_5 (fun a2 H locs P hF => ?_)
  refine lv_aload_n (pc := 8) hx hb dX4_keep_8 rfl (lv_at hl 1 rfl) ?_
  refine r_cVv (pc := 9) (As := [.ref (B + ap1)]) (rest := []) CX P hl.1 hF kv_X4_29 (fun h1 q => c_X8_copyFrom l G B _ _ _ _ q) rfl rfl ⟨Nat.le_of_ble_eq_true rfl, Nat.le_of_ble_eq_true rfl⟩ (Nat.le_of_ble_eq_true rfl) ⟨Nat.le_of_ble_eq_true rfl, Nat.le_of_ble_eq_true rfl⟩ dX4_keep_9 (fun h3 H locs P hF => ?_)
  cases hF
  exact hret _ _ _ _ P dX4_keep_12
def F_X4_dropTry (h : Hp) (a0 : Nat) (ap1 : Nat) : Option (Hp) :=
(gI h a0 4 0).bind fun v1 =>
(cO h a0 4 (F_X4_slot h a0 v1)).bind fun a2 =>
(cO h ap1 8 (F_X8_copyFrom h ap1 a2)).bind fun h3 =>
some h3
set_option maxRecDepth 100000 in
set_option maxHeartbeats 4000000 in
theorem c_X4_dropTry (l : Launch) (G : GG) (B : Nat) (h : Hp) (a0 : Nat) (ap1 : Nat) (hr : Hp) (hF : F_X4_dropTry h a0 ap1 = some hr) : CV l yX4_dropTry cX4_dropTry 2 3 142 0 0 G B h [.ref (B + a0), .ref (B + ap1)] hr := by
  refine ent_v rfl (Nat.le_of_ble_eq_true rfl) ?_
  intro p e s m args below meth c ls Q CX hnm hret P hl
  have CX : Cxt p m c cX4_dropTry 2 s args RX4 G B := CX
  obtain ⟨⟨hx, hb, hml, hown, hts⟩, -, -⟩ := id CX
  replace hl : lv_has ls 2 [(0, .ref (B + a0)), (1, .ref (B + ap1))] := hl
  generalize s.heap = H at P ⊢
  generalize ([] : List Loc) = locs at P ⊢
  unfold F_X4_dropTry at hF
  refine lv_aload_n (pc := 0) hx hb dX4_dropTry_0 rfl (lv_at hl 1 rfl) ?_
  refine lv_aload_n (pc := 1) hx hb dX4_dropTry_1 rfl (lv_at hl 0 rfl) ?_
  refine lv_aload_n (pc := 2) hx hb dX4_dropTry_2 rfl (lv_at hl 0 rfl) ?_
  refine r_gI (pc := 3) CX P hF fl_X4_22 dX4_dropTry_3 (fun v1 hF => ?_)
  refine r_cVr (pc := 6) (As := [.int v1]) (rest := [.ref (B + ap1)]) CX P hl.1 hF kv_X4_25 (fun r q => c_X4_slot l G B _ _ _ _ q) rfl rfl ⟨Nat.le_of_ble_eq_true rfl, Nat.le_of_ble_eq_true rfl⟩ (Nat.le_of_ble_eq_true rfl) ⟨Nat.le_of_ble_eq_true rfl, Nat.le_of_ble_eq_true rfl⟩ dX4_dropTry_6 (fun a2 H locs P hF => ?_)
  refine r_cVv (pc := 9) (As := [.ref (B + a2)]) (rest := []) CX P hl.1 hF kv_X4_29 (fun h1 q => c_X8_copyFrom l G B _ _ _ _ q) rfl rfl ⟨Nat.le_of_ble_eq_true rfl, Nat.le_of_ble_eq_true rfl⟩ (Nat.le_of_ble_eq_true rfl) ⟨Nat.le_of_ble_eq_true rfl, Nat.le_of_ble_eq_true rfl⟩ dX4_dropTry_9 (fun h3 H locs P hF => ?_)
  cases hF
  exact hret _ _ _ _ P dX4_dropTry_12
def F_X4_countKept (h : Hp) (a0 : Nat) : Option (Hp) :=
(gI h a0 4 0).bind fun v1 =>
if 10 ≤ v1 then (
(gI h a0 4 1).bind fun v2 =>
(rmI (v2 + 1) 11).bind fun v3 =>
(pI h a0 4 1 v3).bind fun h4 =>
some h4) else (
(gI h a0 4 0).bind fun v5 =>
(pI h a0 4 0 (v5 + 1)).bind fun h6 =>
some h6)
set_option maxRecDepth 100000 in
set_option maxHeartbeats 4000000 in
theorem c_X4_countKept (l : Launch) (G : GG) (B : Nat) (h : Hp) (a0 : Nat) (hr : Hp) (hF : F_X4_countKept h a0 = some hr) : CV l yX4_countKept cX4_countKept 1 0 0 0 0 G B h [.ref (B + a0)] hr := by
  refine ent_v rfl (Nat.le_of_ble_eq_true rfl) ?_
  intro p e s m args below meth c ls Q CX hnm hret P hl
  have CX : Cxt p m c cX4_countKept 1 s args RX4 G B := CX
  obtain ⟨⟨hx, hb, hml, hown, hts⟩, -, -⟩ := id CX
  replace hl : lv_has ls 1 [(0, .ref (B + a0))] := hl
  generalize s.heap = H at P ⊢
  generalize ([] : List Loc) = locs at P ⊢
  unfold F_X4_countKept at hF
  refine lv_aload_n (pc := 0) hx hb dX4_countKept_0 rfl (lv_at hl 0 rfl) ?_
  refine r_gI (pc := 1) CX P hF fl_X4_22 dX4_countKept_1 (fun v1 hF => ?_)
  refine lv_bipush (pc := 4) (v := 10) hx hb dX4_countKept_4 (by decide) ?_
  refine lv_icmp_ge (pc := 6) (tgt := 22) hx hb dX4_countKept_6 (by decide) (fun hc => ?_) (fun hc => ?_)
  · rw [if_pos hc] at hF
    refine lv_aload_n (pc := 22) hx hb dX4_countKept_22 rfl (lv_at hl 0 rfl) ?_
    refine lv_aload_n (pc := 23) hx hb dX4_countKept_23 rfl (lv_at hl 0 rfl) ?_
    refine r_gI (pc := 24) CX P hF fl_X4_18 dX4_countKept_24 (fun v2 hF => ?_)
    refine lv_iconst (pc := 27) (v := 1) hx hb dX4_countKept_27 (by decide) ?_
    refine lv_iadd (pc := 28) hx hb dX4_countKept_28 ?_
    refine lv_bipush (pc := 29) (v := 11) hx hb dX4_countKept_29 (by decide) ?_
    refine r_rm (pc := 31) hx hb hF dX4_countKept_31 (fun v3 hF => ?_)
    refine r_pI (pc := 32) CX P hF fl_X4_18 dX4_countKept_32 (fun h4 H locs P hF => ?_)
    cases hF
    exact hret _ _ _ _ P dX4_countKept_35
  · rw [if_neg hc] at hF
    refine lv_aload_n (pc := 9) hx hb dX4_countKept_9 rfl (lv_at hl 0 rfl) ?_
    refine lv_dup (pc := 10) hx hb dX4_countKept_10 rfl ?_
    refine r_gI (pc := 11) CX P hF fl_X4_22 dX4_countKept_11 (fun v5 hF => ?_)
    refine lv_iconst (pc := 14) (v := 1) hx hb dX4_countKept_14 (by decide) ?_
    refine lv_iadd (pc := 15) hx hb dX4_countKept_15 ?_
    refine r_pI (pc := 16) CX P hF fl_X4_22 dX4_countKept_16 (fun h6 H locs P hF => ?_)
    refine lv_goto (pc := 19) (tgt := 35) hx hb dX4_countKept_19 (by decide) ?_
    cases hF
    exact hret _ _ _ _ P dX4_countKept_35
def F_X5_partShares_L42 (a10 : Nat) (v11 : Int32) (a12 : Nat) (a13 : Nat) (v14 : Int32) (v15 : Int32) (h16 : Hp) : Option ((Int32 × Hp) ⊕ (Hp)) :=
(gI h16 a12 6 2).bind fun v17 =>
if v17 ≤ v15 then (
some (.inr h16)) else (
(gR h16 a12 6 1).bind fun a18 =>
(aI h16 a18 v15).bind fun v19 =>
(gR h16 a10 5 2).bind fun a20 =>
(aI h16 a13 v19).bind fun v21 =>
(gR h16 a12 6 5).bind fun a22 =>
(aI h16 a22 v19).bind fun v23 =>
(sI h16 a20 v19 (mnI v21 v23)).bind fun h24 =>
(gR h24 a10 5 3).bind fun a25 =>
(gR h24 a12 6 0).bind fun a26 =>
(aI h24 a26 v19).bind fun v27 =>
(aI h24 a25 v27).bind fun v28 =>
(gR h24 a10 5 2).bind fun a29 =>
(aI h24 a29 v19).bind fun v30 =>
(sI h24 a25 v27 (v28 + v30)).bind fun h31 =>
bl (v15 + 1) fun v32 =>
some (.inl (v32, h31)))
def F_X5_partShares_L117 (a35 : Nat) (v36 : Int32) (a37 : Nat) (v38 : Int32) (v39 : Int32) (h40 : Hp) : Option ((Int32 × Hp) ⊕ (Hp)) :=
(gI h40 a37 6 2).bind fun v41 =>
if v41 ≤ v39 then (
some (.inr h40)) else (
(gR h40 a37 6 1).bind fun a42 =>
(aI h40 a42 v39).bind fun v43 =>
(gR h40 a37 6 0).bind fun a44 =>
(aI h40 a44 v43).bind fun v45 =>
if ((v38 >>> (v45 &&& 31)) &&& 1) = 0 then (
bl (v39 + 1) fun v68 =>
some (.inl (v68, h40))) else (
(if v45 = v36 then (
some (1 : Int32)) else (
(gR h40 a35 5 3).bind fun a47 =>
(aI h40 a47 v45).bind fun v48 =>
(gR h40 a35 5 0).bind fun a49 =>
(aI h40 a49 v45).bind fun v50 =>
if v48 ≤ v50 then (
some (1 : Int32)) else (
(gR h40 a35 5 3).bind fun a51 =>
(aI h40 a51 v45).bind fun v52 =>
if 0 < v52 then (
some (0 : Int32)) else (
some (1 : Int32))))).bind fun v53 =>
(gR h40 a35 5 0).bind fun a54 =>
if v53 = 0 then (
(gR h40 a35 5 2).bind fun a55 =>
(aI h40 a55 v43).bind fun v56 =>
(gR h40 a35 5 0).bind fun a57 =>
(aI h40 a57 v45).bind fun v58 =>
(gR h40 a35 5 3).bind fun a59 =>
(aI h40 a59 v45).bind fun v60 =>
(dvI (v56 * v58) v60).bind fun v61 =>
(sI h40 a54 v43 v61).bind fun h62 =>
bl (v39 + 1) fun v63 =>
some (.inl (v63, h62))) else (
(gR h40 a35 5 2).bind fun a64 =>
(aI h40 a64 v43).bind fun v65 =>
(sI h40 a54 v43 v65).bind fun h66 =>
bl (v39 + 1) fun v67 =>
some (.inl (v67, h66)))))
def F_X5_partShares (h : Hp) (a0 : Nat) (ap1 : Nat) (vp2 : Int32) (vp3 : Int32) : Option (Hp) :=
(gR h ap1 8 0).bind fun a1 =>
(gR h a1 6 3).bind fun a2 =>
(if vp3 = 0 then (
some (1 : Int32)) else (
some (0 : Int32))).bind fun v4 =>
(aR h a2 15 v4).bind fun a5 =>
(cO h a1 6 (F_X6_bitsBelow h a1 vp2)).bind fun v6 =>
(gR h a0 5 3).bind fun a7 =>
(F_J7_fill_53178 h a7 0).bind fun h8 =>
(loopF (fun x => F_X5_partShares_L42 a0 vp2 a1 a5 v6 x.1 x.2) 6000 (1, h8)).bind fun h33 =>
(loopF (fun x => F_X5_partShares_L117 a0 vp2 a1 v6 x.1 x.2) 6000 (1, h33)).bind fun h69 =>
some h69
set_option maxRecDepth 100000 in
set_option maxHeartbeats 4000000 in
theorem c_X5_partShares (l : Launch) (G : GG) (B : Nat) (h : Hp) (a0 : Nat) (ap1 : Nat) (vp2 : Int32) (vp3 : Int32) (hr : Hp) (hF : F_X5_partShares h a0 ap1 vp2 vp3 = some hr) : CV l yX5_partShares cX5_partShares 11 1 39 0 0 G B h [.ref (B + a0), .ref (B + ap1), .int vp2, .int vp3] hr := by
  refine ent_v rfl (Nat.le_of_ble_eq_true rfl) ?_
  intro p e s m args below meth c ls Q CX hnm hret P hl
  have CX : Cxt p m c cX5_partShares 11 s args RX5 G B := CX
  obtain ⟨⟨hx, hb, hml, hown, hts⟩, -, -⟩ := id CX
  replace hl : lv_has ls 11 [(0, .ref (B + a0)), (1, .ref (B + ap1)), (2, .int vp2), (3, .int vp3)] := hl
  generalize s.heap = H at P ⊢
  generalize ([] : List Loc) = locs at P ⊢
  unfold F_X5_partShares at hF
  refine lv_aload_n (pc := 0) hx hb dX5_partShares_0 rfl (lv_at hl 1 rfl) ?_
  refine r_gR (pc := 1) CX P hF fl_X5_30 dX5_partShares_1 (fun a1 hF => ?_)
  refine lv_astore (pc := 4) hx hb dX5_partShares_4 hl (by decide) rfl (fun ls hl => ?_)
  replace hl : lv_has ls 11 [(4, .ref (B + a1)), (0, .ref (B + a0)), (1, .ref (B + ap1)), (2, .int vp2), (3, .int vp3)] := hl
  refine lv_aload (pc := 6) hx hb dX5_partShares_6 (lv_at hl 0 rfl) ?_
  refine r_gR (pc := 8) CX P hF fl_X5_36 dX5_partShares_8 (fun a2 hF => ?_)
  refine lv_iload_n (pc := 11) hx hb dX5_partShares_11 rfl (lv_at hl 4 rfl) ?_
  obtain ⟨j3, hA3, hK3⟩ := bd_some hF
  have hJ3 : ∀ (v4 : Int32) (H : Heap) (locs : List Loc) (ls : Array Slot), Pic G B h s H locs → lv_has ls 11 [(0, .ref (B + a0)), (2, .int vp2), (4, .ref (B + a1))] → v4 = j3 → W p l e (rmM 1 39 0 0) s m args below meth c H locs 0 0 Q (F0 m 20 ls [.int v4, .ref (B + a2)]) := by
    intro v4 H locs ls P hl ej
    subst ej
    have hF := hK3
    refine r_aR (pc := 20) CX P hF (Or.inr (Or.inl rfl)) dX5_partShares_20 (fun a5 hF => ?_)
    refine lv_astore (pc := 21) hx hb dX5_partShares_21 hl (by decide) rfl (fun ls hl => ?_)
    replace hl : lv_has ls 11 [(5, .ref (B + a5)), (0, .ref (B + a0)), (2, .int vp2), (4, .ref (B + a1))] := hl
    refine lv_aload (pc := 23) hx hb dX5_partShares_23 (lv_at hl 3 rfl) ?_
    refine lv_iload_n (pc := 25) hx hb dX5_partShares_25 rfl (lv_at hl 2 rfl) ?_
    refine r_cVp (pc := 26) (As := [.int vp2]) (rest := []) CX P hl.1 hF kv_X5_42 (fun r q => c_X6_bitsBelow l G B _ _ _ _ q) rfl rfl ⟨Nat.le_of_ble_eq_true rfl, Nat.le_of_ble_eq_true rfl⟩ (Nat.le_of_ble_eq_true rfl) ⟨Nat.le_of_ble_eq_true rfl, Nat.le_of_ble_eq_true rfl⟩ dX5_partShares_26 (fun v6 H locs P hF => ?_)
    refine lv_istore (pc := 29) hx hb dX5_partShares_29 hl (by decide) rfl (fun ls hl => ?_)
    replace hl : lv_has ls 11 [(6, .int v6), (5, .ref (B + a5)), (0, .ref (B + a0)), (2, .int vp2), (4, .ref (B + a1))] := hl
    refine lv_aload_n (pc := 31) hx hb dX5_partShares_31 rfl (lv_at hl 2 rfl) ?_
    refine r_gR (pc := 32) CX P hF fl_X5_21 dX5_partShares_32 (fun a7 hF => ?_)
    refine lv_iconst (pc := 35) (v := 0) hx hb dX5_partShares_35 (by decide) ?_
    refine r_cSv (pc := 36) (As := [.ref (B + a7), .int 0]) (rest := []) CX P hl.1 hF ks_X5_46 (fun h1 q => c_J7_fill_53178 l G B _ _ _ _ q) rfl rfl ⟨Nat.le_of_ble_eq_true rfl, Nat.le_of_ble_eq_true rfl⟩ (Nat.le_of_ble_eq_true rfl) ⟨Nat.le_of_ble_eq_true rfl, Nat.le_of_ble_eq_true rfl⟩ dX5_partShares_36 (fun h8 H locs P hF => ?_)
    refine lv_iconst (pc := 39) (v := 1) hx hb dX5_partShares_39 (by decide) ?_
    refine lv_istore (pc := 40) hx hb dX5_partShares_40 hl (by decide) rfl (fun ls hl => ?_)
    replace hl : lv_has ls 11 [(7, .int 1), (6, .int v6), (5, .ref (B + a5)), (0, .ref (B + a0)), (2, .int vp2), (4, .ref (B + a1))] := hl
    obtain ⟨r9, hLp9, hK9⟩ := bd_some hF
    have hX9 : ∀ (h33 : Hp) (H : Heap) (locs : List Loc) (ls : Array Slot), Pic G B h33 s H locs → lv_has ls 11 [(0, .ref (B + a0)), (2, .int vp2), (4, .ref (B + a1)), (6, .int v6)] → h33 = r9 → W p l e (rmM 1 39 0 0) s m args below meth c H locs 0 0 Q (F0 m 114 ls []) := by
      intro h33 H locs ls P hl er
      subst er
      have hF := hK9
      refine lv_iconst (pc := 114) (v := 1) hx hb dX5_partShares_114 (by decide) ?_
      refine lv_istore (pc := 115) hx hb dX5_partShares_115 hl (by decide) rfl (fun ls hl => ?_)
      replace hl : lv_has ls 11 [(7, .int 1), (0, .ref (B + a0)), (2, .int vp2), (4, .ref (B + a1)), (6, .int v6)] := hl
      obtain ⟨r34, hLp34, hK34⟩ := bd_some hF
      have hX34 : ∀ (h69 : Hp) (H : Heap) (locs : List Loc) (ls : Array Slot), Pic G B h69 s H locs → lv_has ls 11 [] → h69 = r34 → W p l e (rmM 1 39 0 0) s m args below meth c H locs 0 0 Q (F0 m 251 ls []) := by
        intro h69 H locs ls P hl er
        subst er
        have hF := hK34
        cases hF
        exact hret _ _ _ _ P dX5_partShares_251
      have hL34 : ∀ (n : Nat) (v39 : Int32) (h40 : Hp) (H : Heap) (locs : List Loc) (ls : Array Slot), Pic G B h40 s H locs → lv_has ls 11 [(0, .ref (B + a0)), (2, .int vp2), (4, .ref (B + a1)), (6, .int v6), (7, .int v39)] → loopF (fun x => F_X5_partShares_L117 a0 vp2 a1 v6 x.1 x.2) n (v39, h40) = some r34 → W p l e (rmM 1 39 0 0) s m args below meth c H locs 0 0 Q (F0 m 117 ls []) := by
        intro n
        induction n with
        | zero => intro v39 h40 H locs ls P hl hq; cases hq
        | succ n ih =>
          intro v39 h40 H locs ls P hl hq
          obtain ⟨z34, hS34, hI34, hR34⟩ := loop_some hq
          have hF : F_X5_partShares_L117 a0 vp2 a1 v6 v39 h40 = some z34 := hS34
          unfold F_X5_partShares_L117 at hF
          refine lv_iload (pc := 117) hx hb dX5_partShares_117 (lv_at hl 4 rfl) ?_
          refine lv_aload (pc := 119) hx hb dX5_partShares_119 (lv_at hl 2 rfl) ?_
          refine r_gI (pc := 121) CX P hF fl_X5_52 dX5_partShares_121 (fun v41 hF => ?_)
          refine lv_icmp_ge (pc := 124) (tgt := 251) hx hb dX5_partShares_124 (by decide) (fun hc => ?_) (fun hc => ?_)
          · rw [if_pos hc] at hF
            exact hX34 _ _ _ _ P (lv_sub hl [] rfl) (hR34 _ (Option.some.inj hF).symm)
          · rw [if_neg hc] at hF
            refine lv_aload (pc := 127) hx hb dX5_partShares_127 (lv_at hl 2 rfl) ?_
            refine r_gR (pc := 129) CX P hF fl_X5_56 dX5_partShares_129 (fun a42 hF => ?_)
            refine lv_iload (pc := 132) hx hb dX5_partShares_132 (lv_at hl 4 rfl) ?_
            refine r_aI (pc := 134) CX P hF dX5_partShares_134 (fun v43 hF => ?_)
            refine lv_istore (pc := 135) hx hb dX5_partShares_135 hl (by decide) rfl (fun ls hl => ?_)
            replace hl : lv_has ls 11 [(8, .int v43), (0, .ref (B + a0)), (2, .int vp2), (4, .ref (B + a1)), (6, .int v6), (7, .int v39)] := hl
            refine lv_aload (pc := 137) hx hb dX5_partShares_137 (lv_at hl 3 rfl) ?_
            refine r_gR (pc := 139) CX P hF fl_X5_68 dX5_partShares_139 (fun a44 hF => ?_)
            refine lv_iload (pc := 142) hx hb dX5_partShares_142 (lv_at hl 0 rfl) ?_
            refine r_aI (pc := 144) CX P hF dX5_partShares_144 (fun v45 hF => ?_)
            refine lv_istore (pc := 145) hx hb dX5_partShares_145 hl (by decide) rfl (fun ls hl => ?_)
            replace hl : lv_has ls 11 [(9, .int v45), (8, .int v43), (0, .ref (B + a0)), (2, .int vp2), (4, .ref (B + a1)), (6, .int v6), (7, .int v39)] := hl
            refine lv_iload (pc := 147) hx hb dX5_partShares_147 (lv_at hl 5 rfl) ?_
            refine lv_iload (pc := 149) hx hb dX5_partShares_149 (lv_at hl 0 rfl) ?_
            refine lv_ishr (pc := 151) hx hb dX5_partShares_151 ?_
            refine lv_iconst (pc := 152) (v := 1) hx hb dX5_partShares_152 (by decide) ?_
            refine lv_iand (pc := 153) hx hb dX5_partShares_153 ?_
            refine lv_if_ne (pc := 154) (tgt := 160) hx hb dX5_partShares_154 (by decide) (fun hc => ?_) (fun hc => ?_)
            · rw [if_neg hc] at hF
              refine lv_iload (pc := 160) hx hb dX5_partShares_160 (lv_at hl 0 rfl) ?_
              refine lv_iload_n (pc := 162) hx hb dX5_partShares_162 rfl (lv_at hl 3 rfl) ?_
              obtain ⟨j46, hA46, hK46⟩ := bd_some hF
              have hJ46 : ∀ (v53 : Int32) (H : Heap) (locs : List Loc) (ls : Array Slot), Pic G B h40 s H locs → lv_has ls 11 [(0, .ref (B + a0)), (2, .int vp2), (4, .ref (B + a1)), (6, .int v6), (7, .int v39), (8, .int v43), (9, .int v45)] → v53 = j46 → W p l e (rmM 1 39 0 0) s m args below meth c H locs 0 0 Q (F0 m 198 ls [.int v53]) := by
                intro v53 H locs ls P hl ej
                subst ej
                have hF := hK46
                refine lv_istore (pc := 198) hx hb dX5_partShares_198 hl (by decide) rfl (fun ls hl => ?_)
                replace hl : lv_has ls 11 [(10, .int v53), (0, .ref (B + a0)), (2, .int vp2), (4, .ref (B + a1)), (6, .int v6), (7, .int v39), (8, .int v43), (9, .int v45)] := hl
                refine lv_aload_n (pc := 200) hx hb dX5_partShares_200 rfl (lv_at hl 1 rfl) ?_
                refine r_gR (pc := 201) CX P hF fl_X5_9 dX5_partShares_201 (fun a54 hF => ?_)
                refine lv_iload (pc := 204) hx hb dX5_partShares_204 (lv_at hl 6 rfl) ?_
                refine lv_iload (pc := 206) hx hb dX5_partShares_206 (lv_at hl 0 rfl) ?_
                refine lv_if_eq (pc := 208) (tgt := 221) hx hb dX5_partShares_208 (by decide) (fun hc => ?_) (fun hc => ?_)
                · rw [if_pos hc] at hF
                  refine lv_aload_n (pc := 221) hx hb dX5_partShares_221 rfl (lv_at hl 1 rfl) ?_
                  refine r_gR (pc := 222) CX P hF fl_X5_18 dX5_partShares_222 (fun a55 hF => ?_)
                  refine lv_iload (pc := 225) hx hb dX5_partShares_225 (lv_at hl 6 rfl) ?_
                  refine r_aI (pc := 227) CX P hF dX5_partShares_227 (fun v56 hF => ?_)
                  refine lv_aload_n (pc := 228) hx hb dX5_partShares_228 rfl (lv_at hl 1 rfl) ?_
                  refine r_gR (pc := 229) CX P hF fl_X5_9 dX5_partShares_229 (fun a57 hF => ?_)
                  refine lv_iload (pc := 232) hx hb dX5_partShares_232 (lv_at hl 7 rfl) ?_
                  refine r_aI (pc := 234) CX P hF dX5_partShares_234 (fun v58 hF => ?_)
                  refine lv_imul (pc := 235) hx hb dX5_partShares_235 ?_
                  refine lv_aload_n (pc := 236) hx hb dX5_partShares_236 rfl (lv_at hl 1 rfl) ?_
                  refine r_gR (pc := 237) CX P hF fl_X5_21 dX5_partShares_237 (fun a59 hF => ?_)
                  refine lv_iload (pc := 240) hx hb dX5_partShares_240 (lv_at hl 7 rfl) ?_
                  refine r_aI (pc := 242) CX P hF dX5_partShares_242 (fun v60 hF => ?_)
                  refine r_dv (pc := 243) hx hb hF dX5_partShares_243 (fun v61 hF => ?_)
                  refine r_sI (pc := 244) CX P hF dX5_partShares_244 (fun h62 H locs P hF => ?_)
                  obtain ⟨v63, ev63, hF⟩ := bl_o hF
                  refine lv_iinc (pc := 245) (k := 5) (v := v63) hx hb dX5_partShares_245 hl rfl ev63 (by decide) rfl (fun ls hl => ?_)
                  replace hl : lv_has ls 11 [(7, .int v63), (10, .int v53), (0, .ref (B + a0)), (2, .int vp2), (4, .ref (B + a1)), (6, .int v6), (8, .int v43), (9, .int v45)] := hl
                  refine lv_goto (pc := 248) (tgt := 117) hx hb dX5_partShares_248 (by decide) ?_
                  exact ih _ _ _ _ _ P (lv_sub hl [2, 3, 4, 5, 0] rfl) (hI34 _ (Option.some.inj hF).symm)
                · rw [if_neg hc] at hF
                  refine lv_aload_n (pc := 211) hx hb dX5_partShares_211 rfl (lv_at hl 1 rfl) ?_
                  refine r_gR (pc := 212) CX P hF fl_X5_18 dX5_partShares_212 (fun a64 hF => ?_)
                  refine lv_iload (pc := 215) hx hb dX5_partShares_215 (lv_at hl 6 rfl) ?_
                  refine r_aI (pc := 217) CX P hF dX5_partShares_217 (fun v65 hF => ?_)
                  refine lv_goto (pc := 218) (tgt := 244) hx hb dX5_partShares_218 (by decide) ?_
                  refine r_sI (pc := 244) CX P hF dX5_partShares_244 (fun h66 H locs P hF => ?_)
                  obtain ⟨v67, ev67, hF⟩ := bl_o hF
                  refine lv_iinc (pc := 245) (k := 5) (v := v67) hx hb dX5_partShares_245 hl rfl ev67 (by decide) rfl (fun ls hl => ?_)
                  replace hl : lv_has ls 11 [(7, .int v67), (10, .int v53), (0, .ref (B + a0)), (2, .int vp2), (4, .ref (B + a1)), (6, .int v6), (8, .int v43), (9, .int v45)] := hl
                  refine lv_goto (pc := 248) (tgt := 117) hx hb dX5_partShares_248 (by decide) ?_
                  exact ih _ _ _ _ _ P (lv_sub hl [2, 3, 4, 5, 0] rfl) (hI34 _ (Option.some.inj hF).symm)
              replace hF := hA46
              refine lv_icmp_eq (pc := 163) (tgt := 193) hx hb dX5_partShares_163 (by decide) (fun hc => ?_) (fun hc => ?_)
              · rw [if_pos hc] at hF
                refine lv_iconst (pc := 193) (v := 1) hx hb dX5_partShares_193 (by decide) ?_
                refine lv_goto (pc := 194) (tgt := 198) hx hb dX5_partShares_194 (by decide) ?_
                exact hJ46 _ _ _ _ P (lv_sub hl [2, 3, 4, 5, 6, 1, 0] rfl) (Option.some.inj hF)
              · rw [if_neg hc] at hF
                refine lv_aload_n (pc := 166) hx hb dX5_partShares_166 rfl (lv_at hl 2 rfl) ?_
                refine r_gR (pc := 167) CX P hF fl_X5_21 dX5_partShares_167 (fun a47 hF => ?_)
                refine lv_iload (pc := 170) hx hb dX5_partShares_170 (lv_at hl 0 rfl) ?_
                refine r_aI (pc := 172) CX P hF dX5_partShares_172 (fun v48 hF => ?_)
                refine lv_aload_n (pc := 173) hx hb dX5_partShares_173 rfl (lv_at hl 2 rfl) ?_
                refine r_gR (pc := 174) CX P hF fl_X5_9 dX5_partShares_174 (fun a49 hF => ?_)
                refine lv_iload (pc := 177) hx hb dX5_partShares_177 (lv_at hl 0 rfl) ?_
                refine r_aI (pc := 179) CX P hF dX5_partShares_179 (fun v50 hF => ?_)
                refine lv_icmp_le (pc := 180) (tgt := 193) hx hb dX5_partShares_180 (by decide) (fun hc => ?_) (fun hc => ?_)
                · rw [if_pos hc] at hF
                  refine lv_iconst (pc := 193) (v := 1) hx hb dX5_partShares_193 (by decide) ?_
                  refine lv_goto (pc := 194) (tgt := 198) hx hb dX5_partShares_194 (by decide) ?_
                  exact hJ46 _ _ _ _ P (lv_sub hl [2, 3, 4, 5, 6, 1, 0] rfl) (Option.some.inj hF)
                · rw [if_neg hc] at hF
                  refine lv_aload_n (pc := 183) hx hb dX5_partShares_183 rfl (lv_at hl 2 rfl) ?_
                  refine r_gR (pc := 184) CX P hF fl_X5_21 dX5_partShares_184 (fun a51 hF => ?_)
                  refine lv_iload (pc := 187) hx hb dX5_partShares_187 (lv_at hl 0 rfl) ?_
                  refine r_aI (pc := 189) CX P hF dX5_partShares_189 (fun v52 hF => ?_)
                  refine lv_if_gt (pc := 190) (tgt := 197) hx hb dX5_partShares_190 (by decide) (fun hc => ?_) (fun hc => ?_)
                  · rw [if_pos hc] at hF
                    refine lv_iconst (pc := 197) (v := 0) hx hb dX5_partShares_197 (by decide) ?_
                    exact hJ46 _ _ _ _ P (lv_sub hl [2, 3, 4, 5, 6, 1, 0] rfl) (Option.some.inj hF)
                  · rw [if_neg hc] at hF
                    refine lv_iconst (pc := 193) (v := 1) hx hb dX5_partShares_193 (by decide) ?_
                    refine lv_goto (pc := 194) (tgt := 198) hx hb dX5_partShares_194 (by decide) ?_
                    exact hJ46 _ _ _ _ P (lv_sub hl [2, 3, 4, 5, 6, 1, 0] rfl) (Option.some.inj hF)
            · rw [if_pos hc] at hF
              refine lv_goto (pc := 157) (tgt := 245) hx hb dX5_partShares_157 (by decide) ?_
              obtain ⟨v68, ev68, hF⟩ := bl_o hF
              refine lv_iinc (pc := 245) (k := 6) (v := v68) hx hb dX5_partShares_245 hl rfl ev68 (by decide) rfl (fun ls hl => ?_)
              replace hl : lv_has ls 11 [(7, .int v68), (9, .int v45), (8, .int v43), (0, .ref (B + a0)), (2, .int vp2), (4, .ref (B + a1)), (6, .int v6)] := hl
              refine lv_goto (pc := 248) (tgt := 117) hx hb dX5_partShares_248 (by decide) ?_
              exact ih _ _ _ _ _ P (lv_sub hl [3, 4, 5, 6, 0] rfl) (hI34 _ (Option.some.inj hF).symm)
      exact hL34 _ _ _ _ _ _ P (lv_sub hl [1, 2, 3, 4, 0] rfl) hLp34
    have hL9 : ∀ (n : Nat) (v15 : Int32) (h16 : Hp) (H : Heap) (locs : List Loc) (ls : Array Slot), Pic G B h16 s H locs → lv_has ls 11 [(0, .ref (B + a0)), (2, .int vp2), (4, .ref (B + a1)), (5, .ref (B + a5)), (6, .int v6), (7, .int v15)] → loopF (fun x => F_X5_partShares_L42 a0 vp2 a1 a5 v6 x.1 x.2) n (v15, h16) = some r9 → W p l e (rmM 1 39 0 0) s m args below meth c H locs 0 0 Q (F0 m 42 ls []) := by
      intro n
      induction n with
      | zero => intro v15 h16 H locs ls P hl hq; cases hq
      | succ n ih =>
        intro v15 h16 H locs ls P hl hq
        obtain ⟨z9, hS9, hI9, hR9⟩ := loop_some hq
        have hF : F_X5_partShares_L42 a0 vp2 a1 a5 v6 v15 h16 = some z9 := hS9
        unfold F_X5_partShares_L42 at hF
        refine lv_iload (pc := 42) hx hb dX5_partShares_42 (lv_at hl 5 rfl) ?_
        refine lv_aload (pc := 44) hx hb dX5_partShares_44 (lv_at hl 2 rfl) ?_
        refine r_gI (pc := 46) CX P hF fl_X5_52 dX5_partShares_46 (fun v17 hF => ?_)
        refine lv_icmp_ge (pc := 49) (tgt := 114) hx hb dX5_partShares_49 (by decide) (fun hc => ?_) (fun hc => ?_)
        · rw [if_pos hc] at hF
          exact hX9 _ _ _ _ P (lv_sub hl [0, 1, 2, 4] rfl) (hR9 _ (Option.some.inj hF).symm)
        · rw [if_neg hc] at hF
          refine lv_aload (pc := 52) hx hb dX5_partShares_52 (lv_at hl 2 rfl) ?_
          refine r_gR (pc := 54) CX P hF fl_X5_56 dX5_partShares_54 (fun a18 hF => ?_)
          refine lv_iload (pc := 57) hx hb dX5_partShares_57 (lv_at hl 5 rfl) ?_
          refine r_aI (pc := 59) CX P hF dX5_partShares_59 (fun v19 hF => ?_)
          refine lv_istore (pc := 60) hx hb dX5_partShares_60 hl (by decide) rfl (fun ls hl => ?_)
          replace hl : lv_has ls 11 [(8, .int v19), (0, .ref (B + a0)), (2, .int vp2), (4, .ref (B + a1)), (5, .ref (B + a5)), (6, .int v6), (7, .int v15)] := hl
          refine lv_aload_n (pc := 62) hx hb dX5_partShares_62 rfl (lv_at hl 1 rfl) ?_
          refine r_gR (pc := 63) CX P hF fl_X5_18 dX5_partShares_63 (fun a20 hF => ?_)
          refine lv_iload (pc := 66) hx hb dX5_partShares_66 (lv_at hl 0 rfl) ?_
          refine lv_aload (pc := 68) hx hb dX5_partShares_68 (lv_at hl 4 rfl) ?_
          refine lv_iload (pc := 70) hx hb dX5_partShares_70 (lv_at hl 0 rfl) ?_
          refine r_aI (pc := 72) CX P hF dX5_partShares_72 (fun v21 hF => ?_)
          refine lv_aload (pc := 73) hx hb dX5_partShares_73 (lv_at hl 3 rfl) ?_
          refine r_gR (pc := 75) CX P hF fl_X5_59 dX5_partShares_75 (fun a22 hF => ?_)
          refine lv_iload (pc := 78) hx hb dX5_partShares_78 (lv_at hl 0 rfl) ?_
          refine r_aI (pc := 80) CX P hF dX5_partShares_80 (fun v23 hF => ?_)
          refine r_mn (pc := 81) CX hl.1 tw_467 tw_468 tw_14 tw_469 (Nat.le_of_ble_eq_true rfl) (Nat.le_of_ble_eq_true rfl) (Nat.le_of_ble_eq_true rfl) (Nat.le_of_ble_eq_true rfl) dX5_partShares_81 ?_
          refine r_sI (pc := 84) CX P hF dX5_partShares_84 (fun h24 H locs P hF => ?_)
          refine lv_aload_n (pc := 85) hx hb dX5_partShares_85 rfl (lv_at hl 1 rfl) ?_
          refine r_gR (pc := 86) CX P hF fl_X5_21 dX5_partShares_86 (fun a25 hF => ?_)
          refine lv_aload (pc := 89) hx hb dX5_partShares_89 (lv_at hl 3 rfl) ?_
          refine r_gR (pc := 91) CX P hF fl_X5_68 dX5_partShares_91 (fun a26 hF => ?_)
          refine lv_iload (pc := 94) hx hb dX5_partShares_94 (lv_at hl 0 rfl) ?_
          refine r_aI (pc := 96) CX P hF dX5_partShares_96 (fun v27 hF => ?_)
          refine lv_dup2_11 (pc := 97) hx hb dX5_partShares_97 rfl rfl ?_
          refine r_aI (pc := 98) CX P hF dX5_partShares_98 (fun v28 hF => ?_)
          refine lv_aload_n (pc := 99) hx hb dX5_partShares_99 rfl (lv_at hl 1 rfl) ?_
          refine r_gR (pc := 100) CX P hF fl_X5_18 dX5_partShares_100 (fun a29 hF => ?_)
          refine lv_iload (pc := 103) hx hb dX5_partShares_103 (lv_at hl 0 rfl) ?_
          refine r_aI (pc := 105) CX P hF dX5_partShares_105 (fun v30 hF => ?_)
          refine lv_iadd (pc := 106) hx hb dX5_partShares_106 ?_
          refine r_sI (pc := 107) CX P hF dX5_partShares_107 (fun h31 H locs P hF => ?_)
          obtain ⟨v32, ev32, hF⟩ := bl_o hF
          refine lv_iinc (pc := 108) (k := 6) (v := v32) hx hb dX5_partShares_108 hl rfl ev32 (by decide) rfl (fun ls hl => ?_)
          replace hl : lv_has ls 11 [(7, .int v32), (8, .int v19), (0, .ref (B + a0)), (2, .int vp2), (4, .ref (B + a1)), (5, .ref (B + a5)), (6, .int v6)] := hl
          refine lv_goto (pc := 111) (tgt := 42) hx hb dX5_partShares_111 (by decide) ?_
          exact ih _ _ _ _ _ P (lv_sub hl [2, 3, 4, 5, 6, 0] rfl) (hI9 _ (Option.some.inj hF).symm)
    exact hL9 _ _ _ _ _ _ P (lv_sub hl [3, 4, 5, 2, 1, 0] rfl) hLp9
  replace hF := hA3
  refine lv_if_ne (pc := 12) (tgt := 19) hx hb dX5_partShares_12 (by decide) (fun hc => ?_) (fun hc => ?_)
  · rw [if_neg hc] at hF
    refine lv_iconst (pc := 19) (v := 0) hx hb dX5_partShares_19 (by decide) ?_
    exact hJ3 _ _ _ _ P (lv_sub hl [1, 3, 0] rfl) (Option.some.inj hF)
  · rw [if_pos hc] at hF
    refine lv_iconst (pc := 15) (v := 1) hx hb dX5_partShares_15 (by decide) ?_
    refine lv_goto (pc := 16) (tgt := 20) hx hb dX5_partShares_16 (by decide) ?_
    exact hJ3 _ _ _ _ P (lv_sub hl [1, 3, 0] rfl) (Option.some.inj hF)
def F_X5_measureSwap_L7 (a3 : Nat) (a4 : Nat) (a5 : Nat) (v6 : Int32) (h7 : Hp) : Option ((Int32 × Hp) ⊕ (Hp)) :=
(gI h7 a5 6 2).bind fun v8 =>
if v8 ≤ v6 then (
some (.inr h7)) else (
(gR h7 a5 6 1).bind fun a9 =>
(aI h7 a9 v6).bind fun v10 =>
(if v10 = 0 then (
(gI h7 a4 8 5).bind fun v16 =>
(gR h7 a5 6 6).bind fun a17 =>
(aI h7 a17 0).bind fun v18 =>
some (v16 - v18 : Int32)) else (
(gR h7 a3 5 5).bind fun a12 =>
(gR h7 a5 6 0).bind fun a13 =>
(aI h7 a13 v10).bind fun v14 =>
(aI h7 a12 v14).bind fun v15 =>
some (v15 : Int32))).bind fun v19 =>
(gR h7 a5 6 3).bind fun a20 =>
(aR h7 a20 15 5).bind fun a21 =>
(aI h7 a21 v10).bind fun v22 =>
(gR h7 a5 6 6).bind fun a23 =>
(aI h7 a23 v10).bind fun v24 =>
bl (mxI 0 (v22 - v24)) fun v25 =>
(gR h7 a3 5 5).bind fun a26 =>
(sI h7 a26 v10 (mnI v19 v25)).bind fun h27 =>
bl (v6 + 1) fun v28 =>
some (.inl (v28, h27)))
def F_X5_measureSwap (h : Hp) (a0 : Nat) (ap1 : Nat) : Option (Hp) :=
(gR h ap1 8 0).bind fun a1 =>
(loopF (fun x => F_X5_measureSwap_L7 a0 ap1 a1 x.1 x.2) 6000 (0, h)).bind fun h29 =>
some h29
set_option maxRecDepth 100000 in
set_option maxHeartbeats 4000000 in
theorem c_X5_measureSwap (l : Launch) (G : GG) (B : Nat) (h : Hp) (a0 : Nat) (ap1 : Nat) (hr : Hp) (hF : F_X5_measureSwap h a0 ap1 = some hr) : CV l yX5_measureSwap cX5_measureSwap 7 1 39 0 0 G B h [.ref (B + a0), .ref (B + ap1)] hr := by
  refine ent_v rfl (Nat.le_of_ble_eq_true rfl) ?_
  intro p e s m args below meth c ls Q CX hnm hret P hl
  have CX : Cxt p m c cX5_measureSwap 7 s args RX5 G B := CX
  obtain ⟨⟨hx, hb, hml, hown, hts⟩, -, -⟩ := id CX
  replace hl : lv_has ls 7 [(0, .ref (B + a0)), (1, .ref (B + ap1))] := hl
  generalize s.heap = H at P ⊢
  generalize ([] : List Loc) = locs at P ⊢
  unfold F_X5_measureSwap at hF
  refine lv_aload_n (pc := 0) hx hb dX5_measureSwap_0 rfl (lv_at hl 1 rfl) ?_
  refine r_gR (pc := 1) CX P hF fl_X5_30 dX5_measureSwap_1 (fun a1 hF => ?_)
  refine lv_astore_n (pc := 4) hx hb dX5_measureSwap_4 rfl hl (by decide) rfl (fun ls hl => ?_)
  replace hl : lv_has ls 7 [(2, .ref (B + a1)), (0, .ref (B + a0)), (1, .ref (B + ap1))] := hl
  refine lv_iconst (pc := 5) (v := 0) hx hb dX5_measureSwap_5 (by decide) ?_
  refine lv_istore_n (pc := 6) hx hb dX5_measureSwap_6 rfl hl (by decide) rfl (fun ls hl => ?_)
  replace hl : lv_has ls 7 [(3, .int 0), (2, .ref (B + a1)), (0, .ref (B + a0)), (1, .ref (B + ap1))] := hl
  obtain ⟨r2, hLp2, hK2⟩ := bd_some hF
  have hX2 : ∀ (h29 : Hp) (H : Heap) (locs : List Loc) (ls : Array Slot), Pic G B h29 s H locs → lv_has ls 7 [] → h29 = r2 → W p l e (rmM 1 39 0 0) s m args below meth c H locs 0 0 Q (F0 m 99 ls []) := by
    intro h29 H locs ls P hl er
    subst er
    have hF := hK2
    cases hF
    exact hret _ _ _ _ P dX5_measureSwap_99
  have hL2 : ∀ (n : Nat) (v6 : Int32) (h7 : Hp) (H : Heap) (locs : List Loc) (ls : Array Slot), Pic G B h7 s H locs → lv_has ls 7 [(0, .ref (B + a0)), (1, .ref (B + ap1)), (2, .ref (B + a1)), (3, .int v6)] → loopF (fun x => F_X5_measureSwap_L7 a0 ap1 a1 x.1 x.2) n (v6, h7) = some r2 → W p l e (rmM 1 39 0 0) s m args below meth c H locs 0 0 Q (F0 m 7 ls []) := by
    intro n
    induction n with
    | zero => intro v6 h7 H locs ls P hl hq; cases hq
    | succ n ih =>
      intro v6 h7 H locs ls P hl hq
      obtain ⟨z2, hS2, hI2, hR2⟩ := loop_some hq
      have hF : F_X5_measureSwap_L7 a0 ap1 a1 v6 h7 = some z2 := hS2
      unfold F_X5_measureSwap_L7 at hF
      refine lv_iload_n (pc := 7) hx hb dX5_measureSwap_7 rfl (lv_at hl 3 rfl) ?_
      refine lv_aload_n (pc := 8) hx hb dX5_measureSwap_8 rfl (lv_at hl 2 rfl) ?_
      refine r_gI (pc := 9) CX P hF fl_X5_52 dX5_measureSwap_9 (fun v8 hF => ?_)
      refine lv_icmp_ge (pc := 12) (tgt := 99) hx hb dX5_measureSwap_12 (by decide) (fun hc => ?_) (fun hc => ?_)
      · rw [if_pos hc] at hF
        exact hX2 _ _ _ _ P (lv_sub hl [] rfl) (hR2 _ (Option.some.inj hF).symm)
      · rw [if_neg hc] at hF
        refine lv_aload_n (pc := 15) hx hb dX5_measureSwap_15 rfl (lv_at hl 2 rfl) ?_
        refine r_gR (pc := 16) CX P hF fl_X5_56 dX5_measureSwap_16 (fun a9 hF => ?_)
        refine lv_iload_n (pc := 19) hx hb dX5_measureSwap_19 rfl (lv_at hl 3 rfl) ?_
        refine r_aI (pc := 20) CX P hF dX5_measureSwap_20 (fun v10 hF => ?_)
        refine lv_istore (pc := 21) hx hb dX5_measureSwap_21 hl (by decide) rfl (fun ls hl => ?_)
        replace hl : lv_has ls 7 [(4, .int v10), (0, .ref (B + a0)), (1, .ref (B + ap1)), (2, .ref (B + a1)), (3, .int v6)] := hl
        refine lv_iload (pc := 23) hx hb dX5_measureSwap_23 (lv_at hl 0 rfl) ?_
        obtain ⟨j11, hA11, hK11⟩ := bd_some hF
        have hJ11 : ∀ (v19 : Int32) (H : Heap) (locs : List Loc) (ls : Array Slot), Pic G B h7 s H locs → lv_has ls 7 [(0, .ref (B + a0)), (1, .ref (B + ap1)), (2, .ref (B + a1)), (3, .int v6), (4, .int v10)] → v19 = j11 → W p l e (rmM 1 39 0 0) s m args below meth c H locs 0 0 Q (F0 m 54 ls [.int v19]) := by
          intro v19 H locs ls P hl ej
          subst ej
          have hF := hK11
          refine lv_istore (pc := 54) hx hb dX5_measureSwap_54 hl (by decide) rfl (fun ls hl => ?_)
          replace hl : lv_has ls 7 [(5, .int v19), (0, .ref (B + a0)), (1, .ref (B + ap1)), (2, .ref (B + a1)), (3, .int v6), (4, .int v10)] := hl
          refine lv_iconst (pc := 56) (v := 0) hx hb dX5_measureSwap_56 (by decide) ?_
          refine lv_aload_n (pc := 57) hx hb dX5_measureSwap_57 rfl (lv_at hl 3 rfl) ?_
          refine r_gR (pc := 58) CX P hF fl_X5_36 dX5_measureSwap_58 (fun a20 hF => ?_)
          refine lv_iconst (pc := 61) (v := 5) hx hb dX5_measureSwap_61 (by decide) ?_
          refine r_aR (pc := 62) CX P hF (Or.inr (Or.inl rfl)) dX5_measureSwap_62 (fun a21 hF => ?_)
          refine lv_iload (pc := 63) hx hb dX5_measureSwap_63 (lv_at hl 5 rfl) ?_
          refine r_aI (pc := 65) CX P hF dX5_measureSwap_65 (fun v22 hF => ?_)
          refine lv_aload_n (pc := 66) hx hb dX5_measureSwap_66 rfl (lv_at hl 3 rfl) ?_
          refine r_gR (pc := 67) CX P hF fl_X5_92 dX5_measureSwap_67 (fun a23 hF => ?_)
          refine lv_iload (pc := 70) hx hb dX5_measureSwap_70 (lv_at hl 5 rfl) ?_
          refine r_aI (pc := 72) CX P hF dX5_measureSwap_72 (fun v24 hF => ?_)
          refine lv_isub (pc := 73) hx hb dX5_measureSwap_73 ?_
          refine r_mx (pc := 74) CX hl.1 tw_474 tw_475 tw_14 tw_476 (Nat.le_of_ble_eq_true rfl) (Nat.le_of_ble_eq_true rfl) (Nat.le_of_ble_eq_true rfl) (Nat.le_of_ble_eq_true rfl) dX5_measureSwap_74 ?_
          refine lv_topi (fun v25 ev25 => ?_)
          replace hF := bl_e hF ev25
          refine lv_istore (pc := 77) hx hb dX5_measureSwap_77 hl (by decide) rfl (fun ls hl => ?_)
          replace hl : lv_has ls 7 [(6, .int v25), (5, .int v19), (0, .ref (B + a0)), (1, .ref (B + ap1)), (2, .ref (B + a1)), (3, .int v6), (4, .int v10)] := hl
          refine lv_aload_n (pc := 79) hx hb dX5_measureSwap_79 rfl (lv_at hl 2 rfl) ?_
          refine r_gR (pc := 80) CX P hF fl_X5_27 dX5_measureSwap_80 (fun a26 hF => ?_)
          refine lv_iload (pc := 83) hx hb dX5_measureSwap_83 (lv_at hl 6 rfl) ?_
          refine lv_iload (pc := 85) hx hb dX5_measureSwap_85 (lv_at hl 1 rfl) ?_
          refine lv_iload (pc := 87) hx hb dX5_measureSwap_87 (lv_at hl 0 rfl) ?_
          refine r_mn (pc := 89) CX hl.1 tw_467 tw_468 tw_14 tw_469 (Nat.le_of_ble_eq_true rfl) (Nat.le_of_ble_eq_true rfl) (Nat.le_of_ble_eq_true rfl) (Nat.le_of_ble_eq_true rfl) dX5_measureSwap_89 ?_
          refine r_sI (pc := 92) CX P hF dX5_measureSwap_92 (fun h27 H locs P hF => ?_)
          obtain ⟨v28, ev28, hF⟩ := bl_o hF
          refine lv_iinc (pc := 93) (k := 5) (v := v28) hx hb dX5_measureSwap_93 hl rfl ev28 (by decide) rfl (fun ls hl => ?_)
          replace hl : lv_has ls 7 [(3, .int v28), (6, .int v25), (5, .int v19), (0, .ref (B + a0)), (1, .ref (B + ap1)), (2, .ref (B + a1)), (4, .int v10)] := hl
          refine lv_goto (pc := 96) (tgt := 7) hx hb dX5_measureSwap_96 (by decide) ?_
          exact ih _ _ _ _ _ P (lv_sub hl [3, 4, 5, 0] rfl) (hI2 _ (Option.some.inj hF).symm)
        replace hF := hA11
        refine lv_if_ne (pc := 25) (tgt := 42) hx hb dX5_measureSwap_25 (by decide) (fun hc => ?_) (fun hc => ?_)
        · rw [if_neg hc] at hF
          refine lv_aload_n (pc := 42) hx hb dX5_measureSwap_42 rfl (lv_at hl 1 rfl) ?_
          refine r_gR (pc := 43) CX P hF fl_X5_27 dX5_measureSwap_43 (fun a12 hF => ?_)
          refine lv_aload_n (pc := 46) hx hb dX5_measureSwap_46 rfl (lv_at hl 3 rfl) ?_
          refine r_gR (pc := 47) CX P hF fl_X5_68 dX5_measureSwap_47 (fun a13 hF => ?_)
          refine lv_iload (pc := 50) hx hb dX5_measureSwap_50 (lv_at hl 0 rfl) ?_
          refine r_aI (pc := 52) CX P hF dX5_measureSwap_52 (fun v14 hF => ?_)
          refine r_aI (pc := 53) CX P hF dX5_measureSwap_53 (fun v15 hF => ?_)
          exact hJ11 _ _ _ _ P (lv_sub hl [1, 2, 3, 4, 0] rfl) (Option.some.inj hF)
        · rw [if_pos hc] at hF
          refine lv_aload_n (pc := 28) hx hb dX5_measureSwap_28 rfl (lv_at hl 2 rfl) ?_
          refine r_gI (pc := 29) CX P hF fl_X5_89 dX5_measureSwap_29 (fun v16 hF => ?_)
          refine lv_aload_n (pc := 32) hx hb dX5_measureSwap_32 rfl (lv_at hl 3 rfl) ?_
          refine r_gR (pc := 33) CX P hF fl_X5_92 dX5_measureSwap_33 (fun a17 hF => ?_)
          refine lv_iconst (pc := 36) (v := 0) hx hb dX5_measureSwap_36 (by decide) ?_
          refine r_aI (pc := 37) CX P hF dX5_measureSwap_37 (fun v18 hF => ?_)
          refine lv_isub (pc := 38) hx hb dX5_measureSwap_38 ?_
          refine lv_goto (pc := 39) (tgt := 54) hx hb dX5_measureSwap_39 (by decide) ?_
          exact hJ11 _ _ _ _ P (lv_sub hl [1, 2, 3, 4, 0] rfl) (Option.some.inj hF)
  exact hL2 _ _ _ _ _ _ P (lv_sub hl [2, 3, 1, 0] rfl) hLp2
