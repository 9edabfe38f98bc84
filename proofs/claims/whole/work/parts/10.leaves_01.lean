def F_X1_copyFrom_L2 (a2 : Nat) (a3 : Nat) (v4 : Int32) (h5 : Hp) : Option ((Int32 × Hp) ⊕ (Hp)) :=
if 3 ≤ v4 then (
some (.inr h5)) else (
(gR h5 a3 1 0).bind fun a6 =>
(aR h5 a6 16 v4).bind fun a7 =>
(gR h5 a2 1 0).bind fun a8 =>
(aR h5 a8 16 v4).bind fun a9 =>
(cpJ h5 a7 0 a9 0 12).bind fun h10 =>
(gR h10 a3 1 1).bind fun a11 =>
(aR h10 a11 15 v4).bind fun a12 =>
(gR h10 a2 1 1).bind fun a13 =>
(aR h10 a13 15 v4).bind fun a14 =>
(cpI h10 a12 0 a14 0 12).bind fun h15 =>
bl (v4 + 1) fun v16 =>
some (.inl (v16, h15)))
def F_X1_copyFrom_L53 (a19 : Nat) (a20 : Nat) (v21 : Int32) (h22 : Hp) : Option ((Int32 × Hp) ⊕ (Hp)) :=
if 9 ≤ v21 then (
some (.inr h22)) else (
(gR h22 a20 1 2).bind fun a23 =>
(aR h22 a23 15 v21).bind fun a24 =>
(gR h22 a19 1 2).bind fun a25 =>
(aR h22 a25 15 v21).bind fun a26 =>
(cpI h22 a24 0 a26 0 12).bind fun h27 =>
bl (v21 + 1) fun v28 =>
some (.inl (v28, h27)))
def F_X1_copyFrom (h : Hp) (a0 : Nat) (ap1 : Nat) : Option (Hp) :=
(loopF (fun x => F_X1_copyFrom_L2 a0 ap1 x.1 x.2) 6000 (0, h)).bind fun h17 =>
(loopF (fun x => F_X1_copyFrom_L53 a0 ap1 x.1 x.2) 6000 (0, h17)).bind fun h29 =>
some h29
set_option maxRecDepth 100000 in
set_option maxHeartbeats 4000000 in
theorem c_X1_copyFrom (l : Launch) (G : GG) (B : Nat) (h : Hp) (a0 : Nat) (ap1 : Nat) (hr : Hp) (hF : F_X1_copyFrom h a0 ap1 = some hr) : CV l yX1_copyFrom cX1_copyFrom 3 1 99 0 0 G B h [.ref (B + a0), .ref (B + ap1)] hr := by
  refine ent_v rfl (Nat.le_of_ble_eq_true rfl) ?_
  intro p e s m args below meth c ls Q CX hnm hret P hl
  have CX : Cxt p m c cX1_copyFrom 3 s args RX1 G B := CX
  obtain ⟨⟨hx, hb, hml, hown, hts⟩, -, -⟩ := id CX
  replace hl : lv_has ls 3 [(0, .ref (B + a0)), (1, .ref (B + ap1))] := hl
  generalize s.heap = H at P ⊢
  generalize ([] : List Loc) = locs at P ⊢
  unfold F_X1_copyFrom at hF
  refine lv_iconst (pc := 0) (v := 0) hx hb dX1_copyFrom_0 (by decide) ?_
  refine lv_istore_n (pc := 1) hx hb dX1_copyFrom_1 rfl hl (by decide) rfl (fun ls hl => ?_)
  replace hl : lv_has ls 3 [(2, .int 0), (0, .ref (B + a0)), (1, .ref (B + ap1))] := hl
  obtain ⟨r1, hLp1, hK1⟩ := bd_some hF
  have hX1 : ∀ (h17 : Hp) (H : Heap) (locs : List Loc) (ls : Array Slot), Pic G B h17 s H locs → lv_has ls 3 [(0, .ref (B + a0)), (1, .ref (B + ap1))] → h17 = r1 → W p l e (rmM 1 99 0 0) s m args below meth c H locs 0 0 Q (F0 m 51 ls []) := by
    intro h17 H locs ls P hl er
    subst er
    have hF := hK1
    refine lv_iconst (pc := 51) (v := 0) hx hb dX1_copyFrom_51 (by decide) ?_
    refine lv_istore_n (pc := 52) hx hb dX1_copyFrom_52 rfl hl (by decide) rfl (fun ls hl => ?_)
    replace hl : lv_has ls 3 [(2, .int 0), (0, .ref (B + a0)), (1, .ref (B + ap1))] := hl
    obtain ⟨r18, hLp18, hK18⟩ := bd_some hF
    have hX18 : ∀ (h29 : Hp) (H : Heap) (locs : List Loc) (ls : Array Slot), Pic G B h29 s H locs → lv_has ls 3 [] → h29 = r18 → W p l e (rmM 1 99 0 0) s m args below meth c H locs 0 0 Q (F0 m 84 ls []) := by
      intro h29 H locs ls P hl er
      subst er
      have hF := hK18
      cases hF
      exact hret _ _ _ _ P dX1_copyFrom_84
    have hL18 : ∀ (n : Nat) (v21 : Int32) (h22 : Hp) (H : Heap) (locs : List Loc) (ls : Array Slot), Pic G B h22 s H locs → lv_has ls 3 [(0, .ref (B + a0)), (1, .ref (B + ap1)), (2, .int v21)] → loopF (fun x => F_X1_copyFrom_L53 a0 ap1 x.1 x.2) n (v21, h22) = some r18 → W p l e (rmM 1 99 0 0) s m args below meth c H locs 0 0 Q (F0 m 53 ls []) := by
      intro n
      induction n with
      | zero => intro v21 h22 H locs ls P hl hq; cases hq
      | succ n ih =>
        intro v21 h22 H locs ls P hl hq
        obtain ⟨z18, hS18, hI18, hR18⟩ := loop_some hq
        have hF : F_X1_copyFrom_L53 a0 ap1 v21 h22 = some z18 := hS18
        unfold F_X1_copyFrom_L53 at hF
        refine lv_iload_n (pc := 53) hx hb dX1_copyFrom_53 rfl (lv_at hl 2 rfl) ?_
        refine lv_bipush (pc := 54) (v := 9) hx hb dX1_copyFrom_54 (by decide) ?_
        refine lv_icmp_ge (pc := 56) (tgt := 84) hx hb dX1_copyFrom_56 (by decide) (fun hc => ?_) (fun hc => ?_)
        · rw [if_pos hc] at hF
          exact hX18 _ _ _ _ P (lv_sub hl [] rfl) (hR18 _ (Option.some.inj hF).symm)
        · rw [if_neg hc] at hF
          refine lv_aload_n (pc := 59) hx hb dX1_copyFrom_59 rfl (lv_at hl 1 rfl) ?_
          refine r_gR (pc := 60) CX P hF fl_X1_21 dX1_copyFrom_60 (fun a23 hF => ?_)
          refine lv_iload_n (pc := 63) hx hb dX1_copyFrom_63 rfl (lv_at hl 2 rfl) ?_
          refine r_aR (pc := 64) CX P hF (Or.inr (Or.inl rfl)) dX1_copyFrom_64 (fun a24 hF => ?_)
          refine lv_iconst (pc := 65) (v := 0) hx hb dX1_copyFrom_65 (by decide) ?_
          refine lv_aload_n (pc := 66) hx hb dX1_copyFrom_66 rfl (lv_at hl 0 rfl) ?_
          refine r_gR (pc := 67) CX P hF fl_X1_21 dX1_copyFrom_67 (fun a25 hF => ?_)
          refine lv_iload_n (pc := 70) hx hb dX1_copyFrom_70 rfl (lv_at hl 2 rfl) ?_
          refine r_aR (pc := 71) CX P hF (Or.inr (Or.inl rfl)) dX1_copyFrom_71 (fun a26 hF => ?_)
          refine lv_iconst (pc := 72) (v := 0) hx hb dX1_copyFrom_72 (by decide) ?_
          refine lv_bipush (pc := 73) (v := 12) hx hb dX1_copyFrom_73 (by decide) ?_
          refine r_cpI (pc := 75) CX P hl.1 hF tw_381 tw_371 tw_370 tw_13 (Nat.le_of_ble_eq_true rfl) (Nat.le_of_ble_eq_true rfl) dX1_copyFrom_75 (fun h27 H locs P hF => ?_)
          obtain ⟨v28, ev28, hF⟩ := bl_o hF
          refine lv_iinc (pc := 78) (k := 2) (v := v28) hx hb dX1_copyFrom_78 hl rfl ev28 (by decide) rfl (fun ls hl => ?_)
          replace hl : lv_has ls 3 [(2, .int v28), (0, .ref (B + a0)), (1, .ref (B + ap1))] := hl
          refine lv_goto (pc := 81) (tgt := 53) hx hb dX1_copyFrom_81 (by decide) ?_
          exact ih _ _ _ _ _ P (lv_sub hl [1, 2, 0] rfl) (hI18 _ (Option.some.inj hF).symm)
    exact hL18 _ _ _ _ _ _ P (lv_sub hl [1, 2, 0] rfl) hLp18
  have hL1 : ∀ (n : Nat) (v4 : Int32) (h5 : Hp) (H : Heap) (locs : List Loc) (ls : Array Slot), Pic G B h5 s H locs → lv_has ls 3 [(0, .ref (B + a0)), (1, .ref (B + ap1)), (2, .int v4)] → loopF (fun x => F_X1_copyFrom_L2 a0 ap1 x.1 x.2) n (v4, h5) = some r1 → W p l e (rmM 1 99 0 0) s m args below meth c H locs 0 0 Q (F0 m 2 ls []) := by
    intro n
    induction n with
    | zero => intro v4 h5 H locs ls P hl hq; cases hq
    | succ n ih =>
      intro v4 h5 H locs ls P hl hq
      obtain ⟨z1, hS1, hI1, hR1⟩ := loop_some hq
      have hF : F_X1_copyFrom_L2 a0 ap1 v4 h5 = some z1 := hS1
      unfold F_X1_copyFrom_L2 at hF
      refine lv_iload_n (pc := 2) hx hb dX1_copyFrom_2 rfl (lv_at hl 2 rfl) ?_
      refine lv_iconst (pc := 3) (v := 3) hx hb dX1_copyFrom_3 (by decide) ?_
      refine lv_icmp_ge (pc := 4) (tgt := 51) hx hb dX1_copyFrom_4 (by decide) (fun hc => ?_) (fun hc => ?_)
      · rw [if_pos hc] at hF
        exact hX1 _ _ _ _ P (lv_sub hl [0, 1] rfl) (hR1 _ (Option.some.inj hF).symm)
      · rw [if_neg hc] at hF
        refine lv_aload_n (pc := 7) hx hb dX1_copyFrom_7 rfl (lv_at hl 1 rfl) ?_
        refine r_gR (pc := 8) CX P hF fl_X1_11 dX1_copyFrom_8 (fun a6 hF => ?_)
        refine lv_iload_n (pc := 11) hx hb dX1_copyFrom_11 rfl (lv_at hl 2 rfl) ?_
        refine r_aR (pc := 12) CX P hF (Or.inr (Or.inr rfl)) dX1_copyFrom_12 (fun a7 hF => ?_)
        refine lv_iconst (pc := 13) (v := 0) hx hb dX1_copyFrom_13 (by decide) ?_
        refine lv_aload_n (pc := 14) hx hb dX1_copyFrom_14 rfl (lv_at hl 0 rfl) ?_
        refine r_gR (pc := 15) CX P hF fl_X1_11 dX1_copyFrom_15 (fun a8 hF => ?_)
        refine lv_iload_n (pc := 18) hx hb dX1_copyFrom_18 rfl (lv_at hl 2 rfl) ?_
        refine r_aR (pc := 19) CX P hF (Or.inr (Or.inr rfl)) dX1_copyFrom_19 (fun a9 hF => ?_)
        refine lv_iconst (pc := 20) (v := 0) hx hb dX1_copyFrom_20 (by decide) ?_
        refine lv_bipush (pc := 21) (v := 12) hx hb dX1_copyFrom_21 (by decide) ?_
        refine r_cpJ (pc := 23) CX P hl.1 hF tw_381 tw_371 tw_370 tw_13 (Nat.le_of_ble_eq_true rfl) (Nat.le_of_ble_eq_true rfl) dX1_copyFrom_23 (fun h10 H locs P hF => ?_)
        refine lv_aload_n (pc := 26) hx hb dX1_copyFrom_26 rfl (lv_at hl 1 rfl) ?_
        refine r_gR (pc := 27) CX P hF fl_X1_18 dX1_copyFrom_27 (fun a11 hF => ?_)
        refine lv_iload_n (pc := 30) hx hb dX1_copyFrom_30 rfl (lv_at hl 2 rfl) ?_
        refine r_aR (pc := 31) CX P hF (Or.inr (Or.inl rfl)) dX1_copyFrom_31 (fun a12 hF => ?_)
        refine lv_iconst (pc := 32) (v := 0) hx hb dX1_copyFrom_32 (by decide) ?_
        refine lv_aload_n (pc := 33) hx hb dX1_copyFrom_33 rfl (lv_at hl 0 rfl) ?_
        refine r_gR (pc := 34) CX P hF fl_X1_18 dX1_copyFrom_34 (fun a13 hF => ?_)
        refine lv_iload_n (pc := 37) hx hb dX1_copyFrom_37 rfl (lv_at hl 2 rfl) ?_
        refine r_aR (pc := 38) CX P hF (Or.inr (Or.inl rfl)) dX1_copyFrom_38 (fun a14 hF => ?_)
        refine lv_iconst (pc := 39) (v := 0) hx hb dX1_copyFrom_39 (by decide) ?_
        refine lv_bipush (pc := 40) (v := 12) hx hb dX1_copyFrom_40 (by decide) ?_
        refine r_cpI (pc := 42) CX P hl.1 hF tw_381 tw_371 tw_370 tw_13 (Nat.le_of_ble_eq_true rfl) (Nat.le_of_ble_eq_true rfl) dX1_copyFrom_42 (fun h15 H locs P hF => ?_)
        obtain ⟨v16, ev16, hF⟩ := bl_o hF
        refine lv_iinc (pc := 45) (k := 2) (v := v16) hx hb dX1_copyFrom_45 hl rfl ev16 (by decide) rfl (fun ls hl => ?_)
        replace hl : lv_has ls 3 [(2, .int v16), (0, .ref (B + a0)), (1, .ref (B + ap1))] := hl
        refine lv_goto (pc := 48) (tgt := 2) hx hb dX1_copyFrom_48 (by decide) ?_
        exact ih _ _ _ _ _ P (lv_sub hl [1, 2, 0] rfl) (hI1 _ (Option.some.inj hF).symm)
  exact hL1 _ _ _ _ _ _ P (lv_sub hl [1, 2, 0] rfl) hLp1
def F_X7_copyFrom (h : Hp) (a0 : Nat) (ap1 : Nat) : Option (Hp) :=
(gR h ap1 7 0).bind fun a1 =>
(gR h a0 7 0).bind fun a2 =>
(cpI h a1 0 a2 0 4).bind fun h3 =>
(gR h3 ap1 7 1).bind fun a4 =>
(gR h3 a0 7 1).bind fun a5 =>
(cpI h3 a4 0 a5 0 4).bind fun h6 =>
(gR h6 ap1 7 2).bind fun a7 =>
(gR h6 a0 7 2).bind fun a8 =>
(cpI h6 a7 0 a8 0 4).bind fun h9 =>
(gR h9 ap1 7 3).bind fun a10 =>
(gR h9 a0 7 3).bind fun a11 =>
(cpI h9 a10 0 a11 0 4).bind fun h12 =>
(gI h12 ap1 7 4).bind fun v13 =>
(pI h12 a0 7 4 v13).bind fun h14 =>
some h14
set_option maxRecDepth 100000 in
set_option maxHeartbeats 4000000 in
theorem c_X7_copyFrom (l : Launch) (G : GG) (B : Nat) (h : Hp) (a0 : Nat) (ap1 : Nat) (hr : Hp) (hF : F_X7_copyFrom h a0 ap1 = some hr) : CV l yX7_copyFrom cX7_copyFrom 2 1 99 0 0 G B h [.ref (B + a0), .ref (B + ap1)] hr := by
  refine ent_v rfl (Nat.le_of_ble_eq_true rfl) ?_
  intro p e s m args below meth c ls Q CX hnm hret P hl
  have CX : Cxt p m c cX7_copyFrom 2 s args RX7 G B := CX
  obtain ⟨⟨hx, hb, hml, hown, hts⟩, -, -⟩ := id CX
  replace hl : lv_has ls 2 [(0, .ref (B + a0)), (1, .ref (B + ap1))] := hl
  generalize s.heap = H at P ⊢
  generalize ([] : List Loc) = locs at P ⊢
  unfold F_X7_copyFrom at hF
  refine lv_aload_n (pc := 0) hx hb dX7_copyFrom_0 rfl (lv_at hl 1 rfl) ?_
  refine r_gR (pc := 1) CX P hF fl_X7_9 dX7_copyFrom_1 (fun a1 hF => ?_)
  refine lv_iconst (pc := 4) (v := 0) hx hb dX7_copyFrom_4 (by decide) ?_
  refine lv_aload_n (pc := 5) hx hb dX7_copyFrom_5 rfl (lv_at hl 0 rfl) ?_
  refine r_gR (pc := 6) CX P hF fl_X7_9 dX7_copyFrom_6 (fun a2 hF => ?_)
  refine lv_iconst (pc := 9) (v := 0) hx hb dX7_copyFrom_9 (by decide) ?_
  refine lv_iconst (pc := 10) (v := 4) hx hb dX7_copyFrom_10 (by decide) ?_
  refine r_cpI (pc := 11) CX P hl.1 hF tw_386 tw_371 tw_370 tw_13 (Nat.le_of_ble_eq_true rfl) (Nat.le_of_ble_eq_true rfl) dX7_copyFrom_11 (fun h3 H locs P hF => ?_)
  refine lv_aload_n (pc := 14) hx hb dX7_copyFrom_14 rfl (lv_at hl 1 rfl) ?_
  refine r_gR (pc := 15) CX P hF fl_X7_15 dX7_copyFrom_15 (fun a4 hF => ?_)
  refine lv_iconst (pc := 18) (v := 0) hx hb dX7_copyFrom_18 (by decide) ?_
  refine lv_aload_n (pc := 19) hx hb dX7_copyFrom_19 rfl (lv_at hl 0 rfl) ?_
  refine r_gR (pc := 20) CX P hF fl_X7_15 dX7_copyFrom_20 (fun a5 hF => ?_)
  refine lv_iconst (pc := 23) (v := 0) hx hb dX7_copyFrom_23 (by decide) ?_
  refine lv_iconst (pc := 24) (v := 4) hx hb dX7_copyFrom_24 (by decide) ?_
  refine r_cpI (pc := 25) CX P hl.1 hF tw_386 tw_371 tw_370 tw_13 (Nat.le_of_ble_eq_true rfl) (Nat.le_of_ble_eq_true rfl) dX7_copyFrom_25 (fun h6 H locs P hF => ?_)
  refine lv_aload_n (pc := 28) hx hb dX7_copyFrom_28 rfl (lv_at hl 1 rfl) ?_
  refine r_gR (pc := 29) CX P hF fl_X7_18 dX7_copyFrom_29 (fun a7 hF => ?_)
  refine lv_iconst (pc := 32) (v := 0) hx hb dX7_copyFrom_32 (by decide) ?_
  refine lv_aload_n (pc := 33) hx hb dX7_copyFrom_33 rfl (lv_at hl 0 rfl) ?_
  refine r_gR (pc := 34) CX P hF fl_X7_18 dX7_copyFrom_34 (fun a8 hF => ?_)
  refine lv_iconst (pc := 37) (v := 0) hx hb dX7_copyFrom_37 (by decide) ?_
  refine lv_iconst (pc := 38) (v := 4) hx hb dX7_copyFrom_38 (by decide) ?_
  refine r_cpI (pc := 39) CX P hl.1 hF tw_386 tw_371 tw_370 tw_13 (Nat.le_of_ble_eq_true rfl) (Nat.le_of_ble_eq_true rfl) dX7_copyFrom_39 (fun h9 H locs P hF => ?_)
  refine lv_aload_n (pc := 42) hx hb dX7_copyFrom_42 rfl (lv_at hl 1 rfl) ?_
  refine r_gR (pc := 43) CX P hF fl_X7_21 dX7_copyFrom_43 (fun a10 hF => ?_)
  refine lv_iconst (pc := 46) (v := 0) hx hb dX7_copyFrom_46 (by decide) ?_
  refine lv_aload_n (pc := 47) hx hb dX7_copyFrom_47 rfl (lv_at hl 0 rfl) ?_
  refine r_gR (pc := 48) CX P hF fl_X7_21 dX7_copyFrom_48 (fun a11 hF => ?_)
  refine lv_iconst (pc := 51) (v := 0) hx hb dX7_copyFrom_51 (by decide) ?_
  refine lv_iconst (pc := 52) (v := 4) hx hb dX7_copyFrom_52 (by decide) ?_
  refine r_cpI (pc := 53) CX P hl.1 hF tw_386 tw_371 tw_370 tw_13 (Nat.le_of_ble_eq_true rfl) (Nat.le_of_ble_eq_true rfl) dX7_copyFrom_53 (fun h12 H locs P hF => ?_)
  refine lv_aload_n (pc := 56) hx hb dX7_copyFrom_56 rfl (lv_at hl 0 rfl) ?_
  refine lv_aload_n (pc := 57) hx hb dX7_copyFrom_57 rfl (lv_at hl 1 rfl) ?_
  refine r_gI (pc := 58) CX P hF fl_X7_30 dX7_copyFrom_58 (fun v13 hF => ?_)
  refine r_pI (pc := 61) CX P hF fl_X7_30 dX7_copyFrom_61 (fun h14 H locs P hF => ?_)
  cases hF
  exact hret _ _ _ _ P dX7_copyFrom_64
def F_X1_clearGroup_L2 (a2 : Nat) (v3 : Int32) (v4 : Int32) (h5 : Hp) : Option ((Int32 × Hp) ⊕ (Hp)) :=
if 3 ≤ v4 then (
some (.inr h5)) else (
(gR h5 a2 1 0).bind fun a6 =>
(aR h5 a6 16 v4).bind fun a7 =>
(sJ h5 a7 v3 0).bind fun h8 =>
(gR h8 a2 1 1).bind fun a9 =>
(aR h8 a9 15 v4).bind fun a10 =>
(sI h8 a10 v3 0).bind fun h11 =>
bl (v4 + 1) fun v12 =>
some (.inl (v12, h11)))
def F_X1_clearGroup_L33 (a15 : Nat) (v16 : Int32) (v17 : Int32) (h18 : Hp) : Option ((Int32 × Hp) ⊕ (Hp)) :=
if 9 ≤ v17 then (
some (.inr h18)) else (
(gR h18 a15 1 2).bind fun a19 =>
(aR h18 a19 15 v17).bind fun a20 =>
(sI h18 a20 v16 0).bind fun h21 =>
bl (v17 + 1) fun v22 =>
some (.inl (v22, h21)))
def F_X1_clearGroup (h : Hp) (a0 : Nat) (vp1 : Int32) : Option (Hp) :=
(loopF (fun x => F_X1_clearGroup_L2 a0 vp1 x.1 x.2) 6000 (0, h)).bind fun h13 =>
(loopF (fun x => F_X1_clearGroup_L33 a0 vp1 x.1 x.2) 6000 (0, h13)).bind fun h23 =>
some h23
set_option maxRecDepth 100000 in
set_option maxHeartbeats 4000000 in
theorem c_X1_clearGroup (l : Launch) (G : GG) (B : Nat) (h : Hp) (a0 : Nat) (vp1 : Int32) (hr : Hp) (hF : F_X1_clearGroup h a0 vp1 = some hr) : CV l yX1_clearGroup cX1_clearGroup 3 0 0 0 0 G B h [.ref (B + a0), .int vp1] hr := by
  refine ent_v rfl (Nat.le_of_ble_eq_true rfl) ?_
  intro p e s m args below meth c ls Q CX hnm hret P hl
  have CX : Cxt p m c cX1_clearGroup 3 s args RX1 G B := CX
  obtain ⟨⟨hx, hb, hml, hown, hts⟩, -, -⟩ := id CX
  replace hl : lv_has ls 3 [(0, .ref (B + a0)), (1, .int vp1)] := hl
  generalize s.heap = H at P ⊢
  generalize ([] : List Loc) = locs at P ⊢
  unfold F_X1_clearGroup at hF
  refine lv_iconst (pc := 0) (v := 0) hx hb dX1_clearGroup_0 (by decide) ?_
  refine lv_istore_n (pc := 1) hx hb dX1_clearGroup_1 rfl hl (by decide) rfl (fun ls hl => ?_)
  replace hl : lv_has ls 3 [(2, .int 0), (0, .ref (B + a0)), (1, .int vp1)] := hl
  obtain ⟨r1, hLp1, hK1⟩ := bd_some hF
  have hX1 : ∀ (h13 : Hp) (H : Heap) (locs : List Loc) (ls : Array Slot), Pic G B h13 s H locs → lv_has ls 3 [(0, .ref (B + a0)), (1, .int vp1)] → h13 = r1 → W p l e (rmM 0 0 0 0) s m args below meth c H locs 0 0 Q (F0 m 31 ls []) := by
    intro h13 H locs ls P hl er
    subst er
    have hF := hK1
    refine lv_iconst (pc := 31) (v := 0) hx hb dX1_clearGroup_31 (by decide) ?_
    refine lv_istore_n (pc := 32) hx hb dX1_clearGroup_32 rfl hl (by decide) rfl (fun ls hl => ?_)
    replace hl : lv_has ls 3 [(2, .int 0), (0, .ref (B + a0)), (1, .int vp1)] := hl
    obtain ⟨r14, hLp14, hK14⟩ := bd_some hF
    have hX14 : ∀ (h23 : Hp) (H : Heap) (locs : List Loc) (ls : Array Slot), Pic G B h23 s H locs → lv_has ls 3 [] → h23 = r14 → W p l e (rmM 0 0 0 0) s m args below meth c H locs 0 0 Q (F0 m 54 ls []) := by
      intro h23 H locs ls P hl er
      subst er
      have hF := hK14
      cases hF
      exact hret _ _ _ _ P dX1_clearGroup_54
    have hL14 : ∀ (n : Nat) (v17 : Int32) (h18 : Hp) (H : Heap) (locs : List Loc) (ls : Array Slot), Pic G B h18 s H locs → lv_has ls 3 [(0, .ref (B + a0)), (1, .int vp1), (2, .int v17)] → loopF (fun x => F_X1_clearGroup_L33 a0 vp1 x.1 x.2) n (v17, h18) = some r14 → W p l e (rmM 0 0 0 0) s m args below meth c H locs 0 0 Q (F0 m 33 ls []) := by
      intro n
      induction n with
      | zero => intro v17 h18 H locs ls P hl hq; cases hq
      | succ n ih =>
        intro v17 h18 H locs ls P hl hq
        obtain ⟨z14, hS14, hI14, hR14⟩ := loop_some hq
        have hF : F_X1_clearGroup_L33 a0 vp1 v17 h18 = some z14 := hS14
        unfold F_X1_clearGroup_L33 at hF
        refine lv_iload_n (pc := 33) hx hb dX1_clearGroup_33 rfl (lv_at hl 2 rfl) ?_
        refine lv_bipush (pc := 34) (v := 9) hx hb dX1_clearGroup_34 (by decide) ?_
        refine lv_icmp_ge (pc := 36) (tgt := 54) hx hb dX1_clearGroup_36 (by decide) (fun hc => ?_) (fun hc => ?_)
        · rw [if_pos hc] at hF
          exact hX14 _ _ _ _ P (lv_sub hl [] rfl) (hR14 _ (Option.some.inj hF).symm)
        · rw [if_neg hc] at hF
          refine lv_aload_n (pc := 39) hx hb dX1_clearGroup_39 rfl (lv_at hl 0 rfl) ?_
          refine r_gR (pc := 40) CX P hF fl_X1_21 dX1_clearGroup_40 (fun a19 hF => ?_)
          refine lv_iload_n (pc := 43) hx hb dX1_clearGroup_43 rfl (lv_at hl 2 rfl) ?_
          refine r_aR (pc := 44) CX P hF (Or.inr (Or.inl rfl)) dX1_clearGroup_44 (fun a20 hF => ?_)
          refine lv_iload_n (pc := 45) hx hb dX1_clearGroup_45 rfl (lv_at hl 1 rfl) ?_
          refine lv_iconst (pc := 46) (v := 0) hx hb dX1_clearGroup_46 (by decide) ?_
          refine r_sI (pc := 47) CX P hF dX1_clearGroup_47 (fun h21 H locs P hF => ?_)
          obtain ⟨v22, ev22, hF⟩ := bl_o hF
          refine lv_iinc (pc := 48) (k := 2) (v := v22) hx hb dX1_clearGroup_48 hl rfl ev22 (by decide) rfl (fun ls hl => ?_)
          replace hl : lv_has ls 3 [(2, .int v22), (0, .ref (B + a0)), (1, .int vp1)] := hl
          refine lv_goto (pc := 51) (tgt := 33) hx hb dX1_clearGroup_51 (by decide) ?_
          exact ih _ _ _ _ _ P (lv_sub hl [1, 2, 0] rfl) (hI14 _ (Option.some.inj hF).symm)
    exact hL14 _ _ _ _ _ _ P (lv_sub hl [1, 2, 0] rfl) hLp14
  have hL1 : ∀ (n : Nat) (v4 : Int32) (h5 : Hp) (H : Heap) (locs : List Loc) (ls : Array Slot), Pic G B h5 s H locs → lv_has ls 3 [(0, .ref (B + a0)), (1, .int vp1), (2, .int v4)] → loopF (fun x => F_X1_clearGroup_L2 a0 vp1 x.1 x.2) n (v4, h5) = some r1 → W p l e (rmM 0 0 0 0) s m args below meth c H locs 0 0 Q (F0 m 2 ls []) := by
    intro n
    induction n with
    | zero => intro v4 h5 H locs ls P hl hq; cases hq
    | succ n ih =>
      intro v4 h5 H locs ls P hl hq
      obtain ⟨z1, hS1, hI1, hR1⟩ := loop_some hq
      have hF : F_X1_clearGroup_L2 a0 vp1 v4 h5 = some z1 := hS1
      unfold F_X1_clearGroup_L2 at hF
      refine lv_iload_n (pc := 2) hx hb dX1_clearGroup_2 rfl (lv_at hl 2 rfl) ?_
      refine lv_iconst (pc := 3) (v := 3) hx hb dX1_clearGroup_3 (by decide) ?_
      refine lv_icmp_ge (pc := 4) (tgt := 31) hx hb dX1_clearGroup_4 (by decide) (fun hc => ?_) (fun hc => ?_)
      · rw [if_pos hc] at hF
        exact hX1 _ _ _ _ P (lv_sub hl [0, 1] rfl) (hR1 _ (Option.some.inj hF).symm)
      · rw [if_neg hc] at hF
        refine lv_aload_n (pc := 7) hx hb dX1_clearGroup_7 rfl (lv_at hl 0 rfl) ?_
        refine r_gR (pc := 8) CX P hF fl_X1_11 dX1_clearGroup_8 (fun a6 hF => ?_)
        refine lv_iload_n (pc := 11) hx hb dX1_clearGroup_11 rfl (lv_at hl 2 rfl) ?_
        refine r_aR (pc := 12) CX P hF (Or.inr (Or.inr rfl)) dX1_clearGroup_12 (fun a7 hF => ?_)
        refine lv_iload_n (pc := 13) hx hb dX1_clearGroup_13 rfl (lv_at hl 1 rfl) ?_
        refine lv_lconst (pc := 14) (v := 0) hx hb dX1_clearGroup_14 (by decide) ?_
        refine r_sJ (pc := 15) CX P hF dX1_clearGroup_15 (fun h8 H locs P hF => ?_)
        refine lv_aload_n (pc := 16) hx hb dX1_clearGroup_16 rfl (lv_at hl 0 rfl) ?_
        refine r_gR (pc := 17) CX P hF fl_X1_18 dX1_clearGroup_17 (fun a9 hF => ?_)
        refine lv_iload_n (pc := 20) hx hb dX1_clearGroup_20 rfl (lv_at hl 2 rfl) ?_
        refine r_aR (pc := 21) CX P hF (Or.inr (Or.inl rfl)) dX1_clearGroup_21 (fun a10 hF => ?_)
        refine lv_iload_n (pc := 22) hx hb dX1_clearGroup_22 rfl (lv_at hl 1 rfl) ?_
        refine lv_iconst (pc := 23) (v := 0) hx hb dX1_clearGroup_23 (by decide) ?_
        refine r_sI (pc := 24) CX P hF dX1_clearGroup_24 (fun h11 H locs P hF => ?_)
        obtain ⟨v12, ev12, hF⟩ := bl_o hF
        refine lv_iinc (pc := 25) (k := 2) (v := v12) hx hb dX1_clearGroup_25 hl rfl ev12 (by decide) rfl (fun ls hl => ?_)
        replace hl : lv_has ls 3 [(2, .int v12), (0, .ref (B + a0)), (1, .int vp1)] := hl
        refine lv_goto (pc := 28) (tgt := 2) hx hb dX1_clearGroup_28 (by decide) ?_
        exact ih _ _ _ _ _ P (lv_sub hl [1, 2, 0] rfl) (hI1 _ (Option.some.inj hF).symm)
  exact hL1 _ _ _ _ _ _ P (lv_sub hl [1, 2, 0] rfl) hLp1
def F_X6_bitsBelow_L6 (h6 : Hp) (a3 : Nat) (v4 : Int32) (v5 : Int32) : Option ((Int32 × Int32) ⊕ (Int32)) :=
(gI h6 a3 6 2).bind fun v7 =>
if v7 ≤ v5 then (
some (.inr v4)) else (
(gR h6 a3 6 0).bind fun a8 =>
(gR h6 a3 6 1).bind fun a9 =>
(aI h6 a9 v5).bind fun v10 =>
(aI h6 a8 v10).bind fun v11 =>
if ((v4 >>> (v11 &&& 31)) &&& 1) = 1 then (
(gR h6 a3 6 1).bind fun a13 =>
(aI h6 a13 v5).bind fun v14 =>
bl (v4 ||| (1 <<< (v14 &&& 31))) fun v15 =>
bl (v5 + 1) fun v16 =>
some (.inl (v15, v16))) else (
bl (v5 + 1) fun v12 =>
some (.inl (v4, v12))))
def F_X6_bitsBelow (h : Hp) (a0 : Nat) (vp1 : Int32) : Option (Int32) :=
bl (1 <<< (vp1 &&& 31)) fun v1 =>
(loopF (fun x => F_X6_bitsBelow_L6 h a0 x.1 x.2) 6000 (v1, 1)).bind fun v17 =>
some v17
set_option maxRecDepth 100000 in
set_option maxHeartbeats 4000000 in
theorem c_X6_bitsBelow (l : Launch) (G : GG) (B : Nat) (h : Hp) (a0 : Nat) (vp1 : Int32) (r0 : Int32) (hF : F_X6_bitsBelow h a0 vp1 = some r0) : CI l yX6_bitsBelow cX6_bitsBelow 4 .int 0 0 0 0 G B h [.ref (B + a0), .int vp1] r0 h := by
  refine ent_i rfl (Nat.le_of_ble_eq_true rfl) ?_
  intro p e s m args below meth c ls Q CX hnm hret P hl
  have CX : Cxt p m c cX6_bitsBelow 4 s args RX6 G B := CX
  obtain ⟨⟨hx, hb, hml, hown, hts⟩, -, -⟩ := id CX
  replace hl : lv_has ls 4 [(0, .ref (B + a0)), (1, .int vp1)] := hl
  generalize s.heap = H at P ⊢
  generalize ([] : List Loc) = locs at P ⊢
  unfold F_X6_bitsBelow at hF
  refine lv_iconst (pc := 0) (v := 1) hx hb dX6_bitsBelow_0 (by decide) ?_
  refine lv_iload_n (pc := 1) hx hb dX6_bitsBelow_1 rfl (lv_at hl 1 rfl) ?_
  refine lv_ishl (pc := 2) hx hb dX6_bitsBelow_2 ?_
  refine lv_topi (fun v1 ev1 => ?_)
  replace hF := bl_e hF ev1
  refine lv_istore_n (pc := 3) hx hb dX6_bitsBelow_3 rfl hl (by decide) rfl (fun ls hl => ?_)
  replace hl : lv_has ls 4 [(2, .int v1), (0, .ref (B + a0)), (1, .int vp1)] := hl
  refine lv_iconst (pc := 4) (v := 1) hx hb dX6_bitsBelow_4 (by decide) ?_
  refine lv_istore_n (pc := 5) hx hb dX6_bitsBelow_5 rfl hl (by decide) rfl (fun ls hl => ?_)
  replace hl : lv_has ls 4 [(3, .int 1), (2, .int v1), (0, .ref (B + a0)), (1, .int vp1)] := hl
  obtain ⟨r2, hLp2, hK2⟩ := bd_some hF
  have hX2 : ∀ (v17 : Int32) (H : Heap) (locs : List Loc) (ls : Array Slot), Pic G B h s H locs → lv_has ls 4 [(2, .int v17)] → v17 = r2 → W p l e (rmM 0 0 0 0) s m args below meth c H locs 0 0 Q (F0 m 50 ls []) := by
    intro v17 H locs ls P hl er
    subst er
    have hF := hK2
    refine lv_iload_n (pc := 50) hx hb dX6_bitsBelow_50 rfl (lv_at hl 0 rfl) ?_
    cases hF
    exact hret _ _ _ _ P rfl dX6_bitsBelow_51
  have hL2 : ∀ (n : Nat) (v4 : Int32) (v5 : Int32) (H : Heap) (locs : List Loc) (ls : Array Slot), Pic G B h s H locs → lv_has ls 4 [(0, .ref (B + a0)), (2, .int v4), (3, .int v5)] → loopF (fun x => F_X6_bitsBelow_L6 h a0 x.1 x.2) n (v4, v5) = some r2 → W p l e (rmM 0 0 0 0) s m args below meth c H locs 0 0 Q (F0 m 6 ls []) := by
    intro n
    induction n with
    | zero => intro v4 v5 H locs ls P hl hq; cases hq
    | succ n ih =>
      intro v4 v5 H locs ls P hl hq
      obtain ⟨z2, hS2, hI2, hR2⟩ := loop_some hq
      have hF : F_X6_bitsBelow_L6 h a0 v4 v5 = some z2 := hS2
      unfold F_X6_bitsBelow_L6 at hF
      refine lv_iload_n (pc := 6) hx hb dX6_bitsBelow_6 rfl (lv_at hl 2 rfl) ?_
      refine lv_aload_n (pc := 7) hx hb dX6_bitsBelow_7 rfl (lv_at hl 0 rfl) ?_
      refine r_gI (pc := 8) CX P hF fl_X6_54 dX6_bitsBelow_8 (fun v7 hF => ?_)
      refine lv_icmp_ge (pc := 11) (tgt := 50) hx hb dX6_bitsBelow_11 (by decide) (fun hc => ?_) (fun hc => ?_)
      · rw [if_pos hc] at hF
        exact hX2 _ _ _ _ P (lv_sub hl [1] rfl) (hR2 _ (Option.some.inj hF).symm)
      · rw [if_neg hc] at hF
        refine lv_iload_n (pc := 14) hx hb dX6_bitsBelow_14 rfl (lv_at hl 1 rfl) ?_
        refine lv_aload_n (pc := 15) hx hb dX6_bitsBelow_15 rfl (lv_at hl 0 rfl) ?_
        refine r_gR (pc := 16) CX P hF fl_X6_9 dX6_bitsBelow_16 (fun a8 hF => ?_)
        refine lv_aload_n (pc := 19) hx hb dX6_bitsBelow_19 rfl (lv_at hl 0 rfl) ?_
        refine r_gR (pc := 20) CX P hF fl_X6_15 dX6_bitsBelow_20 (fun a9 hF => ?_)
        refine lv_iload_n (pc := 23) hx hb dX6_bitsBelow_23 rfl (lv_at hl 2 rfl) ?_
        refine r_aI (pc := 24) CX P hF dX6_bitsBelow_24 (fun v10 hF => ?_)
        refine r_aI (pc := 25) CX P hF dX6_bitsBelow_25 (fun v11 hF => ?_)
        refine lv_ishr (pc := 26) hx hb dX6_bitsBelow_26 ?_
        refine lv_iconst (pc := 27) (v := 1) hx hb dX6_bitsBelow_27 (by decide) ?_
        refine lv_iand (pc := 28) hx hb dX6_bitsBelow_28 ?_
        refine lv_iconst (pc := 29) (v := 1) hx hb dX6_bitsBelow_29 (by decide) ?_
        refine lv_icmp_ne (pc := 30) (tgt := 44) hx hb dX6_bitsBelow_30 (by decide) (fun hc => ?_) (fun hc => ?_)
        · rw [if_neg hc] at hF
          obtain ⟨v12, ev12, hF⟩ := bl_o hF
          refine lv_iinc (pc := 44) (k := 2) (v := v12) hx hb dX6_bitsBelow_44 hl rfl ev12 (by decide) rfl (fun ls hl => ?_)
          replace hl : lv_has ls 4 [(3, .int v12), (0, .ref (B + a0)), (2, .int v4)] := hl
          refine lv_goto (pc := 47) (tgt := 6) hx hb dX6_bitsBelow_47 (by decide) ?_
          exact ih _ _ _ _ _ P (lv_sub hl [1, 2, 0] rfl) (hI2 _ (Option.some.inj hF).symm)
        · rw [if_pos hc] at hF
          refine lv_iload_n (pc := 33) hx hb dX6_bitsBelow_33 rfl (lv_at hl 1 rfl) ?_
          refine lv_iconst (pc := 34) (v := 1) hx hb dX6_bitsBelow_34 (by decide) ?_
          refine lv_aload_n (pc := 35) hx hb dX6_bitsBelow_35 rfl (lv_at hl 0 rfl) ?_
          refine r_gR (pc := 36) CX P hF fl_X6_15 dX6_bitsBelow_36 (fun a13 hF => ?_)
          refine lv_iload_n (pc := 39) hx hb dX6_bitsBelow_39 rfl (lv_at hl 2 rfl) ?_
          refine r_aI (pc := 40) CX P hF dX6_bitsBelow_40 (fun v14 hF => ?_)
          refine lv_ishl (pc := 41) hx hb dX6_bitsBelow_41 ?_
          refine lv_ior (pc := 42) hx hb dX6_bitsBelow_42 ?_
          refine lv_topi (fun v15 ev15 => ?_)
          replace hF := bl_e hF ev15
          refine lv_istore_n (pc := 43) hx hb dX6_bitsBelow_43 rfl hl (by decide) rfl (fun ls hl => ?_)
          replace hl : lv_has ls 4 [(2, .int v15), (0, .ref (B + a0)), (3, .int v5)] := hl
          obtain ⟨v16, ev16, hF⟩ := bl_o hF
          refine lv_iinc (pc := 44) (k := 2) (v := v16) hx hb dX6_bitsBelow_44 hl rfl ev16 (by decide) rfl (fun ls hl => ?_)
          replace hl : lv_has ls 4 [(3, .int v16), (2, .int v15), (0, .ref (B + a0))] := hl
          refine lv_goto (pc := 47) (tgt := 6) hx hb dX6_bitsBelow_47 (by decide) ?_
          exact ih _ _ _ _ _ P (lv_sub hl [2, 1, 0] rfl) (hI2 _ (Option.some.inj hF).symm)
  exact hL2 _ _ _ _ _ _ P (lv_sub hl [2, 1, 0] rfl) hLp2
def F_X6_addTotal_L5 (a2 : Nat) (v3 : Int32) (v4 : Int32) (v5 : Int32) (h6 : Hp) : Option ((Int32 × Int32 × Hp) ⊕ (Hp)) :=
if v4 = (-1) then (
some (.inr h6)) else (
if 12 ≤ v5 then (
some (.inr h6)) else (
(gR h6 a2 6 5).bind fun a7 =>
(aI h6 a7 v4).bind fun v8 =>
(sI h6 a7 v4 (v8 + v3)).bind fun h9 =>
(gR h9 a2 6 0).bind fun a10 =>
(aI h9 a10 v4).bind fun v11 =>
bl (v5 + 1) fun v12 =>
some (.inl (v11, v12, h9))))
def F_X6_addTotal (h : Hp) (a0 : Nat) (vp1 : Int32) (vp2 : Int32) : Option (Hp) :=
(loopF (fun x => F_X6_addTotal_L5 a0 vp2 x.1 x.2.1 x.2.2) 6000 (vp1, 0, h)).bind fun h13 =>
some h13
set_option maxRecDepth 100000 in
set_option maxHeartbeats 4000000 in
theorem c_X6_addTotal (l : Launch) (G : GG) (B : Nat) (h : Hp) (a0 : Nat) (vp1 : Int32) (vp2 : Int32) (hr : Hp) (hF : F_X6_addTotal h a0 vp1 vp2 = some hr) : CV l yX6_addTotal cX6_addTotal 5 0 0 0 0 G B h [.ref (B + a0), .int vp1, .int vp2] hr := by
  refine ent_v rfl (Nat.le_of_ble_eq_true rfl) ?_
  intro p e s m args below meth c ls Q CX hnm hret P hl
  have CX : Cxt p m c cX6_addTotal 5 s args RX6 G B := CX
  obtain ⟨⟨hx, hb, hml, hown, hts⟩, -, -⟩ := id CX
  replace hl : lv_has ls 5 [(0, .ref (B + a0)), (1, .int vp1), (2, .int vp2)] := hl
  generalize s.heap = H at P ⊢
  generalize ([] : List Loc) = locs at P ⊢
  unfold F_X6_addTotal at hF
  refine lv_iload_n (pc := 0) hx hb dX6_addTotal_0 rfl (lv_at hl 1 rfl) ?_
  refine lv_istore_n (pc := 1) hx hb dX6_addTotal_1 rfl hl (by decide) rfl (fun ls hl => ?_)
  replace hl : lv_has ls 5 [(3, .int vp1), (0, .ref (B + a0)), (1, .int vp1), (2, .int vp2)] := hl
  refine lv_iconst (pc := 2) (v := 0) hx hb dX6_addTotal_2 (by decide) ?_
  refine lv_istore (pc := 3) hx hb dX6_addTotal_3 hl (by decide) rfl (fun ls hl => ?_)
  replace hl : lv_has ls 5 [(4, .int 0), (3, .int vp1), (0, .ref (B + a0)), (1, .int vp1), (2, .int vp2)] := hl
  obtain ⟨r1, hLp1, hK1⟩ := bd_some hF
  have hX1 : ∀ (h13 : Hp) (H : Heap) (locs : List Loc) (ls : Array Slot), Pic G B h13 s H locs → lv_has ls 5 [] → h13 = r1 → W p l e (rmM 0 0 0 0) s m args below meth c H locs 0 0 Q (F0 m 40 ls []) := by
    intro h13 H locs ls P hl er
    subst er
    have hF := hK1
    cases hF
    exact hret _ _ _ _ P dX6_addTotal_40
  have hL1 : ∀ (n : Nat) (v4 : Int32) (v5 : Int32) (h6 : Hp) (H : Heap) (locs : List Loc) (ls : Array Slot), Pic G B h6 s H locs → lv_has ls 5 [(0, .ref (B + a0)), (2, .int vp2), (3, .int v4), (4, .int v5)] → loopF (fun x => F_X6_addTotal_L5 a0 vp2 x.1 x.2.1 x.2.2) n (v4, v5, h6) = some r1 → W p l e (rmM 0 0 0 0) s m args below meth c H locs 0 0 Q (F0 m 5 ls []) := by
    intro n
    induction n with
    | zero => intro v4 v5 h6 H locs ls P hl hq; cases hq
    | succ n ih =>
      intro v4 v5 h6 H locs ls P hl hq
      obtain ⟨z1, hS1, hI1, hR1⟩ := loop_some hq
      have hF : F_X6_addTotal_L5 a0 vp2 v4 v5 h6 = some z1 := hS1
      unfold F_X6_addTotal_L5 at hF
      refine lv_iload_n (pc := 5) hx hb dX6_addTotal_5 rfl (lv_at hl 2 rfl) ?_
      refine lv_iconst (pc := 6) (v := (-1)) hx hb dX6_addTotal_6 (by decide) ?_
      refine lv_icmp_eq (pc := 7) (tgt := 40) hx hb dX6_addTotal_7 (by decide) (fun hc => ?_) (fun hc => ?_)
      · rw [if_pos hc] at hF
        exact hX1 _ _ _ _ P (lv_sub hl [] rfl) (hR1 _ (Option.some.inj hF).symm)
      · rw [if_neg hc] at hF
        refine lv_iload (pc := 10) hx hb dX6_addTotal_10 (lv_at hl 3 rfl) ?_
        refine lv_bipush (pc := 12) (v := 12) hx hb dX6_addTotal_12 (by decide) ?_
        refine lv_icmp_ge (pc := 14) (tgt := 40) hx hb dX6_addTotal_14 (by decide) (fun hc => ?_) (fun hc => ?_)
        · rw [if_pos hc] at hF
          exact hX1 _ _ _ _ P (lv_sub hl [] rfl) (hR1 _ (Option.some.inj hF).symm)
        · rw [if_neg hc] at hF
          refine lv_aload_n (pc := 17) hx hb dX6_addTotal_17 rfl (lv_at hl 0 rfl) ?_
          refine r_gR (pc := 18) CX P hF fl_X6_26 dX6_addTotal_18 (fun a7 hF => ?_)
          refine lv_iload_n (pc := 21) hx hb dX6_addTotal_21 rfl (lv_at hl 2 rfl) ?_
          refine lv_dup2_11 (pc := 22) hx hb dX6_addTotal_22 rfl rfl ?_
          refine r_aI (pc := 23) CX P hF dX6_addTotal_23 (fun v8 hF => ?_)
          refine lv_iload_n (pc := 24) hx hb dX6_addTotal_24 rfl (lv_at hl 1 rfl) ?_
          refine lv_iadd (pc := 25) hx hb dX6_addTotal_25 ?_
          refine r_sI (pc := 26) CX P hF dX6_addTotal_26 (fun h9 H locs P hF => ?_)
          refine lv_aload_n (pc := 27) hx hb dX6_addTotal_27 rfl (lv_at hl 0 rfl) ?_
          refine r_gR (pc := 28) CX P hF fl_X6_9 dX6_addTotal_28 (fun a10 hF => ?_)
          refine lv_iload_n (pc := 31) hx hb dX6_addTotal_31 rfl (lv_at hl 2 rfl) ?_
          refine r_aI (pc := 32) CX P hF dX6_addTotal_32 (fun v11 hF => ?_)
          refine lv_istore_n (pc := 33) hx hb dX6_addTotal_33 rfl hl (by decide) rfl (fun ls hl => ?_)
          replace hl : lv_has ls 5 [(3, .int v11), (0, .ref (B + a0)), (2, .int vp2), (4, .int v5)] := hl
          obtain ⟨v12, ev12, hF⟩ := bl_o hF
          refine lv_iinc (pc := 34) (k := 3) (v := v12) hx hb dX6_addTotal_34 hl rfl ev12 (by decide) rfl (fun ls hl => ?_)
          replace hl : lv_has ls 5 [(4, .int v12), (3, .int v11), (0, .ref (B + a0)), (2, .int vp2)] := hl
          refine lv_goto (pc := 37) (tgt := 5) hx hb dX6_addTotal_37 (by decide) ?_
          exact ih _ _ _ _ _ _ P (lv_sub hl [2, 3, 1, 0] rfl) (hI1 _ (Option.some.inj hF).symm)
  exact hL1 _ _ _ _ _ _ _ P (lv_sub hl [2, 4, 1, 0] rfl) hLp1
def F_X6_addStock (h : Hp) (a0 : Nat) (vp1 : Int32) (vp2 : Int32) : Option (Hp) :=
(gR h a0 6 4).bind fun a1 =>
(aI h a1 vp1).bind fun v2 =>
(sI h a1 vp1 (v2 + vp2)).bind fun h3 =>
(cO h3 a0 6 (F_X6_addTotal h3 a0 vp1 vp2)).bind fun h4 =>
some h4
set_option maxRecDepth 100000 in
set_option maxHeartbeats 4000000 in
theorem c_X6_addStock (l : Launch) (G : GG) (B : Nat) (h : Hp) (a0 : Nat) (vp1 : Int32) (vp2 : Int32) (hr : Hp) (hF : F_X6_addStock h a0 vp1 vp2 = some hr) : CV l yX6_addStock cX6_addStock 3 1 24 0 0 G B h [.ref (B + a0), .int vp1, .int vp2] hr := by
  refine ent_v rfl (Nat.le_of_ble_eq_true rfl) ?_
  intro p e s m args below meth c ls Q CX hnm hret P hl
  have CX : Cxt p m c cX6_addStock 3 s args RX6 G B := CX
  obtain ⟨⟨hx, hb, hml, hown, hts⟩, -, -⟩ := id CX
  replace hl : lv_has ls 3 [(0, .ref (B + a0)), (1, .int vp1), (2, .int vp2)] := hl
  generalize s.heap = H at P ⊢
  generalize ([] : List Loc) = locs at P ⊢
  unfold F_X6_addStock at hF
  refine lv_aload_n (pc := 0) hx hb dX6_addStock_0 rfl (lv_at hl 0 rfl) ?_
  refine r_gR (pc := 1) CX P hF fl_X6_23 dX6_addStock_1 (fun a1 hF => ?_)
  refine lv_iload_n (pc := 4) hx hb dX6_addStock_4 rfl (lv_at hl 1 rfl) ?_
  refine lv_dup2_11 (pc := 5) hx hb dX6_addStock_5 rfl rfl ?_
  refine r_aI (pc := 6) CX P hF dX6_addStock_6 (fun v2 hF => ?_)
  refine lv_iload_n (pc := 7) hx hb dX6_addStock_7 rfl (lv_at hl 2 rfl) ?_
  refine lv_iadd (pc := 8) hx hb dX6_addStock_8 ?_
  refine r_sI (pc := 9) CX P hF dX6_addStock_9 (fun h3 H locs P hF => ?_)
  refine lv_aload_n (pc := 10) hx hb dX6_addStock_10 rfl (lv_at hl 0 rfl) ?_
  refine lv_iload_n (pc := 11) hx hb dX6_addStock_11 rfl (lv_at hl 1 rfl) ?_
  refine lv_iload_n (pc := 12) hx hb dX6_addStock_12 rfl (lv_at hl 2 rfl) ?_
  refine r_cVv (pc := 13) (As := [.int vp1, .int vp2]) (rest := []) CX P hl.1 hF kv_X6_74 (fun h1 q => c_X6_addTotal l G B _ _ _ _ _ q) rfl rfl ⟨Nat.le_of_ble_eq_true rfl, Nat.le_of_ble_eq_true rfl⟩ (Nat.le_of_ble_eq_true rfl) ⟨Nat.le_of_ble_eq_true rfl, Nat.le_of_ble_eq_true rfl⟩ dX6_addStock_13 (fun h4 H locs P hF => ?_)
  cases hF
  exact hret _ _ _ _ P dX6_addStock_16
def F_X6_dropGroup_L24 (a7 : Nat) (v8 : Int32) (v9 : Int32) (v10 : Int32) (h11 : Hp) : Option ((Int32 × Int32 × Hp) ⊕ (Int32 × Hp)) :=
(gI h11 a7 6 2).bind fun v12 =>
if v12 ≤ v10 then (
some (.inr (v9, h11))) else (
(gR h11 a7 6 1).bind fun a13 =>
(aI h11 a13 v10).bind fun v14 =>
if v14 = v8 then (
bl (v10 + 1) fun v15 =>
some (.inl (v9, v15, h11))) else (
(gR h11 a7 6 1).bind fun a16 =>
(gR h11 a7 6 1).bind fun a17 =>
(aI h11 a17 v10).bind fun v18 =>
(sI h11 a16 v9 v18).bind fun h19 =>
bl (v9 + 1) fun v20 =>
bl (v10 + 1) fun v21 =>
some (.inl (v20, v21, h19))))
def F_X6_dropGroup (h : Hp) (a0 : Nat) (vp1 : Int32) : Option (Hp) :=
(gR h a0 6 4).bind fun a1 =>
(aI h a1 vp1).bind fun v2 =>
(cO h a0 6 (F_X6_addStock h a0 vp1 (-v2))).bind fun h3 =>
(gR h3 a0 6 0).bind fun a4 =>
(sI h3 a4 vp1 (-2)).bind fun h5 =>
(loopF (fun x => F_X6_dropGroup_L24 a0 vp1 x.1 x.2.1 x.2.2) 6000 (0, 0, h5)).bind fun q6 =>
bl q6.1 fun v22 =>
bl q6.2 fun h23 =>
(pI h23 a0 6 2 v22).bind fun h24 =>
some h24
set_option maxRecDepth 100000 in
set_option maxHeartbeats 4000000 in
theorem c_X6_dropGroup (l : Launch) (G : GG) (B : Nat) (h : Hp) (a0 : Nat) (vp1 : Int32) (hr : Hp) (hF : F_X6_dropGroup h a0 vp1 = some hr) : CV l yX6_dropGroup cX6_dropGroup 4 2 46 0 0 G B h [.ref (B + a0), .int vp1] hr := by
  refine ent_v rfl (Nat.le_of_ble_eq_true rfl) ?_
  intro p e s m args below meth c ls Q CX hnm hret P hl
  have CX : Cxt p m c cX6_dropGroup 4 s args RX6 G B := CX
  obtain ⟨⟨hx, hb, hml, hown, hts⟩, -, -⟩ := id CX
  replace hl : lv_has ls 4 [(0, .ref (B + a0)), (1, .int vp1)] := hl
  generalize s.heap = H at P ⊢
  generalize ([] : List Loc) = locs at P ⊢
  unfold F_X6_dropGroup at hF
  refine lv_aload_n (pc := 0) hx hb dX6_dropGroup_0 rfl (lv_at hl 0 rfl) ?_
  refine lv_iload_n (pc := 1) hx hb dX6_dropGroup_1 rfl (lv_at hl 1 rfl) ?_
  refine lv_aload_n (pc := 2) hx hb dX6_dropGroup_2 rfl (lv_at hl 0 rfl) ?_
  refine r_gR (pc := 3) CX P hF fl_X6_23 dX6_dropGroup_3 (fun a1 hF => ?_)
  refine lv_iload_n (pc := 6) hx hb dX6_dropGroup_6 rfl (lv_at hl 1 rfl) ?_
  refine r_aI (pc := 7) CX P hF dX6_dropGroup_7 (fun v2 hF => ?_)
  refine lv_ineg (pc := 8) hx hb dX6_dropGroup_8 ?_
  refine r_cVv (pc := 9) (As := [.int vp1, .int (-v2)]) (rest := []) CX P hl.1 hF kv_X6_61 (fun h1 q => c_X6_addStock l G B _ _ _ _ _ q) rfl rfl ⟨Nat.le_of_ble_eq_true rfl, Nat.le_of_ble_eq_true rfl⟩ (Nat.le_of_ble_eq_true rfl) ⟨Nat.le_of_ble_eq_true rfl, Nat.le_of_ble_eq_true rfl⟩ dX6_dropGroup_9 (fun h3 H locs P hF => ?_)
  refine lv_aload_n (pc := 12) hx hb dX6_dropGroup_12 rfl (lv_at hl 0 rfl) ?_
  refine r_gR (pc := 13) CX P hF fl_X6_9 dX6_dropGroup_13 (fun a4 hF => ?_)
  refine lv_iload_n (pc := 16) hx hb dX6_dropGroup_16 rfl (lv_at hl 1 rfl) ?_
  refine lv_bipush (pc := 17) (v := (-2)) hx hb dX6_dropGroup_17 (by decide) ?_
  refine r_sI (pc := 19) CX P hF dX6_dropGroup_19 (fun h5 H locs P hF => ?_)
  refine lv_iconst (pc := 20) (v := 0) hx hb dX6_dropGroup_20 (by decide) ?_
  refine lv_istore_n (pc := 21) hx hb dX6_dropGroup_21 rfl hl (by decide) rfl (fun ls hl => ?_)
  replace hl : lv_has ls 4 [(2, .int 0), (0, .ref (B + a0)), (1, .int vp1)] := hl
  refine lv_iconst (pc := 22) (v := 0) hx hb dX6_dropGroup_22 (by decide) ?_
  refine lv_istore_n (pc := 23) hx hb dX6_dropGroup_23 rfl hl (by decide) rfl (fun ls hl => ?_)
  replace hl : lv_has ls 4 [(3, .int 0), (2, .int 0), (0, .ref (B + a0)), (1, .int vp1)] := hl
  obtain ⟨r6, hLp6, hK6⟩ := bd_some hF
  have hX6 : ∀ (v22 : Int32) (h23 : Hp) (H : Heap) (locs : List Loc) (ls : Array Slot), Pic G B h23 s H locs → lv_has ls 4 [(0, .ref (B + a0)), (2, .int v22)] → (v22, h23) = r6 → W p l e (rmM 2 46 0 0) s m args below meth c H locs 0 0 Q (F0 m 63 ls []) := by
    intro v22 h23 H locs ls P hl er
    subst er
    have hF := hK6
    replace hF := bl_i hF
    replace hF := bl_i hF
    try dsimp only at hF
    refine lv_aload_n (pc := 63) hx hb dX6_dropGroup_63 rfl (lv_at hl 0 rfl) ?_
    refine lv_iload_n (pc := 64) hx hb dX6_dropGroup_64 rfl (lv_at hl 1 rfl) ?_
    refine r_pI (pc := 65) CX P hF fl_X6_54 dX6_dropGroup_65 (fun h24 H locs P hF => ?_)
    cases hF
    exact hret _ _ _ _ P dX6_dropGroup_68
  have hL6 : ∀ (n : Nat) (v9 : Int32) (v10 : Int32) (h11 : Hp) (H : Heap) (locs : List Loc) (ls : Array Slot), Pic G B h11 s H locs → lv_has ls 4 [(0, .ref (B + a0)), (1, .int vp1), (2, .int v9), (3, .int v10)] → loopF (fun x => F_X6_dropGroup_L24 a0 vp1 x.1 x.2.1 x.2.2) n (v9, v10, h11) = some r6 → W p l e (rmM 2 46 0 0) s m args below meth c H locs 0 0 Q (F0 m 24 ls []) := by
    intro n
    induction n with
    | zero => intro v9 v10 h11 H locs ls P hl hq; cases hq
    | succ n ih =>
      intro v9 v10 h11 H locs ls P hl hq
      obtain ⟨z6, hS6, hI6, hR6⟩ := loop_some hq
      have hF : F_X6_dropGroup_L24 a0 vp1 v9 v10 h11 = some z6 := hS6
      unfold F_X6_dropGroup_L24 at hF
      refine lv_iload_n (pc := 24) hx hb dX6_dropGroup_24 rfl (lv_at hl 3 rfl) ?_
      refine lv_aload_n (pc := 25) hx hb dX6_dropGroup_25 rfl (lv_at hl 0 rfl) ?_
      refine r_gI (pc := 26) CX P hF fl_X6_54 dX6_dropGroup_26 (fun v12 hF => ?_)
      refine lv_icmp_ge (pc := 29) (tgt := 63) hx hb dX6_dropGroup_29 (by decide) (fun hc => ?_) (fun hc => ?_)
      · rw [if_pos hc] at hF
        exact hX6 _ _ _ _ _ P (lv_sub hl [0, 2] rfl) (hR6 _ (Option.some.inj hF).symm)
      · rw [if_neg hc] at hF
        refine lv_aload_n (pc := 32) hx hb dX6_dropGroup_32 rfl (lv_at hl 0 rfl) ?_
        refine r_gR (pc := 33) CX P hF fl_X6_15 dX6_dropGroup_33 (fun a13 hF => ?_)
        refine lv_iload_n (pc := 36) hx hb dX6_dropGroup_36 rfl (lv_at hl 3 rfl) ?_
        refine r_aI (pc := 37) CX P hF dX6_dropGroup_37 (fun v14 hF => ?_)
        refine lv_iload_n (pc := 38) hx hb dX6_dropGroup_38 rfl (lv_at hl 1 rfl) ?_
        refine lv_icmp_eq (pc := 39) (tgt := 57) hx hb dX6_dropGroup_39 (by decide) (fun hc => ?_) (fun hc => ?_)
        · rw [if_pos hc] at hF
          obtain ⟨v15, ev15, hF⟩ := bl_o hF
          refine lv_iinc (pc := 57) (k := 3) (v := v15) hx hb dX6_dropGroup_57 hl rfl ev15 (by decide) rfl (fun ls hl => ?_)
          replace hl : lv_has ls 4 [(3, .int v15), (0, .ref (B + a0)), (1, .int vp1), (2, .int v9)] := hl
          refine lv_goto (pc := 60) (tgt := 24) hx hb dX6_dropGroup_60 (by decide) ?_
          exact ih _ _ _ _ _ _ P (lv_sub hl [1, 2, 3, 0] rfl) (hI6 _ (Option.some.inj hF).symm)
        · rw [if_neg hc] at hF
          refine lv_aload_n (pc := 42) hx hb dX6_dropGroup_42 rfl (lv_at hl 0 rfl) ?_
          refine r_gR (pc := 43) CX P hF fl_X6_15 dX6_dropGroup_43 (fun a16 hF => ?_)
          refine lv_iload_n (pc := 46) hx hb dX6_dropGroup_46 rfl (lv_at hl 2 rfl) ?_
          refine lv_aload_n (pc := 47) hx hb dX6_dropGroup_47 rfl (lv_at hl 0 rfl) ?_
          refine r_gR (pc := 48) CX P hF fl_X6_15 dX6_dropGroup_48 (fun a17 hF => ?_)
          refine lv_iload_n (pc := 51) hx hb dX6_dropGroup_51 rfl (lv_at hl 3 rfl) ?_
          refine r_aI (pc := 52) CX P hF dX6_dropGroup_52 (fun v18 hF => ?_)
          refine r_sI (pc := 53) CX P hF dX6_dropGroup_53 (fun h19 H locs P hF => ?_)
          obtain ⟨v20, ev20, hF⟩ := bl_o hF
          refine lv_iinc (pc := 54) (k := 2) (v := v20) hx hb dX6_dropGroup_54 hl rfl ev20 (by decide) rfl (fun ls hl => ?_)
          replace hl : lv_has ls 4 [(2, .int v20), (0, .ref (B + a0)), (1, .int vp1), (3, .int v10)] := hl
          obtain ⟨v21, ev21, hF⟩ := bl_o hF
          refine lv_iinc (pc := 57) (k := 3) (v := v21) hx hb dX6_dropGroup_57 hl rfl ev21 (by decide) rfl (fun ls hl => ?_)
          replace hl : lv_has ls 4 [(3, .int v21), (2, .int v20), (0, .ref (B + a0)), (1, .int vp1)] := hl
          refine lv_goto (pc := 60) (tgt := 24) hx hb dX6_dropGroup_60 (by decide) ?_
          exact ih _ _ _ _ _ _ P (lv_sub hl [2, 3, 1, 0] rfl) (hI6 _ (Option.some.inj hF).symm)
  exact hL6 _ _ _ _ _ _ _ P (lv_sub hl [2, 3, 1, 0] rfl) hLp6
def F_X7_dropOf_L4 (a2 : Nat) (v3 : Int32) (v4 : Int32) (v5 : Int32) (h6 : Hp) : Option ((Int32 × Int32 × Hp) ⊕ (Int32 × Hp)) :=
(gI h6 a2 7 4).bind fun v7 =>
if v7 ≤ v5 then (
some (.inr (v4, h6))) else (
(gR h6 a2 7 0).bind fun a8 =>
(aI h6 a8 v5).bind fun v9 =>
if v9 = v3 then (
bl (v5 + 1) fun v10 =>
some (.inl (v4, v10, h6))) else (
(gR h6 a2 7 0).bind fun a11 =>
(gR h6 a2 7 0).bind fun a12 =>
(aI h6 a12 v5).bind fun v13 =>
(sI h6 a11 v4 v13).bind fun h14 =>
(gR h14 a2 7 1).bind fun a15 =>
(gR h14 a2 7 1).bind fun a16 =>
(aI h14 a16 v5).bind fun v17 =>
(sI h14 a15 v4 v17).bind fun h18 =>
(gR h18 a2 7 2).bind fun a19 =>
(gR h18 a2 7 2).bind fun a20 =>
(aI h18 a20 v5).bind fun v21 =>
(sI h18 a19 v4 v21).bind fun h22 =>
(gR h22 a2 7 3).bind fun a23 =>
(gR h22 a2 7 3).bind fun a24 =>
(aI h22 a24 v5).bind fun v25 =>
(sI h22 a23 v4 v25).bind fun h26 =>
bl (v4 + 1) fun v27 =>
bl (v5 + 1) fun v28 =>
some (.inl (v27, v28, h26))))
def F_X7_dropOf (h : Hp) (a0 : Nat) (vp1 : Int32) : Option (Hp) :=
(loopF (fun x => F_X7_dropOf_L4 a0 vp1 x.1 x.2.1 x.2.2) 6000 (0, 0, h)).bind fun q1 =>
bl q1.1 fun v29 =>
bl q1.2 fun h30 =>
(pI h30 a0 7 4 v29).bind fun h31 =>
some h31
set_option maxRecDepth 100000 in
set_option maxHeartbeats 4000000 in
theorem c_X7_dropOf (l : Launch) (G : GG) (B : Nat) (h : Hp) (a0 : Nat) (vp1 : Int32) (hr : Hp) (hF : F_X7_dropOf h a0 vp1 = some hr) : CV l yX7_dropOf cX7_dropOf 4 0 0 0 0 G B h [.ref (B + a0), .int vp1] hr := by
  refine ent_v rfl (Nat.le_of_ble_eq_true rfl) ?_
  intro p e s m args below meth c ls Q CX hnm hret P hl
  have CX : Cxt p m c cX7_dropOf 4 s args RX7 G B := CX
  obtain ⟨⟨hx, hb, hml, hown, hts⟩, -, -⟩ := id CX
  replace hl : lv_has ls 4 [(0, .ref (B + a0)), (1, .int vp1)] := hl
  generalize s.heap = H at P ⊢
  generalize ([] : List Loc) = locs at P ⊢
  unfold F_X7_dropOf at hF
  refine lv_iconst (pc := 0) (v := 0) hx hb dX7_dropOf_0 (by decide) ?_
  refine lv_istore_n (pc := 1) hx hb dX7_dropOf_1 rfl hl (by decide) rfl (fun ls hl => ?_)
  replace hl : lv_has ls 4 [(2, .int 0), (0, .ref (B + a0)), (1, .int vp1)] := hl
  refine lv_iconst (pc := 2) (v := 0) hx hb dX7_dropOf_2 (by decide) ?_
  refine lv_istore_n (pc := 3) hx hb dX7_dropOf_3 rfl hl (by decide) rfl (fun ls hl => ?_)
  replace hl : lv_has ls 4 [(3, .int 0), (2, .int 0), (0, .ref (B + a0)), (1, .int vp1)] := hl
  obtain ⟨r1, hLp1, hK1⟩ := bd_some hF
  have hX1 : ∀ (v29 : Int32) (h30 : Hp) (H : Heap) (locs : List Loc) (ls : Array Slot), Pic G B h30 s H locs → lv_has ls 4 [(0, .ref (B + a0)), (2, .int v29)] → (v29, h30) = r1 → W p l e (rmM 0 0 0 0) s m args below meth c H locs 0 0 Q (F0 m 79 ls []) := by
    intro v29 h30 H locs ls P hl er
    subst er
    have hF := hK1
    replace hF := bl_i hF
    replace hF := bl_i hF
    try dsimp only at hF
    refine lv_aload_n (pc := 79) hx hb dX7_dropOf_79 rfl (lv_at hl 0 rfl) ?_
    refine lv_iload_n (pc := 80) hx hb dX7_dropOf_80 rfl (lv_at hl 1 rfl) ?_
    refine r_pI (pc := 81) CX P hF fl_X7_30 dX7_dropOf_81 (fun h31 H locs P hF => ?_)
    cases hF
    exact hret _ _ _ _ P dX7_dropOf_84
  have hL1 : ∀ (n : Nat) (v4 : Int32) (v5 : Int32) (h6 : Hp) (H : Heap) (locs : List Loc) (ls : Array Slot), Pic G B h6 s H locs → lv_has ls 4 [(0, .ref (B + a0)), (1, .int vp1), (2, .int v4), (3, .int v5)] → loopF (fun x => F_X7_dropOf_L4 a0 vp1 x.1 x.2.1 x.2.2) n (v4, v5, h6) = some r1 → W p l e (rmM 0 0 0 0) s m args below meth c H locs 0 0 Q (F0 m 4 ls []) := by
    intro n
    induction n with
    | zero => intro v4 v5 h6 H locs ls P hl hq; cases hq
    | succ n ih =>
      intro v4 v5 h6 H locs ls P hl hq
      obtain ⟨z1, hS1, hI1, hR1⟩ := loop_some hq
      have hF : F_X7_dropOf_L4 a0 vp1 v4 v5 h6 = some z1 := hS1
      unfold F_X7_dropOf_L4 at hF
      refine lv_iload_n (pc := 4) hx hb dX7_dropOf_4 rfl (lv_at hl 3 rfl) ?_
      refine lv_aload_n (pc := 5) hx hb dX7_dropOf_5 rfl (lv_at hl 0 rfl) ?_
      refine r_gI (pc := 6) CX P hF fl_X7_30 dX7_dropOf_6 (fun v7 hF => ?_)
      refine lv_icmp_ge (pc := 9) (tgt := 79) hx hb dX7_dropOf_9 (by decide) (fun hc => ?_) (fun hc => ?_)
      · rw [if_pos hc] at hF
        exact hX1 _ _ _ _ _ P (lv_sub hl [0, 2] rfl) (hR1 _ (Option.some.inj hF).symm)
      · rw [if_neg hc] at hF
        refine lv_aload_n (pc := 12) hx hb dX7_dropOf_12 rfl (lv_at hl 0 rfl) ?_
        refine r_gR (pc := 13) CX P hF fl_X7_9 dX7_dropOf_13 (fun a8 hF => ?_)
        refine lv_iload_n (pc := 16) hx hb dX7_dropOf_16 rfl (lv_at hl 3 rfl) ?_
        refine r_aI (pc := 17) CX P hF dX7_dropOf_17 (fun v9 hF => ?_)
        refine lv_iload_n (pc := 18) hx hb dX7_dropOf_18 rfl (lv_at hl 1 rfl) ?_
        refine lv_icmp_eq (pc := 19) (tgt := 73) hx hb dX7_dropOf_19 (by decide) (fun hc => ?_) (fun hc => ?_)
        · rw [if_pos hc] at hF
          obtain ⟨v10, ev10, hF⟩ := bl_o hF
          refine lv_iinc (pc := 73) (k := 3) (v := v10) hx hb dX7_dropOf_73 hl rfl ev10 (by decide) rfl (fun ls hl => ?_)
          replace hl : lv_has ls 4 [(3, .int v10), (0, .ref (B + a0)), (1, .int vp1), (2, .int v4)] := hl
          refine lv_goto (pc := 76) (tgt := 4) hx hb dX7_dropOf_76 (by decide) ?_
          exact ih _ _ _ _ _ _ P (lv_sub hl [1, 2, 3, 0] rfl) (hI1 _ (Option.some.inj hF).symm)
        · rw [if_neg hc] at hF
          refine lv_aload_n (pc := 22) hx hb dX7_dropOf_22 rfl (lv_at hl 0 rfl) ?_
          refine r_gR (pc := 23) CX P hF fl_X7_9 dX7_dropOf_23 (fun a11 hF => ?_)
          refine lv_iload_n (pc := 26) hx hb dX7_dropOf_26 rfl (lv_at hl 2 rfl) ?_
          refine lv_aload_n (pc := 27) hx hb dX7_dropOf_27 rfl (lv_at hl 0 rfl) ?_
          refine r_gR (pc := 28) CX P hF fl_X7_9 dX7_dropOf_28 (fun a12 hF => ?_)
          refine lv_iload_n (pc := 31) hx hb dX7_dropOf_31 rfl (lv_at hl 3 rfl) ?_
          refine r_aI (pc := 32) CX P hF dX7_dropOf_32 (fun v13 hF => ?_)
          refine r_sI (pc := 33) CX P hF dX7_dropOf_33 (fun h14 H locs P hF => ?_)
          refine lv_aload_n (pc := 34) hx hb dX7_dropOf_34 rfl (lv_at hl 0 rfl) ?_
          refine r_gR (pc := 35) CX P hF fl_X7_15 dX7_dropOf_35 (fun a15 hF => ?_)
          refine lv_iload_n (pc := 38) hx hb dX7_dropOf_38 rfl (lv_at hl 2 rfl) ?_
          refine lv_aload_n (pc := 39) hx hb dX7_dropOf_39 rfl (lv_at hl 0 rfl) ?_
          refine r_gR (pc := 40) CX P hF fl_X7_15 dX7_dropOf_40 (fun a16 hF => ?_)
          refine lv_iload_n (pc := 43) hx hb dX7_dropOf_43 rfl (lv_at hl 3 rfl) ?_
          refine r_aI (pc := 44) CX P hF dX7_dropOf_44 (fun v17 hF => ?_)
          refine r_sI (pc := 45) CX P hF dX7_dropOf_45 (fun h18 H locs P hF => ?_)
          refine lv_aload_n (pc := 46) hx hb dX7_dropOf_46 rfl (lv_at hl 0 rfl) ?_
          refine r_gR (pc := 47) CX P hF fl_X7_18 dX7_dropOf_47 (fun a19 hF => ?_)
          refine lv_iload_n (pc := 50) hx hb dX7_dropOf_50 rfl (lv_at hl 2 rfl) ?_
          refine lv_aload_n (pc := 51) hx hb dX7_dropOf_51 rfl (lv_at hl 0 rfl) ?_
          refine r_gR (pc := 52) CX P hF fl_X7_18 dX7_dropOf_52 (fun a20 hF => ?_)
          refine lv_iload_n (pc := 55) hx hb dX7_dropOf_55 rfl (lv_at hl 3 rfl) ?_
          refine r_aI (pc := 56) CX P hF dX7_dropOf_56 (fun v21 hF => ?_)
          refine r_sI (pc := 57) CX P hF dX7_dropOf_57 (fun h22 H locs P hF => ?_)
          refine lv_aload_n (pc := 58) hx hb dX7_dropOf_58 rfl (lv_at hl 0 rfl) ?_
          refine r_gR (pc := 59) CX P hF fl_X7_21 dX7_dropOf_59 (fun a23 hF => ?_)
          refine lv_iload_n (pc := 62) hx hb dX7_dropOf_62 rfl (lv_at hl 2 rfl) ?_
          refine lv_aload_n (pc := 63) hx hb dX7_dropOf_63 rfl (lv_at hl 0 rfl) ?_
          refine r_gR (pc := 64) CX P hF fl_X7_21 dX7_dropOf_64 (fun a24 hF => ?_)
          refine lv_iload_n (pc := 67) hx hb dX7_dropOf_67 rfl (lv_at hl 3 rfl) ?_
          refine r_aI (pc := 68) CX P hF dX7_dropOf_68 (fun v25 hF => ?_)
          refine r_sI (pc := 69) CX P hF dX7_dropOf_69 (fun h26 H locs P hF => ?_)
          obtain ⟨v27, ev27, hF⟩ := bl_o hF
          refine lv_iinc (pc := 70) (k := 2) (v := v27) hx hb dX7_dropOf_70 hl rfl ev27 (by decide) rfl (fun ls hl => ?_)
          replace hl : lv_has ls 4 [(2, .int v27), (0, .ref (B + a0)), (1, .int vp1), (3, .int v5)] := hl
          obtain ⟨v28, ev28, hF⟩ := bl_o hF
          refine lv_iinc (pc := 73) (k := 3) (v := v28) hx hb dX7_dropOf_73 hl rfl ev28 (by decide) rfl (fun ls hl => ?_)
          replace hl : lv_has ls 4 [(3, .int v28), (2, .int v27), (0, .ref (B + a0)), (1, .int vp1)] := hl
          refine lv_goto (pc := 76) (tgt := 4) hx hb dX7_dropOf_76 (by decide) ?_
          exact ih _ _ _ _ _ _ P (lv_sub hl [2, 3, 1, 0] rfl) (hI1 _ (Option.some.inj hF).symm)
  exact hL1 _ _ _ _ _ _ _ P (lv_sub hl [2, 3, 1, 0] rfl) hLp1
def F_X9_outside (h : Hp) (vp0 : Int32) (vp1 : Int32) (vp2 : Int32) : Option (Int32) :=
if vp0 < vp1 then (
some 1) else (
if vp0 ≤ vp2 then (
some 0) else (
some 1))
set_option maxRecDepth 100000 in
set_option maxHeartbeats 4000000 in
theorem c_X9_outside (l : Launch) (G : GG) (B : Nat) (h : Hp) (vp0 : Int32) (vp1 : Int32) (vp2 : Int32) (r0 : Int32) (hF : F_X9_outside h vp0 vp1 vp2 = some r0) : CI l yX9_outside cX9_outside 3 .boolean 0 0 0 0 G B h [.int vp0, .int vp1, .int vp2] r0 h := by
  refine ent_i rfl (Nat.le_of_ble_eq_true rfl) ?_
  intro p e s m args below meth c ls Q CX hnm hret P hl
  have CX : Cxt p m c cX9_outside 3 s args RX9 G B := CX
  obtain ⟨⟨hx, hb, hml, hown, hts⟩, -, -⟩ := id CX
  replace hl : lv_has ls 3 [(0, .int vp0), (1, .int vp1), (2, .int vp2)] := hl
  generalize s.heap = H at P ⊢
  generalize ([] : List Loc) = locs at P ⊢
  unfold F_X9_outside at hF
  refine lv_iload_n (pc := 0) hx hb dX9_outside_0 rfl (lv_at hl 0 rfl) ?_
  refine lv_iload_n (pc := 1) hx hb dX9_outside_1 rfl (lv_at hl 1 rfl) ?_
  refine lv_icmp_lt (pc := 2) (tgt := 10) hx hb dX9_outside_2 (by decide) (fun hc => ?_) (fun hc => ?_)
  · rw [if_pos hc] at hF
    refine lv_iconst (pc := 10) (v := 1) hx hb dX9_outside_10 (by decide) ?_
    refine lv_goto (pc := 11) (tgt := 15) hx hb dX9_outside_11 (by decide) ?_
    cases hF
    exact hret _ _ _ _ P rfl dX9_outside_15
  · rw [if_neg hc] at hF
    refine lv_iload_n (pc := 5) hx hb dX9_outside_5 rfl (lv_at hl 0 rfl) ?_
    refine lv_iload_n (pc := 6) hx hb dX9_outside_6 rfl (lv_at hl 2 rfl) ?_
    refine lv_icmp_le (pc := 7) (tgt := 14) hx hb dX9_outside_7 (by decide) (fun hc => ?_) (fun hc => ?_)
    · rw [if_pos hc] at hF
      refine lv_iconst (pc := 14) (v := 0) hx hb dX9_outside_14 (by decide) ?_
      cases hF
      exact hret _ _ _ _ P rfl dX9_outside_15
    · rw [if_neg hc] at hF
      refine lv_iconst (pc := 10) (v := 1) hx hb dX9_outside_10 (by decide) ?_
      refine lv_goto (pc := 11) (tgt := 15) hx hb dX9_outside_11 (by decide) ?_
      cases hF
      exact hret _ _ _ _ P rfl dX9_outside_15
