set_option maxRecDepth 100000 in
set_option maxHeartbeats 4000000 in
theorem w_law_loop {p : Program} {l : Launch} {e : Env} {s : State} {m : MethodId} {args : Array Value} {below : List Frame} {meth : Method} {c : Code} {Q : State → Prop} {G : GG} {B b L : Nat} {xs : Nat → Int32} (CX : Cxt p m c code 4 s args RL G B) (SC : SCr b L xs s B) (hL : L ≤ 2560) {ax am : Nat} {hr : Hp} {r : (Int32 × Hp) ⊕ Hp} (hr1 : ∀ h1, ¬ r = .inl (0, h1)) (hX : ∀ (h : Hp) (H : Heap) (locs : List Loc) (ls : Array Slot) (j : Nat), j ≤ 512 → Pic G B h s H locs → .inr h = r → W p l e room_1 s m args below meth c H locs (775 + 57 * j) (16739 + 614 * j) Q (F0 m 1811 ls [])) :
    ∀ (n j : Nat) (vi : Int32) (h : Hp) (H : Heap) (locs : List Loc) (ls : Array Slot), vi = nI (5 * j) → j ≤ 512 → Pic G B h s H locs → lv_has ls 4 [(0, .ref b), (1, .ref (B + ax)), (2, .ref (B + am)), (3, .int vi)] → loopF (fun x => F_law_L18 L xs ax am x.1 x.2) n (vi, h) = some r → W p l e room_1 s m args below meth c H locs (775 + 57 * j) (16739 + 614 * j) Q (F0 m 18 ls []) := by
  obtain ⟨⟨hx, hb, hml, hown, hts⟩, -, -⟩ := id CX
  intro n
  induction n with
  | zero => intro j vi h H locs ls ej hj P hl hq; cases hq
  | succ n ih =>
    intro j vi h H locs ls ej hj P hl hq
    obtain ⟨z, hS, hI, hR⟩ := loop_some hq
    have hF : F_law_L18 L xs ax am vi h = some z := hS
    unfold F_law_L18 at hF
    refine lv_iload_n (pc := 18) hx hb dL_law_18 rfl (lv_at hl 3 rfl) ?_
    refine lv_aload_n (pc := 19) hx hb dL_law_19 rfl (lv_at hl 0 rfl) ?_
    refine r_sl (pc := 20) CX P SC dL_law_20 ?_
    refine lv_iconst (pc := 21) (v := 5) hx hb dL_law_21 (by decide) ?_
    refine lv_isub (pc := 22) hx hb dL_law_22 ?_
    refine lv_icmp_gt (pc := 23) (tgt := 1811) hx hb dL_law_23 (by decide) (fun hc => ?_) (fun hc => ?_)
    · rw [if_pos hc] at hF
      exact hX _ _ _ _ j hj P (hR _ (Option.some.inj hF).symm)
    · rw [if_neg hc] at hF
      have hj2 : j < 512 := law_j hL ej hj hc
      have hB : ∀ (v : Int32) (h1 : Hp) (H : Heap) (locs : List Loc) (ls : Array Slot), v = vi + 5 → Pic G B h1 s H locs → lv_has ls 4 [(0, .ref b), (1, .ref (B + ax)), (2, .ref (B + am)), (3, .int v)] → some z = some (.inl (v, h1)) → W p l e room_1 s m args below meth c H locs (775 + 57 * (j + 1)) (16739 + 614 * (j + 1)) Q (F0 m 18 ls []) := by
        intro v h1 H locs ls ev P hl hz
        exact ih (j + 1) v h1 H locs ls (by rw [ev, ej]; exact law_n j) hj2 P hl (hI _ (Option.some.inj hz))
      have hE : ∀ h1, ¬ z = .inr (.inl (0, h1)) := fun h1 q => hr1 h1 (hR _ q).symm
      refine lv_aload_n (pc := 26) hx hb dL_law_26 rfl (lv_at hl 0 rfl) ?_
      refine lv_iload_n (pc := 27) hx hb dL_law_27 rfl (lv_at hl 3 rfl) ?_
      refine r_sc (pc := 28) CX P SC hF dL_law_28 (fun v4 hF => ?_)
      refine lv_bipush (pc := 29) (v := 63) hx hb dL_law_29 (by decide) ?_
      refine lv_iand (pc := 31) hx hb dL_law_31 ?_
      by_cases hc0 : v4 &&& 63 = 0
      · rw [if_pos hc0] at hF
        refine lv_tableIn (pc := 32) (tgt := 252) hx hb dL_law_32 (by rw [hc0]; decide) (by rw [hc0]; decide) (by rw [hc0]; rfl) (by decide) ?_
        exact w_law_c0 CX SC hj2 P hl hF (fun v h1 H locs ls ev P hl hz => hB v h1 H locs ls ev.symm P hl hz) hE
      rw [if_neg hc0] at hF
      by_cases hc1 : v4 &&& 63 = 1
      · rw [if_pos hc1] at hF
        refine lv_tableIn (pc := 32) (tgt := 275) hx hb dL_law_32 (by rw [hc1]; decide) (by rw [hc1]; decide) (by rw [hc1]; rfl) (by decide) ?_
        exact w_law_c1 CX SC hj2 P hl hF (fun v h1 H locs ls ev P hl hz => hB v h1 H locs ls ev.symm P hl hz) hE
      rw [if_neg hc1] at hF
      by_cases hc2 : v4 &&& 63 = 2
      · rw [if_pos hc2] at hF
        refine lv_tableIn (pc := 32) (tgt := 298) hx hb dL_law_32 (by rw [hc2]; decide) (by rw [hc2]; decide) (by rw [hc2]; rfl) (by decide) ?_
        exact w_law_c2 CX SC hj2 P hl hF (fun v h1 H locs ls ev P hl hz => hB v h1 H locs ls ev.symm P hl hz) hE
      rw [if_neg hc2] at hF
      by_cases hc3 : v4 &&& 63 = 3
      · rw [if_pos hc3] at hF
        refine lv_tableIn (pc := 32) (tgt := 341) hx hb dL_law_32 (by rw [hc3]; decide) (by rw [hc3]; decide) (by rw [hc3]; rfl) (by decide) ?_
        exact w_law_c3 CX SC hj2 P hl hF (fun v h1 H locs ls ev P hl hz => hB v h1 H locs ls ev.symm P hl hz) hE
      rw [if_neg hc3] at hF
      by_cases hc4 : v4 &&& 63 = 4
      · rw [if_pos hc4] at hF
        refine lv_tableIn (pc := 32) (tgt := 374) hx hb dL_law_32 (by rw [hc4]; decide) (by rw [hc4]; decide) (by rw [hc4]; rfl) (by decide) ?_
        exact w_law_c4 CX SC hj2 P hl hF (fun v h1 H locs ls ev P hl hz => hB v h1 H locs ls ev.symm P hl hz) hE
      rw [if_neg hc4] at hF
      by_cases hc5 : v4 &&& 63 = 5
      · rw [if_pos hc5] at hF
        refine lv_tableIn (pc := 32) (tgt := 397) hx hb dL_law_32 (by rw [hc5]; decide) (by rw [hc5]; decide) (by rw [hc5]; rfl) (by decide) ?_
        exact w_law_c5 CX SC hj2 P hl hF (fun v h1 H locs ls ev P hl hz => hB v h1 H locs ls ev.symm P hl hz) hE
      rw [if_neg hc5] at hF
      by_cases hc6 : v4 &&& 63 = 6
      · rw [if_pos hc6] at hF
        refine lv_tableIn (pc := 32) (tgt := 440) hx hb dL_law_32 (by rw [hc6]; decide) (by rw [hc6]; decide) (by rw [hc6]; rfl) (by decide) ?_
        exact w_law_c6 CX SC hj2 P hl hF (fun v h1 H locs ls ev P hl hz => hB v h1 H locs ls ev.symm P hl hz) hE
      rw [if_neg hc6] at hF
      by_cases hc7 : v4 &&& 63 = 7
      · rw [if_pos hc7] at hF
        refine lv_tableIn (pc := 32) (tgt := 483) hx hb dL_law_32 (by rw [hc7]; decide) (by rw [hc7]; decide) (by rw [hc7]; rfl) (by decide) ?_
        exact w_law_c7 CX SC hj2 P hl hF (fun v h1 H locs ls ev P hl hz => hB v h1 H locs ls ev.symm P hl hz) hE
      rw [if_neg hc7] at hF
      by_cases hc8 : v4 &&& 63 = 8
      · rw [if_pos hc8] at hF
        refine lv_tableIn (pc := 32) (tgt := 516) hx hb dL_law_32 (by rw [hc8]; decide) (by rw [hc8]; decide) (by rw [hc8]; rfl) (by decide) ?_
        exact w_law_c8 CX SC hj2 P hl hF (fun v h1 H locs ls ev P hl hz => hB v h1 H locs ls ev.symm P hl hz) hE
      rw [if_neg hc8] at hF
      by_cases hc9 : v4 &&& 63 = 9
      · rw [if_pos hc9] at hF
        refine lv_tableIn (pc := 32) (tgt := 549) hx hb dL_law_32 (by rw [hc9]; decide) (by rw [hc9]; decide) (by rw [hc9]; rfl) (by decide) ?_
        exact w_law_c9 CX SC hj2 P hl hF (fun v h1 H locs ls ev P hl hz => hB v h1 H locs ls ev.symm P hl hz) hE
      rw [if_neg hc9] at hF
      by_cases hc10 : v4 &&& 63 = 10
      · rw [if_pos hc10] at hF
        refine lv_tableIn (pc := 32) (tgt := 582) hx hb dL_law_32 (by rw [hc10]; decide) (by rw [hc10]; decide) (by rw [hc10]; rfl) (by decide) ?_
        exact w_law_c10 CX SC hj2 P hl hF (fun v h1 H locs ls ev P hl hz => hB v h1 H locs ls ev.symm P hl hz) hE
      rw [if_neg hc10] at hF
      by_cases hc11 : v4 &&& 63 = 11
      · rw [if_pos hc11] at hF
        refine lv_tableIn (pc := 32) (tgt := 605) hx hb dL_law_32 (by rw [hc11]; decide) (by rw [hc11]; decide) (by rw [hc11]; rfl) (by decide) ?_
        exact w_law_c11 CX SC hj2 P hl hF (fun v h1 H locs ls ev P hl hz => hB v h1 H locs ls ev.symm P hl hz) hE
      rw [if_neg hc11] at hF
      by_cases hc12 : v4 &&& 63 = 12
      · rw [if_pos hc12] at hF
        refine lv_tableIn (pc := 32) (tgt := 638) hx hb dL_law_32 (by rw [hc12]; decide) (by rw [hc12]; decide) (by rw [hc12]; rfl) (by decide) ?_
        exact w_law_c12 CX SC hj2 P hl hF (fun v h1 H locs ls ev P hl hz => hB v h1 H locs ls ev.symm P hl hz) hE
      rw [if_neg hc12] at hF
      by_cases hc13 : v4 &&& 63 = 13
      · rw [if_pos hc13] at hF
        refine lv_tableIn (pc := 32) (tgt := 661) hx hb dL_law_32 (by rw [hc13]; decide) (by rw [hc13]; decide) (by rw [hc13]; rfl) (by decide) ?_
        exact w_law_c13 CX SC hj2 P hl hF (fun v h1 H locs ls ev P hl hz => hB v h1 H locs ls ev.symm P hl hz) hE
      rw [if_neg hc13] at hF
      by_cases hc14 : v4 &&& 63 = 14
      · rw [if_pos hc14] at hF
        refine lv_tableIn (pc := 32) (tgt := 684) hx hb dL_law_32 (by rw [hc14]; decide) (by rw [hc14]; decide) (by rw [hc14]; rfl) (by decide) ?_
        exact w_law_c14 CX SC hj2 P hl hF (fun v h1 H locs ls ev P hl hz => hB v h1 H locs ls ev.symm P hl hz) hE
      rw [if_neg hc14] at hF
      by_cases hc15 : v4 &&& 63 = 15
      · rw [if_pos hc15] at hF
        refine lv_tableIn (pc := 32) (tgt := 707) hx hb dL_law_32 (by rw [hc15]; decide) (by rw [hc15]; decide) (by rw [hc15]; rfl) (by decide) ?_
        exact w_law_c15 CX SC hj2 P hl hF (fun v h1 H locs ls ev P hl hz => hB v h1 H locs ls ev.symm P hl hz) hE
      rw [if_neg hc15] at hF
      by_cases hc16 : v4 &&& 63 = 16
      · rw [if_pos hc16] at hF
        refine lv_tableIn (pc := 32) (tgt := 730) hx hb dL_law_32 (by rw [hc16]; decide) (by rw [hc16]; decide) (by rw [hc16]; rfl) (by decide) ?_
        exact w_law_c16 CX SC hj2 P hl hF (fun v h1 H locs ls ev P hl hz => hB v h1 H locs ls ev.symm P hl hz) hE
      rw [if_neg hc16] at hF
      by_cases hc17 : v4 &&& 63 = 17
      · rw [if_pos hc17] at hF
        refine lv_tableIn (pc := 32) (tgt := 753) hx hb dL_law_32 (by rw [hc17]; decide) (by rw [hc17]; decide) (by rw [hc17]; rfl) (by decide) ?_
        exact w_law_c17 CX SC hj2 P hl hF (fun v h1 H locs ls ev P hl hz => hB v h1 H locs ls ev.symm P hl hz) hE
      rw [if_neg hc17] at hF
      by_cases hc18 : v4 &&& 63 = 18
      · rw [if_pos hc18] at hF
        refine lv_tableIn (pc := 32) (tgt := 796) hx hb dL_law_32 (by rw [hc18]; decide) (by rw [hc18]; decide) (by rw [hc18]; rfl) (by decide) ?_
        exact w_law_c18 CX SC hj2 P hl hF (fun v h1 H locs ls ev P hl hz => hB v h1 H locs ls ev.symm P hl hz) hE
      rw [if_neg hc18] at hF
      by_cases hc19 : v4 &&& 63 = 19
      · rw [if_pos hc19] at hF
        refine lv_tableIn (pc := 32) (tgt := 809) hx hb dL_law_32 (by rw [hc19]; decide) (by rw [hc19]; decide) (by rw [hc19]; rfl) (by decide) ?_
        exact w_law_c19 CX SC hj2 P hl hF (fun v h1 H locs ls ev P hl hz => hB v h1 H locs ls ev.symm P hl hz) hE
      rw [if_neg hc19] at hF
      by_cases hc20 : v4 &&& 63 = 20
      · rw [if_pos hc20] at hF
        refine lv_tableIn (pc := 32) (tgt := 842) hx hb dL_law_32 (by rw [hc20]; decide) (by rw [hc20]; decide) (by rw [hc20]; rfl) (by decide) ?_
        exact w_law_c20 CX SC hj2 P hl hF (fun v h1 H locs ls ev P hl hz => hB v h1 H locs ls ev.symm P hl hz) hE
      rw [if_neg hc20] at hF
      by_cases hc21 : v4 &&& 63 = 21
      · rw [if_pos hc21] at hF
        refine lv_tableIn (pc := 32) (tgt := 875) hx hb dL_law_32 (by rw [hc21]; decide) (by rw [hc21]; decide) (by rw [hc21]; rfl) (by decide) ?_
        exact w_law_c21 CX SC hj2 P hl hF (fun v h1 H locs ls ev P hl hz => hB v h1 H locs ls ev.symm P hl hz) hE
      rw [if_neg hc21] at hF
      by_cases hc22 : v4 &&& 63 = 22
      · rw [if_pos hc22] at hF
        refine lv_tableIn (pc := 32) (tgt := 918) hx hb dL_law_32 (by rw [hc22]; decide) (by rw [hc22]; decide) (by rw [hc22]; rfl) (by decide) ?_
        exact w_law_c22 CX SC hj2 P hl hF (fun v h1 H locs ls ev P hl hz => hB v h1 H locs ls ev.symm P hl hz) hE
      rw [if_neg hc22] at hF
      by_cases hc23 : v4 &&& 63 = 23
      · rw [if_pos hc23] at hF
        refine lv_tableIn (pc := 32) (tgt := 971) hx hb dL_law_32 (by rw [hc23]; decide) (by rw [hc23]; decide) (by rw [hc23]; rfl) (by decide) ?_
        exact w_law_c23 CX SC hj2 P hl hF (fun v h1 H locs ls ev P hl hz => hB v h1 H locs ls ev.symm P hl hz) hE
      rw [if_neg hc23] at hF
      by_cases hc24 : v4 &&& 63 = 24
      · rw [if_pos hc24] at hF
        refine lv_tableIn (pc := 32) (tgt := 1014) hx hb dL_law_32 (by rw [hc24]; decide) (by rw [hc24]; decide) (by rw [hc24]; rfl) (by decide) ?_
        exact w_law_c24 CX SC hj2 P hl hF (fun v h1 H locs ls ev P hl hz => hB v h1 H locs ls ev.symm P hl hz) hE
      rw [if_neg hc24] at hF
      by_cases hc25 : v4 &&& 63 = 25
      · rw [if_pos hc25] at hF
        refine lv_tableIn (pc := 32) (tgt := 1037) hx hb dL_law_32 (by rw [hc25]; decide) (by rw [hc25]; decide) (by rw [hc25]; rfl) (by decide) ?_
        exact w_law_c25 CX SC hj2 P hl hF (fun v h1 H locs ls ev P hl hz => hB v h1 H locs ls ev.symm P hl hz) hE
      rw [if_neg hc25] at hF
      by_cases hc26 : v4 &&& 63 = 26
      · rw [if_pos hc26] at hF
        refine lv_tableIn (pc := 32) (tgt := 1060) hx hb dL_law_32 (by rw [hc26]; decide) (by rw [hc26]; decide) (by rw [hc26]; rfl) (by decide) ?_
        exact w_law_c26 CX SC hj2 P hl hF (fun v h1 H locs ls ev P hl hz => hB v h1 H locs ls ev.symm P hl hz) hE
      rw [if_neg hc26] at hF
      by_cases hc27 : v4 &&& 63 = 27
      · rw [if_pos hc27] at hF
        refine lv_tableIn (pc := 32) (tgt := 1093) hx hb dL_law_32 (by rw [hc27]; decide) (by rw [hc27]; decide) (by rw [hc27]; rfl) (by decide) ?_
        exact w_law_c27 CX SC hj2 P hl hF (fun v h1 H locs ls ev P hl hz => hB v h1 H locs ls ev.symm P hl hz) hE
      rw [if_neg hc27] at hF
      by_cases hc28 : v4 &&& 63 = 28
      · rw [if_pos hc28] at hF
        refine lv_tableIn (pc := 32) (tgt := 1136) hx hb dL_law_32 (by rw [hc28]; decide) (by rw [hc28]; decide) (by rw [hc28]; rfl) (by decide) ?_
        exact w_law_c28 CX SC hj2 P hl hF (fun v h1 H locs ls ev P hl hz => hB v h1 H locs ls ev.symm P hl hz) hE
      rw [if_neg hc28] at hF
      by_cases hc29 : v4 &&& 63 = 29
      · rw [if_pos hc29] at hF
        refine lv_tableIn (pc := 32) (tgt := 1179) hx hb dL_law_32 (by rw [hc29]; decide) (by rw [hc29]; decide) (by rw [hc29]; rfl) (by decide) ?_
        exact w_law_c29 CX SC hj2 P hl hF (fun v h1 H locs ls ev P hl hz => hB v h1 H locs ls ev.symm P hl hz) hE
      rw [if_neg hc29] at hF
      by_cases hc30 : v4 &&& 63 = 30
      · rw [if_pos hc30] at hF
        refine lv_tableIn (pc := 32) (tgt := 1212) hx hb dL_law_32 (by rw [hc30]; decide) (by rw [hc30]; decide) (by rw [hc30]; rfl) (by decide) ?_
        exact w_law_c30 CX SC hj2 P hl hF (fun v h1 H locs ls ev P hl hz => hB v h1 H locs ls ev.symm P hl hz) hE
      rw [if_neg hc30] at hF
      by_cases hc31 : v4 &&& 63 = 31
      · rw [if_pos hc31] at hF
        refine lv_tableIn (pc := 32) (tgt := 1225) hx hb dL_law_32 (by rw [hc31]; decide) (by rw [hc31]; decide) (by rw [hc31]; rfl) (by decide) ?_
        exact w_law_c31 CX SC hj2 P hl hF (fun v h1 H locs ls ev P hl hz => hB v h1 H locs ls ev.symm P hl hz) hE
      rw [if_neg hc31] at hF
      by_cases hc32 : v4 &&& 63 = 32
      · rw [if_pos hc32] at hF
        refine lv_tableIn (pc := 32) (tgt := 1258) hx hb dL_law_32 (by rw [hc32]; decide) (by rw [hc32]; decide) (by rw [hc32]; rfl) (by decide) ?_
        exact w_law_c32 CX SC hj2 P hl hF (fun v h1 H locs ls ev P hl hz => hB v h1 H locs ls ev.symm P hl hz) hE
      rw [if_neg hc32] at hF
      by_cases hc33 : v4 &&& 63 = 33
      · rw [if_pos hc33] at hF
        refine lv_tableIn (pc := 32) (tgt := 1291) hx hb dL_law_32 (by rw [hc33]; decide) (by rw [hc33]; decide) (by rw [hc33]; rfl) (by decide) ?_
        exact w_law_c33 CX SC hj2 P hl hF (fun v h1 H locs ls ev P hl hz => hB v h1 H locs ls ev.symm P hl hz) hE
      rw [if_neg hc33] at hF
      by_cases hc34 : v4 &&& 63 = 34
      · rw [if_pos hc34] at hF
        refine lv_tableIn (pc := 32) (tgt := 1324) hx hb dL_law_32 (by rw [hc34]; decide) (by rw [hc34]; decide) (by rw [hc34]; rfl) (by decide) ?_
        exact w_law_c34 CX SC hj2 P hl hF (fun v h1 H locs ls ev P hl hz => hB v h1 H locs ls ev.symm P hl hz) hE
      rw [if_neg hc34] at hF
      by_cases hc35 : v4 &&& 63 = 35
      · rw [if_pos hc35] at hF
        refine lv_tableIn (pc := 32) (tgt := 1347) hx hb dL_law_32 (by rw [hc35]; decide) (by rw [hc35]; decide) (by rw [hc35]; rfl) (by decide) ?_
        exact w_law_c35 CX SC hj2 P hl hF (fun v h1 H locs ls ev P hl hz => hB v h1 H locs ls ev.symm P hl hz) hE
      rw [if_neg hc35] at hF
      by_cases hc36 : v4 &&& 63 = 36
      · rw [if_pos hc36] at hF
        refine lv_tableIn (pc := 32) (tgt := 1370) hx hb dL_law_32 (by rw [hc36]; decide) (by rw [hc36]; decide) (by rw [hc36]; rfl) (by decide) ?_
        exact w_law_c36 CX SC hj2 P hl hF (fun v h1 H locs ls ev P hl hz => hB v h1 H locs ls ev.symm P hl hz) hE
      rw [if_neg hc36] at hF
      by_cases hc37 : v4 &&& 63 = 37
      · rw [if_pos hc37] at hF
        refine lv_tableIn (pc := 32) (tgt := 1393) hx hb dL_law_32 (by rw [hc37]; decide) (by rw [hc37]; decide) (by rw [hc37]; rfl) (by decide) ?_
        exact w_law_c37 CX SC hj2 P hl hF (fun v h1 H locs ls ev P hl hz => hB v h1 H locs ls ev.symm P hl hz) hE
      rw [if_neg hc37] at hF
      by_cases hc38 : v4 &&& 63 = 38
      · rw [if_pos hc38] at hF
        refine lv_tableIn (pc := 32) (tgt := 1426) hx hb dL_law_32 (by rw [hc38]; decide) (by rw [hc38]; decide) (by rw [hc38]; rfl) (by decide) ?_
        exact w_law_c38 CX SC hj2 P hl hF (fun v h1 H locs ls ev P hl hz => hB v h1 H locs ls ev.symm P hl hz) hE
      rw [if_neg hc38] at hF
      by_cases hc39 : v4 &&& 63 = 39
      · rw [if_pos hc39] at hF
        refine lv_tableIn (pc := 32) (tgt := 1479) hx hb dL_law_32 (by rw [hc39]; decide) (by rw [hc39]; decide) (by rw [hc39]; rfl) (by decide) ?_
        exact w_law_c39 CX SC hj2 P hl hF (fun v h1 H locs ls ev P hl hz => hB v h1 H locs ls ev.symm P hl hz) hE
      rw [if_neg hc39] at hF
      by_cases hc40 : v4 &&& 63 = 40
      · rw [if_pos hc40] at hF
        refine lv_tableIn (pc := 32) (tgt := 1502) hx hb dL_law_32 (by rw [hc40]; decide) (by rw [hc40]; decide) (by rw [hc40]; rfl) (by decide) ?_
        exact w_law_c40 CX SC hj2 P hl hF (fun v h1 H locs ls ev P hl hz => hB v h1 H locs ls ev.symm P hl hz) hE
      rw [if_neg hc40] at hF
      by_cases hc41 : v4 &&& 63 = 41
      · rw [if_pos hc41] at hF
        refine lv_tableIn (pc := 32) (tgt := 1525) hx hb dL_law_32 (by rw [hc41]; decide) (by rw [hc41]; decide) (by rw [hc41]; rfl) (by decide) ?_
        exact w_law_c41 CX SC hj2 P hl hF (fun v h1 H locs ls ev P hl hz => hB v h1 H locs ls ev.symm P hl hz) hE
      rw [if_neg hc41] at hF
      by_cases hc42 : v4 &&& 63 = 42
      · rw [if_pos hc42] at hF
        refine lv_tableIn (pc := 32) (tgt := 1538) hx hb dL_law_32 (by rw [hc42]; decide) (by rw [hc42]; decide) (by rw [hc42]; rfl) (by decide) ?_
        exact w_law_c42 CX SC hj2 P hl hF (fun v h1 H locs ls ev P hl hz => hB v h1 H locs ls ev.symm P hl hz) hE
      rw [if_neg hc42] at hF
      by_cases hc43 : v4 &&& 63 = 43
      · rw [if_pos hc43] at hF
        refine lv_tableIn (pc := 32) (tgt := 1571) hx hb dL_law_32 (by rw [hc43]; decide) (by rw [hc43]; decide) (by rw [hc43]; rfl) (by decide) ?_
        exact w_law_c43 CX SC hj2 P hl hF (fun v h1 H locs ls ev P hl hz => hB v h1 H locs ls ev.symm P hl hz) hE
      rw [if_neg hc43] at hF
      by_cases hc44 : v4 &&& 63 = 44
      · rw [if_pos hc44] at hF
        refine lv_tableIn (pc := 32) (tgt := 1594) hx hb dL_law_32 (by rw [hc44]; decide) (by rw [hc44]; decide) (by rw [hc44]; rfl) (by decide) ?_
        exact w_law_c44 CX SC hj2 P hl hF (fun v h1 H locs ls ev P hl hz => hB v h1 H locs ls ev.symm P hl hz) hE
      rw [if_neg hc44] at hF
      by_cases hc45 : v4 &&& 63 = 45
      · rw [if_pos hc45] at hF
        refine lv_tableIn (pc := 32) (tgt := 1637) hx hb dL_law_32 (by rw [hc45]; decide) (by rw [hc45]; decide) (by rw [hc45]; rfl) (by decide) ?_
        exact w_law_c45 CX SC hj2 P hl hF (fun v h1 H locs ls ev P hl hz => hB v h1 H locs ls ev.symm P hl hz) hE
      rw [if_neg hc45] at hF
      by_cases hc46 : v4 &&& 63 = 46
      · rw [if_pos hc46] at hF
        refine lv_tableIn (pc := 32) (tgt := 1670) hx hb dL_law_32 (by rw [hc46]; decide) (by rw [hc46]; decide) (by rw [hc46]; rfl) (by decide) ?_
        exact w_law_c46 CX SC hj2 P hl hF (fun v h1 H locs ls ev P hl hz => hB v h1 H locs ls ev.symm P hl hz) hE
      rw [if_neg hc46] at hF
      by_cases hc47 : v4 &&& 63 = 47
      · rw [if_pos hc47] at hF
        refine lv_tableIn (pc := 32) (tgt := 1713) hx hb dL_law_32 (by rw [hc47]; decide) (by rw [hc47]; decide) (by rw [hc47]; rfl) (by decide) ?_
        exact w_law_c47 CX SC hj2 P hl hF (fun v h1 H locs ls ev P hl hz => hB v h1 H locs ls ev.symm P hl hz) hE
      rw [if_neg hc47] at hF
      by_cases hc48 : v4 &&& 63 = 48
      · rw [if_pos hc48] at hF
        refine lv_tableIn (pc := 32) (tgt := 1736) hx hb dL_law_32 (by rw [hc48]; decide) (by rw [hc48]; decide) (by rw [hc48]; rfl) (by decide) ?_
        exact w_law_c48 CX SC hj2 P hl hF (fun v h1 H locs ls ev P hl hz => hB v h1 H locs ls ev.symm P hl hz) hE
      rw [if_neg hc48] at hF
      by_cases hc49 : v4 &&& 63 = 49
      · rw [if_pos hc49] at hF
        refine lv_tableIn (pc := 32) (tgt := 1759) hx hb dL_law_32 (by rw [hc49]; decide) (by rw [hc49]; decide) (by rw [hc49]; rfl) (by decide) ?_
        exact w_law_c49 CX SC hj2 P hl hF (fun v h1 H locs ls ev P hl hz => hB v h1 H locs ls ev.symm P hl hz) hE
      rw [if_neg hc49] at hF
      by_cases hc50 : v4 &&& 63 = 50
      · rw [if_pos hc50] at hF
        refine lv_tableIn (pc := 32) (tgt := 1782) hx hb dL_law_32 (by rw [hc50]; decide) (by rw [hc50]; decide) (by rw [hc50]; rfl) (by decide) ?_
        exact w_law_c50 CX SC hj2 P hl hF (fun v h1 H locs ls ev P hl hz => hB v h1 H locs ls ev.symm P hl hz) hE
      rw [if_neg hc50] at hF
      refine lv_tableOut (pc := 32) (tgt := 1805) hx hb dL_law_32 (sw_l 0 50 51 [0, 1, 2, 3, 4, 5, 6, 7, 8, 9, 10, 11, 12, 13, 14, 15, 16, 17, 18, 19, 20, 21, 22, 23, 24, 25, 26, 27, 28, 29, 30, 31, 32, 33, 34, 35, 36, 37, 38, 39, 40, 41, 42, 43, 44, 45, 46, 47, 48, 49, 50] (by decide +kernel) (by decide) (List.forall_mem_cons.mpr ⟨hc0, List.forall_mem_cons.mpr ⟨hc1, List.forall_mem_cons.mpr ⟨hc2, List.forall_mem_cons.mpr ⟨hc3, List.forall_mem_cons.mpr ⟨hc4, List.forall_mem_cons.mpr ⟨hc5, List.forall_mem_cons.mpr ⟨hc6, List.forall_mem_cons.mpr ⟨hc7, List.forall_mem_cons.mpr ⟨hc8, List.forall_mem_cons.mpr ⟨hc9, List.forall_mem_cons.mpr ⟨hc10, List.forall_mem_cons.mpr ⟨hc11, List.forall_mem_cons.mpr ⟨hc12, List.forall_mem_cons.mpr ⟨hc13, List.forall_mem_cons.mpr ⟨hc14, List.forall_mem_cons.mpr ⟨hc15, List.forall_mem_cons.mpr ⟨hc16, List.forall_mem_cons.mpr ⟨hc17, List.forall_mem_cons.mpr ⟨hc18, List.forall_mem_cons.mpr ⟨hc19, List.forall_mem_cons.mpr ⟨hc20, List.forall_mem_cons.mpr ⟨hc21, List.forall_mem_cons.mpr ⟨hc22, List.forall_mem_cons.mpr ⟨hc23, List.forall_mem_cons.mpr ⟨hc24, List.forall_mem_cons.mpr ⟨hc25, List.forall_mem_cons.mpr ⟨hc26, List.forall_mem_cons.mpr ⟨hc27, List.forall_mem_cons.mpr ⟨hc28, List.forall_mem_cons.mpr ⟨hc29, List.forall_mem_cons.mpr ⟨hc30, List.forall_mem_cons.mpr ⟨hc31, List.forall_mem_cons.mpr ⟨hc32, List.forall_mem_cons.mpr ⟨hc33, List.forall_mem_cons.mpr ⟨hc34, List.forall_mem_cons.mpr ⟨hc35, List.forall_mem_cons.mpr ⟨hc36, List.forall_mem_cons.mpr ⟨hc37, List.forall_mem_cons.mpr ⟨hc38, List.forall_mem_cons.mpr ⟨hc39, List.forall_mem_cons.mpr ⟨hc40, List.forall_mem_cons.mpr ⟨hc41, List.forall_mem_cons.mpr ⟨hc42, List.forall_mem_cons.mpr ⟨hc43, List.forall_mem_cons.mpr ⟨hc44, List.forall_mem_cons.mpr ⟨hc45, List.forall_mem_cons.mpr ⟨hc46, List.forall_mem_cons.mpr ⟨hc47, List.forall_mem_cons.mpr ⟨hc48, List.forall_mem_cons.mpr ⟨hc49, List.forall_mem_cons.mpr ⟨hc50, fun _ h => absurd h List.not_mem_nil⟩⟩⟩⟩⟩⟩⟩⟩⟩⟩⟩⟩⟩⟩⟩⟩⟩⟩⟩⟩⟩⟩⟩⟩⟩⟩⟩⟩⟩⟩⟩⟩⟩⟩⟩⟩⟩⟩⟩⟩⟩⟩⟩⟩⟩⟩⟩⟩⟩⟩⟩)) (by decide) ?_
      obtain ⟨v5, ev5, hF⟩ := bl_o hF
      refine lv_iinc (pc := 1805) (k := 3) (v := v5) hx hb dL_law_1805 hl rfl ev5 (by decide) rfl (fun ls hl => ?_)
      replace hl : lv_has ls 4 [(3, .int v5), (0, .ref b), (1, .ref (B + ax)), (2, .ref (B + am))] := hl
      refine lv_goto (pc := 1808) (tgt := 18) hx hb dL_law_1808 (by decide) ?_
      refine W.widen (k := 775 + 57 * (j + 1)) (n := 16739 + 614 * (j + 1)) (lw0 j).1 (lw0 j).2 ?_
      exact hB v5 h _ _ _ ev5.symm P (lv_sub hl [1, 2, 3, 0] rfl) hF.symm
