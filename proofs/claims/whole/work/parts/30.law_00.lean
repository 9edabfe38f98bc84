theorem lf0 {j : Nat} (hj : j < 512) : 775 + 57 * j + 0 ≤ room_1.cells ∧ 16739 + 614 * j + 0 ≤ room_1.slots := ⟨by show _ ≤ 600000; omega, by show _ ≤ 7302250; omega⟩
theorem lf1 {j : Nat} (hj : j < 512) : 775 + 57 * j + 57 ≤ room_1.cells ∧ 16739 + 614 * j + 614 ≤ room_1.slots := ⟨by show _ ≤ 600000; omega, by show _ ≤ 7302250; omega⟩
theorem lw0 (j : Nat) : 775 + 57 * j ≤ 775 + 57 * (j + 1) ∧ 16739 + 614 * j ≤ 16739 + 614 * (j + 1) := ⟨by omega, by omega⟩
theorem lw1 (j : Nat) : 775 + 57 * j + 57 ≤ 775 + 57 * (j + 1) ∧ 16739 + 614 * j + 614 ≤ 16739 + 614 * (j + 1) := ⟨by omega, by omega⟩
def F_law_c0 (L : Nat) (xs : Nat → Int32) (ax am : Nat) (vi : Int32) (h : Hp) : Option ((Int32 × Hp) ⊕ ((Int32 × Hp) ⊕ Hp)) :=
(scX L xs (vi + 1)).bind fun v1 =>
(cO h ax 9 (F_X9_group h ax v1)).bind (un fun v2 h3 =>
(scX L xs (vi + 1)).bind fun v4 =>
(cO h3 am 10 (F_X10_group h3 am v4)).bind (un fun v5 h6 =>
if v2 = v5 then (
bl (vi + 5) fun v7 =>
some (.inl (v7, h6))) else (
some (.inr (.inl (0, h6))))))
set_option maxRecDepth 100000 in
set_option maxHeartbeats 4000000 in
theorem w_law_c0 {p : Program} {l : Launch} {e : Env} {s : State} {m : MethodId} {args : Array Value} {below : List Frame} {meth : Method} {c : Code} {Q : State → Prop} {G : GG} {B b L : Nat} {xs : Nat → Int32} (CX : Cxt p m c code 4 s args RL G B) (SC : SCr b L xs s B) {ax am : Nat} {vi : Int32} {h : Hp} {j : Nat} {z : (Int32 × Hp) ⊕ ((Int32 × Hp) ⊕ Hp)} {H : Heap} {locs : List Loc} {ls : Array Slot} (hj : j < 512) (P : Pic G B h s H locs) (hl : lv_has ls 4 [(0, .ref b), (1, .ref (B + ax)), (2, .ref (B + am)), (3, .int vi)]) (hF : F_law_c0 L xs ax am vi h = some z)
    (hB : ∀ (v : Int32) (h1 : Hp) (H : Heap) (locs : List Loc) (ls : Array Slot), vi + 5 = v → Pic G B h1 s H locs → lv_has ls 4 [(0, .ref b), (1, .ref (B + ax)), (2, .ref (B + am)), (3, .int v)] → some z = some (.inl (v, h1)) → W p l e room_1 s m args below meth c H locs (775 + 57 * (j + 1)) (16739 + 614 * (j + 1)) Q (F0 m 18 ls []))
    (hE : ∀ h1, ¬ z = .inr (.inl (0, h1))) : W p l e room_1 s m args below meth c H locs (775 + 57 * j) (16739 + 614 * j) Q (F0 m 252 ls []) := by
  obtain ⟨⟨hx, hb, hml, hown, hts⟩, -, -⟩ := id CX
  unfold F_law_c0 at hF
  refine lv_aload_n (pc := 252) hx hb dL_law_252 rfl (lv_at hl 1 rfl) ?_
  refine lv_aload_n (pc := 253) hx hb dL_law_253 rfl (lv_at hl 0 rfl) ?_
  refine lv_iload_n (pc := 254) hx hb dL_law_254 rfl (lv_at hl 3 rfl) ?_
  refine lv_iconst (pc := 255) (v := 1) hx hb dL_law_255 (by decide) ?_
  refine lv_iadd (pc := 256) hx hb dL_law_256 ?_
  refine r_sc (pc := 257) CX P SC hF dL_law_257 (fun v1 hF => ?_)
  refine r_cVi (pc := 258) (As := [.int v1]) (rest := []) CX P hl.1 hF kv_L_13 (fun r h1 q => c_X9_group l G B _ _ _ _ _ q) rfl rfl ⟨Nat.le_of_ble_eq_true rfl, Nat.le_of_ble_eq_true rfl⟩ (Nat.le_of_ble_eq_true rfl) (lf0 hj) dL_law_258 (fun v2 h3 H locs P hF => ?_)
  replace hF := un_i hF
  refine lv_aload_n (pc := 261) hx hb dL_law_261 rfl (lv_at hl 2 rfl) ?_
  refine lv_aload_n (pc := 262) hx hb dL_law_262 rfl (lv_at hl 0 rfl) ?_
  refine lv_iload_n (pc := 263) hx hb dL_law_263 rfl (lv_at hl 3 rfl) ?_
  refine lv_iconst (pc := 264) (v := 1) hx hb dL_law_264 (by decide) ?_
  refine lv_iadd (pc := 265) hx hb dL_law_265 ?_
  refine r_sc (pc := 266) CX P SC hF dL_law_266 (fun v4 hF => ?_)
  refine r_cVi (pc := 267) (As := [.int v4]) (rest := [.int v2]) CX P hl.1 hF kv_L_17 (fun r h1 q => c_X10_group l G B _ _ _ _ _ q) rfl rfl ⟨Nat.le_of_ble_eq_true rfl, Nat.le_of_ble_eq_true rfl⟩ (Nat.le_of_ble_eq_true rfl) (lf0 hj) dL_law_267 (fun v5 h6 H locs P hF => ?_)
  replace hF := un_i hF
  refine lv_icmp_eq (pc := 270) (tgt := 1805) hx hb dL_law_270 (by decide) (fun hc => ?_) (fun hc => ?_)
  · rw [if_pos hc] at hF
    obtain ⟨v7, ev7, hF⟩ := bl_o hF
    refine lv_iinc (pc := 1805) (k := 3) (v := v7) hx hb dL_law_1805 hl rfl ev7 (by decide) rfl (fun ls hl => ?_)
    replace hl : lv_has ls 4 [(3, .int v7), (0, .ref b), (1, .ref (B + ax)), (2, .ref (B + am))] := hl
    refine lv_goto (pc := 1808) (tgt := 18) hx hb dL_law_1808 (by decide) ?_
    refine W.widen (k := 775 + 57 * (j + 1)) (n := 16739 + 614 * (j + 1)) (lw0 j).1 (lw0 j).2 ?_
    exact hB _ _ _ _ _ ev7 P (lv_sub hl [1, 2, 3, 0] rfl) hF.symm
  · rw [if_neg hc] at hF
    refine lv_iconst (pc := 273) (v := 0) hx hb dL_law_273 (by decide) ?_
    exact absurd (Option.some.inj hF).symm (hE _)
def F_law_c1 (L : Nat) (xs : Nat → Int32) (ax am : Nat) (vi : Int32) (h : Hp) : Option ((Int32 × Hp) ⊕ ((Int32 × Hp) ⊕ Hp)) :=
(scX L xs (vi + 1)).bind fun v1 =>
(cO h ax 9 (F_X9_remove h ax v1)).bind (un fun v2 h3 =>
(scX L xs (vi + 1)).bind fun v4 =>
(cO h3 am 10 (F_X10_remove h3 am v4)).bind (un fun v5 h6 =>
if v2 = v5 then (
bl (vi + 5) fun v7 =>
some (.inl (v7, h6))) else (
some (.inr (.inl (0, h6))))))
set_option maxRecDepth 100000 in
set_option maxHeartbeats 4000000 in
theorem w_law_c1 {p : Program} {l : Launch} {e : Env} {s : State} {m : MethodId} {args : Array Value} {below : List Frame} {meth : Method} {c : Code} {Q : State → Prop} {G : GG} {B b L : Nat} {xs : Nat → Int32} (CX : Cxt p m c code 4 s args RL G B) (SC : SCr b L xs s B) {ax am : Nat} {vi : Int32} {h : Hp} {j : Nat} {z : (Int32 × Hp) ⊕ ((Int32 × Hp) ⊕ Hp)} {H : Heap} {locs : List Loc} {ls : Array Slot} (hj : j < 512) (P : Pic G B h s H locs) (hl : lv_has ls 4 [(0, .ref b), (1, .ref (B + ax)), (2, .ref (B + am)), (3, .int vi)]) (hF : F_law_c1 L xs ax am vi h = some z)
    (hB : ∀ (v : Int32) (h1 : Hp) (H : Heap) (locs : List Loc) (ls : Array Slot), vi + 5 = v → Pic G B h1 s H locs → lv_has ls 4 [(0, .ref b), (1, .ref (B + ax)), (2, .ref (B + am)), (3, .int v)] → some z = some (.inl (v, h1)) → W p l e room_1 s m args below meth c H locs (775 + 57 * (j + 1)) (16739 + 614 * (j + 1)) Q (F0 m 18 ls []))
    (hE : ∀ h1, ¬ z = .inr (.inl (0, h1))) : W p l e room_1 s m args below meth c H locs (775 + 57 * j) (16739 + 614 * j) Q (F0 m 275 ls []) := by
  obtain ⟨⟨hx, hb, hml, hown, hts⟩, -, -⟩ := id CX
  unfold F_law_c1 at hF
  refine lv_aload_n (pc := 275) hx hb dL_law_275 rfl (lv_at hl 1 rfl) ?_
  refine lv_aload_n (pc := 276) hx hb dL_law_276 rfl (lv_at hl 0 rfl) ?_
  refine lv_iload_n (pc := 277) hx hb dL_law_277 rfl (lv_at hl 3 rfl) ?_
  refine lv_iconst (pc := 278) (v := 1) hx hb dL_law_278 (by decide) ?_
  refine lv_iadd (pc := 279) hx hb dL_law_279 ?_
  refine r_sc (pc := 280) CX P SC hF dL_law_280 (fun v1 hF => ?_)
  refine r_cVi (pc := 281) (As := [.int v1]) (rest := []) CX P hl.1 hF kv_L_18 (fun r h1 q => c_X9_remove l G B _ _ _ _ _ q) rfl rfl ⟨Nat.le_of_ble_eq_true rfl, Nat.le_of_ble_eq_true rfl⟩ (Nat.le_of_ble_eq_true rfl) (lf0 hj) dL_law_281 (fun v2 h3 H locs P hF => ?_)
  replace hF := un_i hF
  refine lv_aload_n (pc := 284) hx hb dL_law_284 rfl (lv_at hl 2 rfl) ?_
  refine lv_aload_n (pc := 285) hx hb dL_law_285 rfl (lv_at hl 0 rfl) ?_
  refine lv_iload_n (pc := 286) hx hb dL_law_286 rfl (lv_at hl 3 rfl) ?_
  refine lv_iconst (pc := 287) (v := 1) hx hb dL_law_287 (by decide) ?_
  refine lv_iadd (pc := 288) hx hb dL_law_288 ?_
  refine r_sc (pc := 289) CX P SC hF dL_law_289 (fun v4 hF => ?_)
  refine r_cVi (pc := 290) (As := [.int v4]) (rest := [.int v2]) CX P hl.1 hF kv_L_21 (fun r h1 q => c_X10_remove l G B _ _ _ _ _ q) rfl rfl ⟨Nat.le_of_ble_eq_true rfl, Nat.le_of_ble_eq_true rfl⟩ (Nat.le_of_ble_eq_true rfl) (lf0 hj) dL_law_290 (fun v5 h6 H locs P hF => ?_)
  replace hF := un_i hF
  refine lv_icmp_eq (pc := 293) (tgt := 1805) hx hb dL_law_293 (by decide) (fun hc => ?_) (fun hc => ?_)
  · rw [if_pos hc] at hF
    obtain ⟨v7, ev7, hF⟩ := bl_o hF
    refine lv_iinc (pc := 1805) (k := 3) (v := v7) hx hb dL_law_1805 hl rfl ev7 (by decide) rfl (fun ls hl => ?_)
    replace hl : lv_has ls 4 [(3, .int v7), (0, .ref b), (1, .ref (B + ax)), (2, .ref (B + am))] := hl
    refine lv_goto (pc := 1808) (tgt := 18) hx hb dL_law_1808 (by decide) ?_
    refine W.widen (k := 775 + 57 * (j + 1)) (n := 16739 + 614 * (j + 1)) (lw0 j).1 (lw0 j).2 ?_
    exact hB _ _ _ _ _ ev7 P (lv_sub hl [1, 2, 3, 0] rfl) hF.symm
  · rw [if_neg hc] at hF
    refine lv_iconst (pc := 296) (v := 0) hx hb dL_law_296 (by decide) ?_
    exact absurd (Option.some.inj hF).symm (hE _)
def F_law_c2 (L : Nat) (xs : Nat → Int32) (ax am : Nat) (vi : Int32) (h : Hp) : Option ((Int32 × Hp) ⊕ ((Int32 × Hp) ⊕ Hp)) :=
(scX L xs (vi + 1)).bind fun v1 =>
(scX L xs (vi + 2)).bind fun v2 =>
(scX L xs (vi + 3)).bind fun v3 =>
(cO h ax 9 (F_X9_limit h ax v1 v2 v3)).bind (un fun v4 h5 =>
(scX L xs (vi + 1)).bind fun v6 =>
(scX L xs (vi + 2)).bind fun v7 =>
(scX L xs (vi + 3)).bind fun v8 =>
(cO h5 am 10 (F_X10_limit h5 am v6 v7 v8)).bind (un fun v9 h10 =>
if v4 = v9 then (
bl (vi + 5) fun v11 =>
some (.inl (v11, h10))) else (
some (.inr (.inl (0, h10))))))
set_option maxRecDepth 100000 in
set_option maxHeartbeats 4000000 in
theorem w_law_c2 {p : Program} {l : Launch} {e : Env} {s : State} {m : MethodId} {args : Array Value} {below : List Frame} {meth : Method} {c : Code} {Q : State → Prop} {G : GG} {B b L : Nat} {xs : Nat → Int32} (CX : Cxt p m c code 4 s args RL G B) (SC : SCr b L xs s B) {ax am : Nat} {vi : Int32} {h : Hp} {j : Nat} {z : (Int32 × Hp) ⊕ ((Int32 × Hp) ⊕ Hp)} {H : Heap} {locs : List Loc} {ls : Array Slot} (hj : j < 512) (P : Pic G B h s H locs) (hl : lv_has ls 4 [(0, .ref b), (1, .ref (B + ax)), (2, .ref (B + am)), (3, .int vi)]) (hF : F_law_c2 L xs ax am vi h = some z)
    (hB : ∀ (v : Int32) (h1 : Hp) (H : Heap) (locs : List Loc) (ls : Array Slot), vi + 5 = v → Pic G B h1 s H locs → lv_has ls 4 [(0, .ref b), (1, .ref (B + ax)), (2, .ref (B + am)), (3, .int v)] → some z = some (.inl (v, h1)) → W p l e room_1 s m args below meth c H locs (775 + 57 * (j + 1)) (16739 + 614 * (j + 1)) Q (F0 m 18 ls []))
    (hE : ∀ h1, ¬ z = .inr (.inl (0, h1))) : W p l e room_1 s m args below meth c H locs (775 + 57 * j) (16739 + 614 * j) Q (F0 m 298 ls []) := by
  obtain ⟨⟨hx, hb, hml, hown, hts⟩, -, -⟩ := id CX
  unfold F_law_c2 at hF
  refine lv_aload_n (pc := 298) hx hb dL_law_298 rfl (lv_at hl 1 rfl) ?_
  refine lv_aload_n (pc := 299) hx hb dL_law_299 rfl (lv_at hl 0 rfl) ?_
  refine lv_iload_n (pc := 300) hx hb dL_law_300 rfl (lv_at hl 3 rfl) ?_
  refine lv_iconst (pc := 301) (v := 1) hx hb dL_law_301 (by decide) ?_
  refine lv_iadd (pc := 302) hx hb dL_law_302 ?_
  refine r_sc (pc := 303) CX P SC hF dL_law_303 (fun v1 hF => ?_)
  refine lv_aload_n (pc := 304) hx hb dL_law_304 rfl (lv_at hl 0 rfl) ?_
  refine lv_iload_n (pc := 305) hx hb dL_law_305 rfl (lv_at hl 3 rfl) ?_
  refine lv_iconst (pc := 306) (v := 2) hx hb dL_law_306 (by decide) ?_
  refine lv_iadd (pc := 307) hx hb dL_law_307 ?_
  refine r_sc (pc := 308) CX P SC hF dL_law_308 (fun v2 hF => ?_)
  refine lv_aload_n (pc := 309) hx hb dL_law_309 rfl (lv_at hl 0 rfl) ?_
  refine lv_iload_n (pc := 310) hx hb dL_law_310 rfl (lv_at hl 3 rfl) ?_
  refine lv_iconst (pc := 311) (v := 3) hx hb dL_law_311 (by decide) ?_
  refine lv_iadd (pc := 312) hx hb dL_law_312 ?_
  refine r_sc (pc := 313) CX P SC hF dL_law_313 (fun v3 hF => ?_)
  refine r_cVi (pc := 314) (As := [.int v1, .int v2, .int v3]) (rest := []) CX P hl.1 hF kv_L_22 (fun r h1 q => c_X9_limit l G B _ _ _ _ _ _ _ q) rfl rfl ⟨Nat.le_of_ble_eq_true rfl, Nat.le_of_ble_eq_true rfl⟩ (Nat.le_of_ble_eq_true rfl) (lf0 hj) dL_law_314 (fun v4 h5 H locs P hF => ?_)
  replace hF := un_i hF
  refine lv_aload_n (pc := 317) hx hb dL_law_317 rfl (lv_at hl 2 rfl) ?_
  refine lv_aload_n (pc := 318) hx hb dL_law_318 rfl (lv_at hl 0 rfl) ?_
  refine lv_iload_n (pc := 319) hx hb dL_law_319 rfl (lv_at hl 3 rfl) ?_
  refine lv_iconst (pc := 320) (v := 1) hx hb dL_law_320 (by decide) ?_
  refine lv_iadd (pc := 321) hx hb dL_law_321 ?_
  refine r_sc (pc := 322) CX P SC hF dL_law_322 (fun v6 hF => ?_)
  refine lv_aload_n (pc := 323) hx hb dL_law_323 rfl (lv_at hl 0 rfl) ?_
  refine lv_iload_n (pc := 324) hx hb dL_law_324 rfl (lv_at hl 3 rfl) ?_
  refine lv_iconst (pc := 325) (v := 2) hx hb dL_law_325 (by decide) ?_
  refine lv_iadd (pc := 326) hx hb dL_law_326 ?_
  refine r_sc (pc := 327) CX P SC hF dL_law_327 (fun v7 hF => ?_)
  refine lv_aload_n (pc := 328) hx hb dL_law_328 rfl (lv_at hl 0 rfl) ?_
  refine lv_iload_n (pc := 329) hx hb dL_law_329 rfl (lv_at hl 3 rfl) ?_
  refine lv_iconst (pc := 330) (v := 3) hx hb dL_law_330 (by decide) ?_
  refine lv_iadd (pc := 331) hx hb dL_law_331 ?_
  refine r_sc (pc := 332) CX P SC hF dL_law_332 (fun v8 hF => ?_)
  refine r_cVi (pc := 333) (As := [.int v6, .int v7, .int v8]) (rest := [.int v4]) CX P hl.1 hF kv_L_26 (fun r h1 q => c_X10_limit l G B _ _ _ _ _ _ _ q) rfl rfl ⟨Nat.le_of_ble_eq_true rfl, Nat.le_of_ble_eq_true rfl⟩ (Nat.le_of_ble_eq_true rfl) (lf0 hj) dL_law_333 (fun v9 h10 H locs P hF => ?_)
  replace hF := un_i hF
  refine lv_icmp_eq (pc := 336) (tgt := 1805) hx hb dL_law_336 (by decide) (fun hc => ?_) (fun hc => ?_)
  · rw [if_pos hc] at hF
    obtain ⟨v11, ev11, hF⟩ := bl_o hF
    refine lv_iinc (pc := 1805) (k := 3) (v := v11) hx hb dL_law_1805 hl rfl ev11 (by decide) rfl (fun ls hl => ?_)
    replace hl : lv_has ls 4 [(3, .int v11), (0, .ref b), (1, .ref (B + ax)), (2, .ref (B + am))] := hl
    refine lv_goto (pc := 1808) (tgt := 18) hx hb dL_law_1808 (by decide) ?_
    refine W.widen (k := 775 + 57 * (j + 1)) (n := 16739 + 614 * (j + 1)) (lw0 j).1 (lw0 j).2 ?_
    exact hB _ _ _ _ _ ev11 P (lv_sub hl [1, 2, 3, 0] rfl) hF.symm
  · rw [if_neg hc] at hF
    refine lv_iconst (pc := 339) (v := 0) hx hb dL_law_339 (by decide) ?_
    exact absurd (Option.some.inj hF).symm (hE _)
def F_law_c3 (L : Nat) (xs : Nat → Int32) (ax am : Nat) (vi : Int32) (h : Hp) : Option ((Int32 × Hp) ⊕ ((Int32 × Hp) ⊕ Hp)) :=
(scX L xs (vi + 1)).bind fun v1 =>
(scX L xs (vi + 2)).bind fun v2 =>
(cO h ax 9 (F_X9_process h ax v1 v2)).bind (un fun v3 h4 =>
(scX L xs (vi + 1)).bind fun v5 =>
(scX L xs (vi + 2)).bind fun v6 =>
(cO h4 am 10 (F_X10_process h4 am v5 v6)).bind (un fun v7 h8 =>
if v3 = v7 then (
bl (vi + 5) fun v9 =>
some (.inl (v9, h8))) else (
some (.inr (.inl (0, h8))))))
set_option maxRecDepth 100000 in
set_option maxHeartbeats 4000000 in
theorem w_law_c3 {p : Program} {l : Launch} {e : Env} {s : State} {m : MethodId} {args : Array Value} {below : List Frame} {meth : Method} {c : Code} {Q : State → Prop} {G : GG} {B b L : Nat} {xs : Nat → Int32} (CX : Cxt p m c code 4 s args RL G B) (SC : SCr b L xs s B) {ax am : Nat} {vi : Int32} {h : Hp} {j : Nat} {z : (Int32 × Hp) ⊕ ((Int32 × Hp) ⊕ Hp)} {H : Heap} {locs : List Loc} {ls : Array Slot} (hj : j < 512) (P : Pic G B h s H locs) (hl : lv_has ls 4 [(0, .ref b), (1, .ref (B + ax)), (2, .ref (B + am)), (3, .int vi)]) (hF : F_law_c3 L xs ax am vi h = some z)
    (hB : ∀ (v : Int32) (h1 : Hp) (H : Heap) (locs : List Loc) (ls : Array Slot), vi + 5 = v → Pic G B h1 s H locs → lv_has ls 4 [(0, .ref b), (1, .ref (B + ax)), (2, .ref (B + am)), (3, .int v)] → some z = some (.inl (v, h1)) → W p l e room_1 s m args below meth c H locs (775 + 57 * (j + 1)) (16739 + 614 * (j + 1)) Q (F0 m 18 ls []))
    (hE : ∀ h1, ¬ z = .inr (.inl (0, h1))) : W p l e room_1 s m args below meth c H locs (775 + 57 * j) (16739 + 614 * j) Q (F0 m 341 ls []) := by
  obtain ⟨⟨hx, hb, hml, hown, hts⟩, -, -⟩ := id CX
  unfold F_law_c3 at hF
  refine lv_aload_n (pc := 341) hx hb dL_law_341 rfl (lv_at hl 1 rfl) ?_
  refine lv_aload_n (pc := 342) hx hb dL_law_342 rfl (lv_at hl 0 rfl) ?_
  refine lv_iload_n (pc := 343) hx hb dL_law_343 rfl (lv_at hl 3 rfl) ?_
  refine lv_iconst (pc := 344) (v := 1) hx hb dL_law_344 (by decide) ?_
  refine lv_iadd (pc := 345) hx hb dL_law_345 ?_
  refine r_sc (pc := 346) CX P SC hF dL_law_346 (fun v1 hF => ?_)
  refine lv_aload_n (pc := 347) hx hb dL_law_347 rfl (lv_at hl 0 rfl) ?_
  refine lv_iload_n (pc := 348) hx hb dL_law_348 rfl (lv_at hl 3 rfl) ?_
  refine lv_iconst (pc := 349) (v := 2) hx hb dL_law_349 (by decide) ?_
  refine lv_iadd (pc := 350) hx hb dL_law_350 ?_
  refine r_sc (pc := 351) CX P SC hF dL_law_351 (fun v2 hF => ?_)
  refine r_cVi (pc := 352) (As := [.int v1, .int v2]) (rest := []) CX P hl.1 hF kv_L_27 (fun r h1 q => c_X9_process l G B _ _ _ _ _ _ q) rfl rfl ⟨Nat.le_of_ble_eq_true rfl, Nat.le_of_ble_eq_true rfl⟩ (Nat.le_of_ble_eq_true rfl) (lf0 hj) dL_law_352 (fun v3 h4 H locs P hF => ?_)
  replace hF := un_i hF
  refine lv_aload_n (pc := 355) hx hb dL_law_355 rfl (lv_at hl 2 rfl) ?_
  refine lv_aload_n (pc := 356) hx hb dL_law_356 rfl (lv_at hl 0 rfl) ?_
  refine lv_iload_n (pc := 357) hx hb dL_law_357 rfl (lv_at hl 3 rfl) ?_
  refine lv_iconst (pc := 358) (v := 1) hx hb dL_law_358 (by decide) ?_
  refine lv_iadd (pc := 359) hx hb dL_law_359 ?_
  refine r_sc (pc := 360) CX P SC hF dL_law_360 (fun v5 hF => ?_)
  refine lv_aload_n (pc := 361) hx hb dL_law_361 rfl (lv_at hl 0 rfl) ?_
  refine lv_iload_n (pc := 362) hx hb dL_law_362 rfl (lv_at hl 3 rfl) ?_
  refine lv_iconst (pc := 363) (v := 2) hx hb dL_law_363 (by decide) ?_
  refine lv_iadd (pc := 364) hx hb dL_law_364 ?_
  refine r_sc (pc := 365) CX P SC hF dL_law_365 (fun v6 hF => ?_)
  refine r_cVi (pc := 366) (As := [.int v5, .int v6]) (rest := [.int v3]) CX P hl.1 hF kv_L_31 (fun r h1 q => c_X10_process l G B _ _ _ _ _ _ q) rfl rfl ⟨Nat.le_of_ble_eq_true rfl, Nat.le_of_ble_eq_true rfl⟩ (Nat.le_of_ble_eq_true rfl) (lf0 hj) dL_law_366 (fun v7 h8 H locs P hF => ?_)
  replace hF := un_i hF
  refine lv_icmp_eq (pc := 369) (tgt := 1805) hx hb dL_law_369 (by decide) (fun hc => ?_) (fun hc => ?_)
  · rw [if_pos hc] at hF
    obtain ⟨v9, ev9, hF⟩ := bl_o hF
    refine lv_iinc (pc := 1805) (k := 3) (v := v9) hx hb dL_law_1805 hl rfl ev9 (by decide) rfl (fun ls hl => ?_)
    replace hl : lv_has ls 4 [(3, .int v9), (0, .ref b), (1, .ref (B + ax)), (2, .ref (B + am))] := hl
    refine lv_goto (pc := 1808) (tgt := 18) hx hb dL_law_1808 (by decide) ?_
    refine W.widen (k := 775 + 57 * (j + 1)) (n := 16739 + 614 * (j + 1)) (lw0 j).1 (lw0 j).2 ?_
    exact hB _ _ _ _ _ ev9 P (lv_sub hl [1, 2, 3, 0] rfl) hF.symm
  · rw [if_neg hc] at hF
    refine lv_iconst (pc := 372) (v := 0) hx hb dL_law_372 (by decide) ?_
    exact absurd (Option.some.inj hF).symm (hE _)
def F_law_c4 (L : Nat) (xs : Nat → Int32) (ax am : Nat) (vi : Int32) (h : Hp) : Option ((Int32 × Hp) ⊕ ((Int32 × Hp) ⊕ Hp)) :=
(scX L xs (vi + 1)).bind fun v1 =>
(cO h ax 9 (F_X9_fork h ax v1)).bind (un fun v2 h3 =>
(scX L xs (vi + 1)).bind fun v4 =>
(cO h3 am 10 (F_X10_fork h3 am v4)).bind (un fun v5 h6 =>
if v2 = v5 then (
bl (vi + 5) fun v7 =>
some (.inl (v7, h6))) else (
some (.inr (.inl (0, h6))))))
set_option maxRecDepth 100000 in
set_option maxHeartbeats 4000000 in
theorem w_law_c4 {p : Program} {l : Launch} {e : Env} {s : State} {m : MethodId} {args : Array Value} {below : List Frame} {meth : Method} {c : Code} {Q : State → Prop} {G : GG} {B b L : Nat} {xs : Nat → Int32} (CX : Cxt p m c code 4 s args RL G B) (SC : SCr b L xs s B) {ax am : Nat} {vi : Int32} {h : Hp} {j : Nat} {z : (Int32 × Hp) ⊕ ((Int32 × Hp) ⊕ Hp)} {H : Heap} {locs : List Loc} {ls : Array Slot} (hj : j < 512) (P : Pic G B h s H locs) (hl : lv_has ls 4 [(0, .ref b), (1, .ref (B + ax)), (2, .ref (B + am)), (3, .int vi)]) (hF : F_law_c4 L xs ax am vi h = some z)
    (hB : ∀ (v : Int32) (h1 : Hp) (H : Heap) (locs : List Loc) (ls : Array Slot), vi + 5 = v → Pic G B h1 s H locs → lv_has ls 4 [(0, .ref b), (1, .ref (B + ax)), (2, .ref (B + am)), (3, .int v)] → some z = some (.inl (v, h1)) → W p l e room_1 s m args below meth c H locs (775 + 57 * (j + 1)) (16739 + 614 * (j + 1)) Q (F0 m 18 ls []))
    (hE : ∀ h1, ¬ z = .inr (.inl (0, h1))) : W p l e room_1 s m args below meth c H locs (775 + 57 * j) (16739 + 614 * j) Q (F0 m 374 ls []) := by
  obtain ⟨⟨hx, hb, hml, hown, hts⟩, -, -⟩ := id CX
  unfold F_law_c4 at hF
  refine lv_aload_n (pc := 374) hx hb dL_law_374 rfl (lv_at hl 1 rfl) ?_
  refine lv_aload_n (pc := 375) hx hb dL_law_375 rfl (lv_at hl 0 rfl) ?_
  refine lv_iload_n (pc := 376) hx hb dL_law_376 rfl (lv_at hl 3 rfl) ?_
  refine lv_iconst (pc := 377) (v := 1) hx hb dL_law_377 (by decide) ?_
  refine lv_iadd (pc := 378) hx hb dL_law_378 ?_
  refine r_sc (pc := 379) CX P SC hF dL_law_379 (fun v1 hF => ?_)
  refine r_cVi (pc := 380) (As := [.int v1]) (rest := []) CX P hl.1 hF kv_L_32 (fun r h1 q => c_X9_fork l G B _ _ _ _ _ q) rfl rfl ⟨Nat.le_of_ble_eq_true rfl, Nat.le_of_ble_eq_true rfl⟩ (Nat.le_of_ble_eq_true rfl) (lf0 hj) dL_law_380 (fun v2 h3 H locs P hF => ?_)
  replace hF := un_i hF
  refine lv_aload_n (pc := 383) hx hb dL_law_383 rfl (lv_at hl 2 rfl) ?_
  refine lv_aload_n (pc := 384) hx hb dL_law_384 rfl (lv_at hl 0 rfl) ?_
  refine lv_iload_n (pc := 385) hx hb dL_law_385 rfl (lv_at hl 3 rfl) ?_
  refine lv_iconst (pc := 386) (v := 1) hx hb dL_law_386 (by decide) ?_
  refine lv_iadd (pc := 387) hx hb dL_law_387 ?_
  refine r_sc (pc := 388) CX P SC hF dL_law_388 (fun v4 hF => ?_)
  refine r_cVi (pc := 389) (As := [.int v4]) (rest := [.int v2]) CX P hl.1 hF kv_L_35 (fun r h1 q => c_X10_fork l G B _ _ _ _ _ q) rfl rfl ⟨Nat.le_of_ble_eq_true rfl, Nat.le_of_ble_eq_true rfl⟩ (Nat.le_of_ble_eq_true rfl) (lf0 hj) dL_law_389 (fun v5 h6 H locs P hF => ?_)
  replace hF := un_i hF
  refine lv_icmp_eq (pc := 392) (tgt := 1805) hx hb dL_law_392 (by decide) (fun hc => ?_) (fun hc => ?_)
  · rw [if_pos hc] at hF
    obtain ⟨v7, ev7, hF⟩ := bl_o hF
    refine lv_iinc (pc := 1805) (k := 3) (v := v7) hx hb dL_law_1805 hl rfl ev7 (by decide) rfl (fun ls hl => ?_)
    replace hl : lv_has ls 4 [(3, .int v7), (0, .ref b), (1, .ref (B + ax)), (2, .ref (B + am))] := hl
    refine lv_goto (pc := 1808) (tgt := 18) hx hb dL_law_1808 (by decide) ?_
    refine W.widen (k := 775 + 57 * (j + 1)) (n := 16739 + 614 * (j + 1)) (lw0 j).1 (lw0 j).2 ?_
    exact hB _ _ _ _ _ ev7 P (lv_sub hl [1, 2, 3, 0] rfl) hF.symm
  · rw [if_neg hc] at hF
    refine lv_iconst (pc := 395) (v := 0) hx hb dL_law_395 (by decide) ?_
    exact absurd (Option.some.inj hF).symm (hE _)
def F_law_c5 (L : Nat) (xs : Nat → Int32) (ax am : Nat) (vi : Int32) (h : Hp) : Option ((Int32 × Hp) ⊕ ((Int32 × Hp) ⊕ Hp)) :=
(scX L xs (vi + 1)).bind fun v1 =>
(scX L xs (vi + 2)).bind fun v2 =>
(scX L xs (vi + 3)).bind fun v3 =>
(cO h ax 9 (F_X9_charge h ax v1 v2 v3)).bind (un fun v4 h5 =>
(scX L xs (vi + 1)).bind fun v6 =>
(scX L xs (vi + 2)).bind fun v7 =>
(scX L xs (vi + 3)).bind fun v8 =>
(cO h5 am 10 (F_X10_charge h5 am v6 v7 v8)).bind (un fun v9 h10 =>
if v4 = v9 then (
bl (vi + 5) fun v11 =>
some (.inl (v11, h10))) else (
some (.inr (.inl (0, h10))))))
set_option maxRecDepth 100000 in
set_option maxHeartbeats 4000000 in
theorem w_law_c5 {p : Program} {l : Launch} {e : Env} {s : State} {m : MethodId} {args : Array Value} {below : List Frame} {meth : Method} {c : Code} {Q : State → Prop} {G : GG} {B b L : Nat} {xs : Nat → Int32} (CX : Cxt p m c code 4 s args RL G B) (SC : SCr b L xs s B) {ax am : Nat} {vi : Int32} {h : Hp} {j : Nat} {z : (Int32 × Hp) ⊕ ((Int32 × Hp) ⊕ Hp)} {H : Heap} {locs : List Loc} {ls : Array Slot} (hj : j < 512) (P : Pic G B h s H locs) (hl : lv_has ls 4 [(0, .ref b), (1, .ref (B + ax)), (2, .ref (B + am)), (3, .int vi)]) (hF : F_law_c5 L xs ax am vi h = some z)
    (hB : ∀ (v : Int32) (h1 : Hp) (H : Heap) (locs : List Loc) (ls : Array Slot), vi + 5 = v → Pic G B h1 s H locs → lv_has ls 4 [(0, .ref b), (1, .ref (B + ax)), (2, .ref (B + am)), (3, .int v)] → some z = some (.inl (v, h1)) → W p l e room_1 s m args below meth c H locs (775 + 57 * (j + 1)) (16739 + 614 * (j + 1)) Q (F0 m 18 ls []))
    (hE : ∀ h1, ¬ z = .inr (.inl (0, h1))) : W p l e room_1 s m args below meth c H locs (775 + 57 * j) (16739 + 614 * j) Q (F0 m 397 ls []) := by
  obtain ⟨⟨hx, hb, hml, hown, hts⟩, -, -⟩ := id CX
  unfold F_law_c5 at hF
  refine lv_aload_n (pc := 397) hx hb dL_law_397 rfl (lv_at hl 1 rfl) ?_
  refine lv_aload_n (pc := 398) hx hb dL_law_398 rfl (lv_at hl 0 rfl) ?_
  refine lv_iload_n (pc := 399) hx hb dL_law_399 rfl (lv_at hl 3 rfl) ?_
  refine lv_iconst (pc := 400) (v := 1) hx hb dL_law_400 (by decide) ?_
  refine lv_iadd (pc := 401) hx hb dL_law_401 ?_
  refine r_sc (pc := 402) CX P SC hF dL_law_402 (fun v1 hF => ?_)
  refine lv_aload_n (pc := 403) hx hb dL_law_403 rfl (lv_at hl 0 rfl) ?_
  refine lv_iload_n (pc := 404) hx hb dL_law_404 rfl (lv_at hl 3 rfl) ?_
  refine lv_iconst (pc := 405) (v := 2) hx hb dL_law_405 (by decide) ?_
  refine lv_iadd (pc := 406) hx hb dL_law_406 ?_
  refine r_sc (pc := 407) CX P SC hF dL_law_407 (fun v2 hF => ?_)
  refine lv_aload_n (pc := 408) hx hb dL_law_408 rfl (lv_at hl 0 rfl) ?_
  refine lv_iload_n (pc := 409) hx hb dL_law_409 rfl (lv_at hl 3 rfl) ?_
  refine lv_iconst (pc := 410) (v := 3) hx hb dL_law_410 (by decide) ?_
  refine lv_iadd (pc := 411) hx hb dL_law_411 ?_
  refine r_sc (pc := 412) CX P SC hF dL_law_412 (fun v3 hF => ?_)
  refine r_cVi (pc := 413) (As := [.int v1, .int v2, .int v3]) (rest := []) CX P hl.1 hF kv_L_36 (fun r h1 q => c_X9_charge l G B _ _ _ _ _ _ _ q) rfl rfl ⟨Nat.le_of_ble_eq_true rfl, Nat.le_of_ble_eq_true rfl⟩ (Nat.le_of_ble_eq_true rfl) (lf0 hj) dL_law_413 (fun v4 h5 H locs P hF => ?_)
  replace hF := un_i hF
  refine lv_aload_n (pc := 416) hx hb dL_law_416 rfl (lv_at hl 2 rfl) ?_
  refine lv_aload_n (pc := 417) hx hb dL_law_417 rfl (lv_at hl 0 rfl) ?_
  refine lv_iload_n (pc := 418) hx hb dL_law_418 rfl (lv_at hl 3 rfl) ?_
  refine lv_iconst (pc := 419) (v := 1) hx hb dL_law_419 (by decide) ?_
  refine lv_iadd (pc := 420) hx hb dL_law_420 ?_
  refine r_sc (pc := 421) CX P SC hF dL_law_421 (fun v6 hF => ?_)
  refine lv_aload_n (pc := 422) hx hb dL_law_422 rfl (lv_at hl 0 rfl) ?_
  refine lv_iload_n (pc := 423) hx hb dL_law_423 rfl (lv_at hl 3 rfl) ?_
  refine lv_iconst (pc := 424) (v := 2) hx hb dL_law_424 (by decide) ?_
  refine lv_iadd (pc := 425) hx hb dL_law_425 ?_
  refine r_sc (pc := 426) CX P SC hF dL_law_426 (fun v7 hF => ?_)
  refine lv_aload_n (pc := 427) hx hb dL_law_427 rfl (lv_at hl 0 rfl) ?_
  refine lv_iload_n (pc := 428) hx hb dL_law_428 rfl (lv_at hl 3 rfl) ?_
  refine lv_iconst (pc := 429) (v := 3) hx hb dL_law_429 (by decide) ?_
  refine lv_iadd (pc := 430) hx hb dL_law_430 ?_
  refine r_sc (pc := 431) CX P SC hF dL_law_431 (fun v8 hF => ?_)
  refine r_cVi (pc := 432) (As := [.int v6, .int v7, .int v8]) (rest := [.int v4]) CX P hl.1 hF kv_L_39 (fun r h1 q => c_X10_charge l G B _ _ _ _ _ _ _ q) rfl rfl ⟨Nat.le_of_ble_eq_true rfl, Nat.le_of_ble_eq_true rfl⟩ (Nat.le_of_ble_eq_true rfl) (lf0 hj) dL_law_432 (fun v9 h10 H locs P hF => ?_)
  replace hF := un_i hF
  refine lv_icmp_eq (pc := 435) (tgt := 1805) hx hb dL_law_435 (by decide) (fun hc => ?_) (fun hc => ?_)
  · rw [if_pos hc] at hF
    obtain ⟨v11, ev11, hF⟩ := bl_o hF
    refine lv_iinc (pc := 1805) (k := 3) (v := v11) hx hb dL_law_1805 hl rfl ev11 (by decide) rfl (fun ls hl => ?_)
    replace hl : lv_has ls 4 [(3, .int v11), (0, .ref b), (1, .ref (B + ax)), (2, .ref (B + am))] := hl
    refine lv_goto (pc := 1808) (tgt := 18) hx hb dL_law_1808 (by decide) ?_
    refine W.widen (k := 775 + 57 * (j + 1)) (n := 16739 + 614 * (j + 1)) (lw0 j).1 (lw0 j).2 ?_
    exact hB _ _ _ _ _ ev11 P (lv_sub hl [1, 2, 3, 0] rfl) hF.symm
  · rw [if_neg hc] at hF
    refine lv_iconst (pc := 438) (v := 0) hx hb dL_law_438 (by decide) ?_
    exact absurd (Option.some.inj hF).symm (hE _)
def F_law_c6 (L : Nat) (xs : Nat → Int32) (ax am : Nat) (vi : Int32) (h : Hp) : Option ((Int32 × Hp) ⊕ ((Int32 × Hp) ⊕ Hp)) :=
(scX L xs (vi + 1)).bind fun v1 =>
(scX L xs (vi + 2)).bind fun v2 =>
(scX L xs (vi + 3)).bind fun v3 =>
(cO h ax 9 (F_X9_uncharge h ax v1 v2 v3)).bind (un fun v4 h5 =>
(scX L xs (vi + 1)).bind fun v6 =>
(scX L xs (vi + 2)).bind fun v7 =>
(scX L xs (vi + 3)).bind fun v8 =>
(cO h5 am 10 (F_X10_uncharge h5 am v6 v7 v8)).bind (un fun v9 h10 =>
if v4 = v9 then (
bl (vi + 5) fun v11 =>
some (.inl (v11, h10))) else (
some (.inr (.inl (0, h10))))))
set_option maxRecDepth 100000 in
set_option maxHeartbeats 4000000 in
theorem w_law_c6 {p : Program} {l : Launch} {e : Env} {s : State} {m : MethodId} {args : Array Value} {below : List Frame} {meth : Method} {c : Code} {Q : State → Prop} {G : GG} {B b L : Nat} {xs : Nat → Int32} (CX : Cxt p m c code 4 s args RL G B) (SC : SCr b L xs s B) {ax am : Nat} {vi : Int32} {h : Hp} {j : Nat} {z : (Int32 × Hp) ⊕ ((Int32 × Hp) ⊕ Hp)} {H : Heap} {locs : List Loc} {ls : Array Slot} (hj : j < 512) (P : Pic G B h s H locs) (hl : lv_has ls 4 [(0, .ref b), (1, .ref (B + ax)), (2, .ref (B + am)), (3, .int vi)]) (hF : F_law_c6 L xs ax am vi h = some z)
    (hB : ∀ (v : Int32) (h1 : Hp) (H : Heap) (locs : List Loc) (ls : Array Slot), vi + 5 = v → Pic G B h1 s H locs → lv_has ls 4 [(0, .ref b), (1, .ref (B + ax)), (2, .ref (B + am)), (3, .int v)] → some z = some (.inl (v, h1)) → W p l e room_1 s m args below meth c H locs (775 + 57 * (j + 1)) (16739 + 614 * (j + 1)) Q (F0 m 18 ls []))
    (hE : ∀ h1, ¬ z = .inr (.inl (0, h1))) : W p l e room_1 s m args below meth c H locs (775 + 57 * j) (16739 + 614 * j) Q (F0 m 440 ls []) := by
  obtain ⟨⟨hx, hb, hml, hown, hts⟩, -, -⟩ := id CX
  unfold F_law_c6 at hF
  refine lv_aload_n (pc := 440) hx hb dL_law_440 rfl (lv_at hl 1 rfl) ?_
  refine lv_aload_n (pc := 441) hx hb dL_law_441 rfl (lv_at hl 0 rfl) ?_
  refine lv_iload_n (pc := 442) hx hb dL_law_442 rfl (lv_at hl 3 rfl) ?_
  refine lv_iconst (pc := 443) (v := 1) hx hb dL_law_443 (by decide) ?_
  refine lv_iadd (pc := 444) hx hb dL_law_444 ?_
  refine r_sc (pc := 445) CX P SC hF dL_law_445 (fun v1 hF => ?_)
  refine lv_aload_n (pc := 446) hx hb dL_law_446 rfl (lv_at hl 0 rfl) ?_
  refine lv_iload_n (pc := 447) hx hb dL_law_447 rfl (lv_at hl 3 rfl) ?_
  refine lv_iconst (pc := 448) (v := 2) hx hb dL_law_448 (by decide) ?_
  refine lv_iadd (pc := 449) hx hb dL_law_449 ?_
  refine r_sc (pc := 450) CX P SC hF dL_law_450 (fun v2 hF => ?_)
  refine lv_aload_n (pc := 451) hx hb dL_law_451 rfl (lv_at hl 0 rfl) ?_
  refine lv_iload_n (pc := 452) hx hb dL_law_452 rfl (lv_at hl 3 rfl) ?_
  refine lv_iconst (pc := 453) (v := 3) hx hb dL_law_453 (by decide) ?_
  refine lv_iadd (pc := 454) hx hb dL_law_454 ?_
  refine r_sc (pc := 455) CX P SC hF dL_law_455 (fun v3 hF => ?_)
  refine r_cVi (pc := 456) (As := [.int v1, .int v2, .int v3]) (rest := []) CX P hl.1 hF kv_L_40 (fun r h1 q => c_X9_uncharge l G B _ _ _ _ _ _ _ q) rfl rfl ⟨Nat.le_of_ble_eq_true rfl, Nat.le_of_ble_eq_true rfl⟩ (Nat.le_of_ble_eq_true rfl) (lf0 hj) dL_law_456 (fun v4 h5 H locs P hF => ?_)
  replace hF := un_i hF
  refine lv_aload_n (pc := 459) hx hb dL_law_459 rfl (lv_at hl 2 rfl) ?_
  refine lv_aload_n (pc := 460) hx hb dL_law_460 rfl (lv_at hl 0 rfl) ?_
  refine lv_iload_n (pc := 461) hx hb dL_law_461 rfl (lv_at hl 3 rfl) ?_
  refine lv_iconst (pc := 462) (v := 1) hx hb dL_law_462 (by decide) ?_
  refine lv_iadd (pc := 463) hx hb dL_law_463 ?_
  refine r_sc (pc := 464) CX P SC hF dL_law_464 (fun v6 hF => ?_)
  refine lv_aload_n (pc := 465) hx hb dL_law_465 rfl (lv_at hl 0 rfl) ?_
  refine lv_iload_n (pc := 466) hx hb dL_law_466 rfl (lv_at hl 3 rfl) ?_
  refine lv_iconst (pc := 467) (v := 2) hx hb dL_law_467 (by decide) ?_
  refine lv_iadd (pc := 468) hx hb dL_law_468 ?_
  refine r_sc (pc := 469) CX P SC hF dL_law_469 (fun v7 hF => ?_)
  refine lv_aload_n (pc := 470) hx hb dL_law_470 rfl (lv_at hl 0 rfl) ?_
  refine lv_iload_n (pc := 471) hx hb dL_law_471 rfl (lv_at hl 3 rfl) ?_
  refine lv_iconst (pc := 472) (v := 3) hx hb dL_law_472 (by decide) ?_
  refine lv_iadd (pc := 473) hx hb dL_law_473 ?_
  refine r_sc (pc := 474) CX P SC hF dL_law_474 (fun v8 hF => ?_)
  refine r_cVi (pc := 475) (As := [.int v6, .int v7, .int v8]) (rest := [.int v4]) CX P hl.1 hF kv_L_43 (fun r h1 q => c_X10_uncharge l G B _ _ _ _ _ _ _ q) rfl rfl ⟨Nat.le_of_ble_eq_true rfl, Nat.le_of_ble_eq_true rfl⟩ (Nat.le_of_ble_eq_true rfl) (lf0 hj) dL_law_475 (fun v9 h10 H locs P hF => ?_)
  replace hF := un_i hF
  refine lv_icmp_eq (pc := 478) (tgt := 1805) hx hb dL_law_478 (by decide) (fun hc => ?_) (fun hc => ?_)
  · rw [if_pos hc] at hF
    obtain ⟨v11, ev11, hF⟩ := bl_o hF
    refine lv_iinc (pc := 1805) (k := 3) (v := v11) hx hb dL_law_1805 hl rfl ev11 (by decide) rfl (fun ls hl => ?_)
    replace hl : lv_has ls 4 [(3, .int v11), (0, .ref b), (1, .ref (B + ax)), (2, .ref (B + am))] := hl
    refine lv_goto (pc := 1808) (tgt := 18) hx hb dL_law_1808 (by decide) ?_
    refine W.widen (k := 775 + 57 * (j + 1)) (n := 16739 + 614 * (j + 1)) (lw0 j).1 (lw0 j).2 ?_
    exact hB _ _ _ _ _ ev11 P (lv_sub hl [1, 2, 3, 0] rfl) hF.symm
  · rw [if_neg hc] at hF
    refine lv_iconst (pc := 481) (v := 0) hx hb dL_law_481 (by decide) ?_
    exact absurd (Option.some.inj hF).symm (hE _)
def F_law_c7 (L : Nat) (xs : Nat → Int32) (ax am : Nat) (vi : Int32) (h : Hp) : Option ((Int32 × Hp) ⊕ ((Int32 × Hp) ⊕ Hp)) :=
(scX L xs (vi + 1)).bind fun v1 =>
(scX L xs (vi + 2)).bind fun v2 =>
(cO h ax 9 (F_X9_use h ax v1 v2)).bind (un fun v3 h4 =>
(scX L xs (vi + 1)).bind fun v5 =>
(scX L xs (vi + 2)).bind fun v6 =>
(cO h4 am 10 (F_X10_use h4 am v5 v6)).bind (un fun v7 h8 =>
if v3 = v7 then (
bl (vi + 5) fun v9 =>
some (.inl (v9, h8))) else (
some (.inr (.inl (0, h8))))))
set_option maxRecDepth 100000 in
set_option maxHeartbeats 4000000 in
theorem w_law_c7 {p : Program} {l : Launch} {e : Env} {s : State} {m : MethodId} {args : Array Value} {below : List Frame} {meth : Method} {c : Code} {Q : State → Prop} {G : GG} {B b L : Nat} {xs : Nat → Int32} (CX : Cxt p m c code 4 s args RL G B) (SC : SCr b L xs s B) {ax am : Nat} {vi : Int32} {h : Hp} {j : Nat} {z : (Int32 × Hp) ⊕ ((Int32 × Hp) ⊕ Hp)} {H : Heap} {locs : List Loc} {ls : Array Slot} (hj : j < 512) (P : Pic G B h s H locs) (hl : lv_has ls 4 [(0, .ref b), (1, .ref (B + ax)), (2, .ref (B + am)), (3, .int vi)]) (hF : F_law_c7 L xs ax am vi h = some z)
    (hB : ∀ (v : Int32) (h1 : Hp) (H : Heap) (locs : List Loc) (ls : Array Slot), vi + 5 = v → Pic G B h1 s H locs → lv_has ls 4 [(0, .ref b), (1, .ref (B + ax)), (2, .ref (B + am)), (3, .int v)] → some z = some (.inl (v, h1)) → W p l e room_1 s m args below meth c H locs (775 + 57 * (j + 1)) (16739 + 614 * (j + 1)) Q (F0 m 18 ls []))
    (hE : ∀ h1, ¬ z = .inr (.inl (0, h1))) : W p l e room_1 s m args below meth c H locs (775 + 57 * j) (16739 + 614 * j) Q (F0 m 483 ls []) := by
  obtain ⟨⟨hx, hb, hml, hown, hts⟩, -, -⟩ := id CX
  unfold F_law_c7 at hF
  refine lv_aload_n (pc := 483) hx hb dL_law_483 rfl (lv_at hl 1 rfl) ?_
  refine lv_aload_n (pc := 484) hx hb dL_law_484 rfl (lv_at hl 0 rfl) ?_
  refine lv_iload_n (pc := 485) hx hb dL_law_485 rfl (lv_at hl 3 rfl) ?_
  refine lv_iconst (pc := 486) (v := 1) hx hb dL_law_486 (by decide) ?_
  refine lv_iadd (pc := 487) hx hb dL_law_487 ?_
  refine r_sc (pc := 488) CX P SC hF dL_law_488 (fun v1 hF => ?_)
  refine lv_aload_n (pc := 489) hx hb dL_law_489 rfl (lv_at hl 0 rfl) ?_
  refine lv_iload_n (pc := 490) hx hb dL_law_490 rfl (lv_at hl 3 rfl) ?_
  refine lv_iconst (pc := 491) (v := 2) hx hb dL_law_491 (by decide) ?_
  refine lv_iadd (pc := 492) hx hb dL_law_492 ?_
  refine r_sc (pc := 493) CX P SC hF dL_law_493 (fun v2 hF => ?_)
  refine r_cVi (pc := 494) (As := [.int v1, .int v2]) (rest := []) CX P hl.1 hF kv_L_44 (fun r h1 q => c_X9_use l G B _ _ _ _ _ _ q) rfl rfl ⟨Nat.le_of_ble_eq_true rfl, Nat.le_of_ble_eq_true rfl⟩ (Nat.le_of_ble_eq_true rfl) (lf0 hj) dL_law_494 (fun v3 h4 H locs P hF => ?_)
  replace hF := un_i hF
  refine lv_aload_n (pc := 497) hx hb dL_law_497 rfl (lv_at hl 2 rfl) ?_
  refine lv_aload_n (pc := 498) hx hb dL_law_498 rfl (lv_at hl 0 rfl) ?_
  refine lv_iload_n (pc := 499) hx hb dL_law_499 rfl (lv_at hl 3 rfl) ?_
  refine lv_iconst (pc := 500) (v := 1) hx hb dL_law_500 (by decide) ?_
  refine lv_iadd (pc := 501) hx hb dL_law_501 ?_
  refine r_sc (pc := 502) CX P SC hF dL_law_502 (fun v5 hF => ?_)
  refine lv_aload_n (pc := 503) hx hb dL_law_503 rfl (lv_at hl 0 rfl) ?_
  refine lv_iload_n (pc := 504) hx hb dL_law_504 rfl (lv_at hl 3 rfl) ?_
  refine lv_iconst (pc := 505) (v := 2) hx hb dL_law_505 (by decide) ?_
  refine lv_iadd (pc := 506) hx hb dL_law_506 ?_
  refine r_sc (pc := 507) CX P SC hF dL_law_507 (fun v6 hF => ?_)
  refine r_cVi (pc := 508) (As := [.int v5, .int v6]) (rest := [.int v3]) CX P hl.1 hF kv_L_47 (fun r h1 q => c_X10_use l G B _ _ _ _ _ _ q) rfl rfl ⟨Nat.le_of_ble_eq_true rfl, Nat.le_of_ble_eq_true rfl⟩ (Nat.le_of_ble_eq_true rfl) (lf0 hj) dL_law_508 (fun v7 h8 H locs P hF => ?_)
  replace hF := un_i hF
  refine lv_icmp_eq (pc := 511) (tgt := 1805) hx hb dL_law_511 (by decide) (fun hc => ?_) (fun hc => ?_)
  · rw [if_pos hc] at hF
    obtain ⟨v9, ev9, hF⟩ := bl_o hF
    refine lv_iinc (pc := 1805) (k := 3) (v := v9) hx hb dL_law_1805 hl rfl ev9 (by decide) rfl (fun ls hl => ?_)
    replace hl : lv_has ls 4 [(3, .int v9), (0, .ref b), (1, .ref (B + ax)), (2, .ref (B + am))] := hl
    refine lv_goto (pc := 1808) (tgt := 18) hx hb dL_law_1808 (by decide) ?_
    refine W.widen (k := 775 + 57 * (j + 1)) (n := 16739 + 614 * (j + 1)) (lw0 j).1 (lw0 j).2 ?_
    exact hB _ _ _ _ _ ev9 P (lv_sub hl [1, 2, 3, 0] rfl) hF.symm
  · rw [if_neg hc] at hF
    refine lv_iconst (pc := 514) (v := 0) hx hb dL_law_514 (by decide) ?_
    exact absurd (Option.some.inj hF).symm (hE _)
def F_law_c8 (L : Nat) (xs : Nat → Int32) (ax am : Nat) (vi : Int32) (h : Hp) : Option ((Int32 × Hp) ⊕ ((Int32 × Hp) ⊕ Hp)) :=
(scX L xs (vi + 1)).bind fun v1 =>
(scX L xs (vi + 2)).bind fun v2 =>
(cO h ax 9 (F_X9_work h ax v1 v2)).bind (un fun v3 h4 =>
(scX L xs (vi + 1)).bind fun v5 =>
(scX L xs (vi + 2)).bind fun v6 =>
(cO h4 am 10 (F_X10_work h4 am v5 v6)).bind (un fun v7 h8 =>
if v3 = v7 then (
bl (vi + 5) fun v9 =>
some (.inl (v9, h8))) else (
some (.inr (.inl (0, h8))))))
set_option maxRecDepth 100000 in
set_option maxHeartbeats 4000000 in
theorem w_law_c8 {p : Program} {l : Launch} {e : Env} {s : State} {m : MethodId} {args : Array Value} {below : List Frame} {meth : Method} {c : Code} {Q : State → Prop} {G : GG} {B b L : Nat} {xs : Nat → Int32} (CX : Cxt p m c code 4 s args RL G B) (SC : SCr b L xs s B) {ax am : Nat} {vi : Int32} {h : Hp} {j : Nat} {z : (Int32 × Hp) ⊕ ((Int32 × Hp) ⊕ Hp)} {H : Heap} {locs : List Loc} {ls : Array Slot} (hj : j < 512) (P : Pic G B h s H locs) (hl : lv_has ls 4 [(0, .ref b), (1, .ref (B + ax)), (2, .ref (B + am)), (3, .int vi)]) (hF : F_law_c8 L xs ax am vi h = some z)
    (hB : ∀ (v : Int32) (h1 : Hp) (H : Heap) (locs : List Loc) (ls : Array Slot), vi + 5 = v → Pic G B h1 s H locs → lv_has ls 4 [(0, .ref b), (1, .ref (B + ax)), (2, .ref (B + am)), (3, .int v)] → some z = some (.inl (v, h1)) → W p l e room_1 s m args below meth c H locs (775 + 57 * (j + 1)) (16739 + 614 * (j + 1)) Q (F0 m 18 ls []))
    (hE : ∀ h1, ¬ z = .inr (.inl (0, h1))) : W p l e room_1 s m args below meth c H locs (775 + 57 * j) (16739 + 614 * j) Q (F0 m 516 ls []) := by
  obtain ⟨⟨hx, hb, hml, hown, hts⟩, -, -⟩ := id CX
  unfold F_law_c8 at hF
  refine lv_aload_n (pc := 516) hx hb dL_law_516 rfl (lv_at hl 1 rfl) ?_
  refine lv_aload_n (pc := 517) hx hb dL_law_517 rfl (lv_at hl 0 rfl) ?_
  refine lv_iload_n (pc := 518) hx hb dL_law_518 rfl (lv_at hl 3 rfl) ?_
  refine lv_iconst (pc := 519) (v := 1) hx hb dL_law_519 (by decide) ?_
  refine lv_iadd (pc := 520) hx hb dL_law_520 ?_
  refine r_sc (pc := 521) CX P SC hF dL_law_521 (fun v1 hF => ?_)
  refine lv_aload_n (pc := 522) hx hb dL_law_522 rfl (lv_at hl 0 rfl) ?_
  refine lv_iload_n (pc := 523) hx hb dL_law_523 rfl (lv_at hl 3 rfl) ?_
  refine lv_iconst (pc := 524) (v := 2) hx hb dL_law_524 (by decide) ?_
  refine lv_iadd (pc := 525) hx hb dL_law_525 ?_
  refine r_sc (pc := 526) CX P SC hF dL_law_526 (fun v2 hF => ?_)
  refine r_cVi (pc := 527) (As := [.int v1, .int v2]) (rest := []) CX P hl.1 hF kv_L_48 (fun r h1 q => c_X9_work l G B _ _ _ _ _ _ q) rfl rfl ⟨Nat.le_of_ble_eq_true rfl, Nat.le_of_ble_eq_true rfl⟩ (Nat.le_of_ble_eq_true rfl) (lf0 hj) dL_law_527 (fun v3 h4 H locs P hF => ?_)
  replace hF := un_i hF
  refine lv_aload_n (pc := 530) hx hb dL_law_530 rfl (lv_at hl 2 rfl) ?_
  refine lv_aload_n (pc := 531) hx hb dL_law_531 rfl (lv_at hl 0 rfl) ?_
  refine lv_iload_n (pc := 532) hx hb dL_law_532 rfl (lv_at hl 3 rfl) ?_
  refine lv_iconst (pc := 533) (v := 1) hx hb dL_law_533 (by decide) ?_
  refine lv_iadd (pc := 534) hx hb dL_law_534 ?_
  refine r_sc (pc := 535) CX P SC hF dL_law_535 (fun v5 hF => ?_)
  refine lv_aload_n (pc := 536) hx hb dL_law_536 rfl (lv_at hl 0 rfl) ?_
  refine lv_iload_n (pc := 537) hx hb dL_law_537 rfl (lv_at hl 3 rfl) ?_
  refine lv_iconst (pc := 538) (v := 2) hx hb dL_law_538 (by decide) ?_
  refine lv_iadd (pc := 539) hx hb dL_law_539 ?_
  refine r_sc (pc := 540) CX P SC hF dL_law_540 (fun v6 hF => ?_)
  refine r_cVi (pc := 541) (As := [.int v5, .int v6]) (rest := [.int v3]) CX P hl.1 hF kv_L_51 (fun r h1 q => c_X10_work l G B _ _ _ _ _ _ q) rfl rfl ⟨Nat.le_of_ble_eq_true rfl, Nat.le_of_ble_eq_true rfl⟩ (Nat.le_of_ble_eq_true rfl) (lf0 hj) dL_law_541 (fun v7 h8 H locs P hF => ?_)
  replace hF := un_i hF
  refine lv_icmp_eq (pc := 544) (tgt := 1805) hx hb dL_law_544 (by decide) (fun hc => ?_) (fun hc => ?_)
  · rw [if_pos hc] at hF
    obtain ⟨v9, ev9, hF⟩ := bl_o hF
    refine lv_iinc (pc := 1805) (k := 3) (v := v9) hx hb dL_law_1805 hl rfl ev9 (by decide) rfl (fun ls hl => ?_)
    replace hl : lv_has ls 4 [(3, .int v9), (0, .ref b), (1, .ref (B + ax)), (2, .ref (B + am))] := hl
    refine lv_goto (pc := 1808) (tgt := 18) hx hb dL_law_1808 (by decide) ?_
    refine W.widen (k := 775 + 57 * (j + 1)) (n := 16739 + 614 * (j + 1)) (lw0 j).1 (lw0 j).2 ?_
    exact hB _ _ _ _ _ ev9 P (lv_sub hl [1, 2, 3, 0] rfl) hF.symm
  · rw [if_neg hc] at hF
    refine lv_iconst (pc := 547) (v := 0) hx hb dL_law_547 (by decide) ?_
    exact absurd (Option.some.inj hF).symm (hE _)
def F_law_c9 (L : Nat) (xs : Nat → Int32) (ax am : Nat) (vi : Int32) (h : Hp) : Option ((Int32 × Hp) ⊕ ((Int32 × Hp) ⊕ Hp)) :=
(scX L xs (vi + 1)).bind fun v1 =>
(scX L xs (vi + 2)).bind fun v2 =>
(cO h ax 9 (F_X9_move h ax v1 v2)).bind (un fun v3 h4 =>
(scX L xs (vi + 1)).bind fun v5 =>
(scX L xs (vi + 2)).bind fun v6 =>
(cO h4 am 10 (F_X10_move h4 am v5 v6)).bind (un fun v7 h8 =>
if v3 = v7 then (
bl (vi + 5) fun v9 =>
some (.inl (v9, h8))) else (
some (.inr (.inl (0, h8))))))
set_option maxRecDepth 100000 in
set_option maxHeartbeats 4000000 in
theorem w_law_c9 {p : Program} {l : Launch} {e : Env} {s : State} {m : MethodId} {args : Array Value} {below : List Frame} {meth : Method} {c : Code} {Q : State → Prop} {G : GG} {B b L : Nat} {xs : Nat → Int32} (CX : Cxt p m c code 4 s args RL G B) (SC : SCr b L xs s B) {ax am : Nat} {vi : Int32} {h : Hp} {j : Nat} {z : (Int32 × Hp) ⊕ ((Int32 × Hp) ⊕ Hp)} {H : Heap} {locs : List Loc} {ls : Array Slot} (hj : j < 512) (P : Pic G B h s H locs) (hl : lv_has ls 4 [(0, .ref b), (1, .ref (B + ax)), (2, .ref (B + am)), (3, .int vi)]) (hF : F_law_c9 L xs ax am vi h = some z)
    (hB : ∀ (v : Int32) (h1 : Hp) (H : Heap) (locs : List Loc) (ls : Array Slot), vi + 5 = v → Pic G B h1 s H locs → lv_has ls 4 [(0, .ref b), (1, .ref (B + ax)), (2, .ref (B + am)), (3, .int v)] → some z = some (.inl (v, h1)) → W p l e room_1 s m args below meth c H locs (775 + 57 * (j + 1)) (16739 + 614 * (j + 1)) Q (F0 m 18 ls []))
    (hE : ∀ h1, ¬ z = .inr (.inl (0, h1))) : W p l e room_1 s m args below meth c H locs (775 + 57 * j) (16739 + 614 * j) Q (F0 m 549 ls []) := by
  obtain ⟨⟨hx, hb, hml, hown, hts⟩, -, -⟩ := id CX
  unfold F_law_c9 at hF
  refine lv_aload_n (pc := 549) hx hb dL_law_549 rfl (lv_at hl 1 rfl) ?_
  refine lv_aload_n (pc := 550) hx hb dL_law_550 rfl (lv_at hl 0 rfl) ?_
  refine lv_iload_n (pc := 551) hx hb dL_law_551 rfl (lv_at hl 3 rfl) ?_
  refine lv_iconst (pc := 552) (v := 1) hx hb dL_law_552 (by decide) ?_
  refine lv_iadd (pc := 553) hx hb dL_law_553 ?_
  refine r_sc (pc := 554) CX P SC hF dL_law_554 (fun v1 hF => ?_)
  refine lv_aload_n (pc := 555) hx hb dL_law_555 rfl (lv_at hl 0 rfl) ?_
  refine lv_iload_n (pc := 556) hx hb dL_law_556 rfl (lv_at hl 3 rfl) ?_
  refine lv_iconst (pc := 557) (v := 2) hx hb dL_law_557 (by decide) ?_
  refine lv_iadd (pc := 558) hx hb dL_law_558 ?_
  refine r_sc (pc := 559) CX P SC hF dL_law_559 (fun v2 hF => ?_)
  refine r_cVi (pc := 560) (As := [.int v1, .int v2]) (rest := []) CX P hl.1 hF kv_L_52 (fun r h1 q => c_X9_move l G B _ _ _ _ _ _ q) rfl rfl ⟨Nat.le_of_ble_eq_true rfl, Nat.le_of_ble_eq_true rfl⟩ (Nat.le_of_ble_eq_true rfl) (lf0 hj) dL_law_560 (fun v3 h4 H locs P hF => ?_)
  replace hF := un_i hF
  refine lv_aload_n (pc := 563) hx hb dL_law_563 rfl (lv_at hl 2 rfl) ?_
  refine lv_aload_n (pc := 564) hx hb dL_law_564 rfl (lv_at hl 0 rfl) ?_
  refine lv_iload_n (pc := 565) hx hb dL_law_565 rfl (lv_at hl 3 rfl) ?_
  refine lv_iconst (pc := 566) (v := 1) hx hb dL_law_566 (by decide) ?_
  refine lv_iadd (pc := 567) hx hb dL_law_567 ?_
  refine r_sc (pc := 568) CX P SC hF dL_law_568 (fun v5 hF => ?_)
  refine lv_aload_n (pc := 569) hx hb dL_law_569 rfl (lv_at hl 0 rfl) ?_
  refine lv_iload_n (pc := 570) hx hb dL_law_570 rfl (lv_at hl 3 rfl) ?_
  refine lv_iconst (pc := 571) (v := 2) hx hb dL_law_571 (by decide) ?_
  refine lv_iadd (pc := 572) hx hb dL_law_572 ?_
  refine r_sc (pc := 573) CX P SC hF dL_law_573 (fun v6 hF => ?_)
  refine r_cVi (pc := 574) (As := [.int v5, .int v6]) (rest := [.int v3]) CX P hl.1 hF kv_L_55 (fun r h1 q => c_X10_move l G B _ _ _ _ _ _ q) rfl rfl ⟨Nat.le_of_ble_eq_true rfl, Nat.le_of_ble_eq_true rfl⟩ (Nat.le_of_ble_eq_true rfl) (lf0 hj) dL_law_574 (fun v7 h8 H locs P hF => ?_)
  replace hF := un_i hF
  refine lv_icmp_eq (pc := 577) (tgt := 1805) hx hb dL_law_577 (by decide) (fun hc => ?_) (fun hc => ?_)
  · rw [if_pos hc] at hF
    obtain ⟨v9, ev9, hF⟩ := bl_o hF
    refine lv_iinc (pc := 1805) (k := 3) (v := v9) hx hb dL_law_1805 hl rfl ev9 (by decide) rfl (fun ls hl => ?_)
    replace hl : lv_has ls 4 [(3, .int v9), (0, .ref b), (1, .ref (B + ax)), (2, .ref (B + am))] := hl
    refine lv_goto (pc := 1808) (tgt := 18) hx hb dL_law_1808 (by decide) ?_
    refine W.widen (k := 775 + 57 * (j + 1)) (n := 16739 + 614 * (j + 1)) (lw0 j).1 (lw0 j).2 ?_
    exact hB _ _ _ _ _ ev9 P (lv_sub hl [1, 2, 3, 0] rfl) hF.symm
  · rw [if_neg hc] at hF
    refine lv_iconst (pc := 580) (v := 0) hx hb dL_law_580 (by decide) ?_
    exact absurd (Option.some.inj hF).symm (hE _)
def F_law_c10 (L : Nat) (xs : Nat → Int32) (ax am : Nat) (vi : Int32) (h : Hp) : Option ((Int32 × Hp) ⊕ ((Int32 × Hp) ⊕ Hp)) :=
(scX L xs (vi + 1)).bind fun v1 =>
(cO h ax 9 (F_X9_kill h ax v1)).bind (un fun v2 h3 =>
(scX L xs (vi + 1)).bind fun v4 =>
(cO h3 am 10 (F_X10_kill h3 am v4)).bind (un fun v5 h6 =>
if v2 = v5 then (
bl (vi + 5) fun v7 =>
some (.inl (v7, h6))) else (
some (.inr (.inl (0, h6))))))
set_option maxRecDepth 100000 in
set_option maxHeartbeats 4000000 in
theorem w_law_c10 {p : Program} {l : Launch} {e : Env} {s : State} {m : MethodId} {args : Array Value} {below : List Frame} {meth : Method} {c : Code} {Q : State → Prop} {G : GG} {B b L : Nat} {xs : Nat → Int32} (CX : Cxt p m c code 4 s args RL G B) (SC : SCr b L xs s B) {ax am : Nat} {vi : Int32} {h : Hp} {j : Nat} {z : (Int32 × Hp) ⊕ ((Int32 × Hp) ⊕ Hp)} {H : Heap} {locs : List Loc} {ls : Array Slot} (hj : j < 512) (P : Pic G B h s H locs) (hl : lv_has ls 4 [(0, .ref b), (1, .ref (B + ax)), (2, .ref (B + am)), (3, .int vi)]) (hF : F_law_c10 L xs ax am vi h = some z)
    (hB : ∀ (v : Int32) (h1 : Hp) (H : Heap) (locs : List Loc) (ls : Array Slot), vi + 5 = v → Pic G B h1 s H locs → lv_has ls 4 [(0, .ref b), (1, .ref (B + ax)), (2, .ref (B + am)), (3, .int v)] → some z = some (.inl (v, h1)) → W p l e room_1 s m args below meth c H locs (775 + 57 * (j + 1)) (16739 + 614 * (j + 1)) Q (F0 m 18 ls []))
    (hE : ∀ h1, ¬ z = .inr (.inl (0, h1))) : W p l e room_1 s m args below meth c H locs (775 + 57 * j) (16739 + 614 * j) Q (F0 m 582 ls []) := by
  obtain ⟨⟨hx, hb, hml, hown, hts⟩, -, -⟩ := id CX
  unfold F_law_c10 at hF
  refine lv_aload_n (pc := 582) hx hb dL_law_582 rfl (lv_at hl 1 rfl) ?_
  refine lv_aload_n (pc := 583) hx hb dL_law_583 rfl (lv_at hl 0 rfl) ?_
  refine lv_iload_n (pc := 584) hx hb dL_law_584 rfl (lv_at hl 3 rfl) ?_
  refine lv_iconst (pc := 585) (v := 1) hx hb dL_law_585 (by decide) ?_
  refine lv_iadd (pc := 586) hx hb dL_law_586 ?_
  refine r_sc (pc := 587) CX P SC hF dL_law_587 (fun v1 hF => ?_)
  refine r_cVi (pc := 588) (As := [.int v1]) (rest := []) CX P hl.1 hF kv_L_56 (fun r h1 q => c_X9_kill l G B _ _ _ _ _ q) rfl rfl ⟨Nat.le_of_ble_eq_true rfl, Nat.le_of_ble_eq_true rfl⟩ (Nat.le_of_ble_eq_true rfl) (lf0 hj) dL_law_588 (fun v2 h3 H locs P hF => ?_)
  replace hF := un_i hF
  refine lv_aload_n (pc := 591) hx hb dL_law_591 rfl (lv_at hl 2 rfl) ?_
  refine lv_aload_n (pc := 592) hx hb dL_law_592 rfl (lv_at hl 0 rfl) ?_
  refine lv_iload_n (pc := 593) hx hb dL_law_593 rfl (lv_at hl 3 rfl) ?_
  refine lv_iconst (pc := 594) (v := 1) hx hb dL_law_594 (by decide) ?_
  refine lv_iadd (pc := 595) hx hb dL_law_595 ?_
  refine r_sc (pc := 596) CX P SC hF dL_law_596 (fun v4 hF => ?_)
  refine r_cVi (pc := 597) (As := [.int v4]) (rest := [.int v2]) CX P hl.1 hF kv_L_59 (fun r h1 q => c_X10_kill l G B _ _ _ _ _ q) rfl rfl ⟨Nat.le_of_ble_eq_true rfl, Nat.le_of_ble_eq_true rfl⟩ (Nat.le_of_ble_eq_true rfl) (lf0 hj) dL_law_597 (fun v5 h6 H locs P hF => ?_)
  replace hF := un_i hF
  refine lv_icmp_eq (pc := 600) (tgt := 1805) hx hb dL_law_600 (by decide) (fun hc => ?_) (fun hc => ?_)
  · rw [if_pos hc] at hF
    obtain ⟨v7, ev7, hF⟩ := bl_o hF
    refine lv_iinc (pc := 1805) (k := 3) (v := v7) hx hb dL_law_1805 hl rfl ev7 (by decide) rfl (fun ls hl => ?_)
    replace hl : lv_has ls 4 [(3, .int v7), (0, .ref b), (1, .ref (B + ax)), (2, .ref (B + am))] := hl
    refine lv_goto (pc := 1808) (tgt := 18) hx hb dL_law_1808 (by decide) ?_
    refine W.widen (k := 775 + 57 * (j + 1)) (n := 16739 + 614 * (j + 1)) (lw0 j).1 (lw0 j).2 ?_
    exact hB _ _ _ _ _ ev7 P (lv_sub hl [1, 2, 3, 0] rfl) hF.symm
  · rw [if_neg hc] at hF
    refine lv_iconst (pc := 603) (v := 0) hx hb dL_law_603 (by decide) ?_
    exact absurd (Option.some.inj hF).symm (hE _)
def F_law_c11 (L : Nat) (xs : Nat → Int32) (ax am : Nat) (vi : Int32) (h : Hp) : Option ((Int32 × Hp) ⊕ ((Int32 × Hp) ⊕ Hp)) :=
(scX L xs (vi + 1)).bind fun v1 =>
(scX L xs (vi + 2)).bind fun v2 =>
(cO h ax 9 (F_X9_take h ax v1 v2)).bind (un fun v3 h4 =>
(scX L xs (vi + 1)).bind fun v5 =>
(scX L xs (vi + 2)).bind fun v6 =>
(cO h4 am 10 (F_X10_take h4 am v5 v6)).bind (un fun v7 h8 =>
if v3 = v7 then (
bl (vi + 5) fun v9 =>
some (.inl (v9, h8))) else (
some (.inr (.inl (0, h8))))))
set_option maxRecDepth 100000 in
set_option maxHeartbeats 4000000 in
theorem w_law_c11 {p : Program} {l : Launch} {e : Env} {s : State} {m : MethodId} {args : Array Value} {below : List Frame} {meth : Method} {c : Code} {Q : State → Prop} {G : GG} {B b L : Nat} {xs : Nat → Int32} (CX : Cxt p m c code 4 s args RL G B) (SC : SCr b L xs s B) {ax am : Nat} {vi : Int32} {h : Hp} {j : Nat} {z : (Int32 × Hp) ⊕ ((Int32 × Hp) ⊕ Hp)} {H : Heap} {locs : List Loc} {ls : Array Slot} (hj : j < 512) (P : Pic G B h s H locs) (hl : lv_has ls 4 [(0, .ref b), (1, .ref (B + ax)), (2, .ref (B + am)), (3, .int vi)]) (hF : F_law_c11 L xs ax am vi h = some z)
    (hB : ∀ (v : Int32) (h1 : Hp) (H : Heap) (locs : List Loc) (ls : Array Slot), vi + 5 = v → Pic G B h1 s H locs → lv_has ls 4 [(0, .ref b), (1, .ref (B + ax)), (2, .ref (B + am)), (3, .int v)] → some z = some (.inl (v, h1)) → W p l e room_1 s m args below meth c H locs (775 + 57 * (j + 1)) (16739 + 614 * (j + 1)) Q (F0 m 18 ls []))
    (hE : ∀ h1, ¬ z = .inr (.inl (0, h1))) : W p l e room_1 s m args below meth c H locs (775 + 57 * j) (16739 + 614 * j) Q (F0 m 605 ls []) := by
  obtain ⟨⟨hx, hb, hml, hown, hts⟩, -, -⟩ := id CX
  unfold F_law_c11 at hF
  refine lv_aload_n (pc := 605) hx hb dL_law_605 rfl (lv_at hl 1 rfl) ?_
  refine lv_aload_n (pc := 606) hx hb dL_law_606 rfl (lv_at hl 0 rfl) ?_
  refine lv_iload_n (pc := 607) hx hb dL_law_607 rfl (lv_at hl 3 rfl) ?_
  refine lv_iconst (pc := 608) (v := 1) hx hb dL_law_608 (by decide) ?_
  refine lv_iadd (pc := 609) hx hb dL_law_609 ?_
  refine r_sc (pc := 610) CX P SC hF dL_law_610 (fun v1 hF => ?_)
  refine lv_aload_n (pc := 611) hx hb dL_law_611 rfl (lv_at hl 0 rfl) ?_
  refine lv_iload_n (pc := 612) hx hb dL_law_612 rfl (lv_at hl 3 rfl) ?_
  refine lv_iconst (pc := 613) (v := 2) hx hb dL_law_613 (by decide) ?_
  refine lv_iadd (pc := 614) hx hb dL_law_614 ?_
  refine r_sc (pc := 615) CX P SC hF dL_law_615 (fun v2 hF => ?_)
  refine r_cVi (pc := 616) (As := [.int v1, .int v2]) (rest := []) CX P hl.1 hF kv_L_60 (fun r h1 q => c_X9_take l G B _ _ _ _ _ _ q) rfl rfl ⟨Nat.le_of_ble_eq_true rfl, Nat.le_of_ble_eq_true rfl⟩ (Nat.le_of_ble_eq_true rfl) (lf0 hj) dL_law_616 (fun v3 h4 H locs P hF => ?_)
  replace hF := un_i hF
  refine lv_aload_n (pc := 619) hx hb dL_law_619 rfl (lv_at hl 2 rfl) ?_
  refine lv_aload_n (pc := 620) hx hb dL_law_620 rfl (lv_at hl 0 rfl) ?_
  refine lv_iload_n (pc := 621) hx hb dL_law_621 rfl (lv_at hl 3 rfl) ?_
  refine lv_iconst (pc := 622) (v := 1) hx hb dL_law_622 (by decide) ?_
  refine lv_iadd (pc := 623) hx hb dL_law_623 ?_
  refine r_sc (pc := 624) CX P SC hF dL_law_624 (fun v5 hF => ?_)
  refine lv_aload_n (pc := 625) hx hb dL_law_625 rfl (lv_at hl 0 rfl) ?_
  refine lv_iload_n (pc := 626) hx hb dL_law_626 rfl (lv_at hl 3 rfl) ?_
  refine lv_iconst (pc := 627) (v := 2) hx hb dL_law_627 (by decide) ?_
  refine lv_iadd (pc := 628) hx hb dL_law_628 ?_
  refine r_sc (pc := 629) CX P SC hF dL_law_629 (fun v6 hF => ?_)
  refine r_cVi (pc := 630) (As := [.int v5, .int v6]) (rest := [.int v3]) CX P hl.1 hF kv_L_63 (fun r h1 q => c_X10_take l G B _ _ _ _ _ _ q) rfl rfl ⟨Nat.le_of_ble_eq_true rfl, Nat.le_of_ble_eq_true rfl⟩ (Nat.le_of_ble_eq_true rfl) (lf0 hj) dL_law_630 (fun v7 h8 H locs P hF => ?_)
  replace hF := un_i hF
  refine lv_icmp_eq (pc := 633) (tgt := 1805) hx hb dL_law_633 (by decide) (fun hc => ?_) (fun hc => ?_)
  · rw [if_pos hc] at hF
    obtain ⟨v9, ev9, hF⟩ := bl_o hF
    refine lv_iinc (pc := 1805) (k := 3) (v := v9) hx hb dL_law_1805 hl rfl ev9 (by decide) rfl (fun ls hl => ?_)
    replace hl : lv_has ls 4 [(3, .int v9), (0, .ref b), (1, .ref (B + ax)), (2, .ref (B + am))] := hl
    refine lv_goto (pc := 1808) (tgt := 18) hx hb dL_law_1808 (by decide) ?_
    refine W.widen (k := 775 + 57 * (j + 1)) (n := 16739 + 614 * (j + 1)) (lw0 j).1 (lw0 j).2 ?_
    exact hB _ _ _ _ _ ev9 P (lv_sub hl [1, 2, 3, 0] rfl) hF.symm
  · rw [if_neg hc] at hF
    refine lv_iconst (pc := 636) (v := 0) hx hb dL_law_636 (by decide) ?_
    exact absurd (Option.some.inj hF).symm (hE _)
def F_law_c12 (L : Nat) (xs : Nat → Int32) (ax am : Nat) (vi : Int32) (h : Hp) : Option ((Int32 × Hp) ⊕ ((Int32 × Hp) ⊕ Hp)) :=
(scX L xs (vi + 1)).bind fun v1 =>
(cO h ax 9 (F_X9_drain h ax v1)).bind (un fun v2 h3 =>
(scX L xs (vi + 1)).bind fun v4 =>
(cO h3 am 10 (F_X10_drain h3 am v4)).bind (un fun v5 h6 =>
if v2 = v5 then (
bl (vi + 5) fun v7 =>
some (.inl (v7, h6))) else (
some (.inr (.inl (0, h6))))))
set_option maxRecDepth 100000 in
set_option maxHeartbeats 4000000 in
theorem w_law_c12 {p : Program} {l : Launch} {e : Env} {s : State} {m : MethodId} {args : Array Value} {below : List Frame} {meth : Method} {c : Code} {Q : State → Prop} {G : GG} {B b L : Nat} {xs : Nat → Int32} (CX : Cxt p m c code 4 s args RL G B) (SC : SCr b L xs s B) {ax am : Nat} {vi : Int32} {h : Hp} {j : Nat} {z : (Int32 × Hp) ⊕ ((Int32 × Hp) ⊕ Hp)} {H : Heap} {locs : List Loc} {ls : Array Slot} (hj : j < 512) (P : Pic G B h s H locs) (hl : lv_has ls 4 [(0, .ref b), (1, .ref (B + ax)), (2, .ref (B + am)), (3, .int vi)]) (hF : F_law_c12 L xs ax am vi h = some z)
    (hB : ∀ (v : Int32) (h1 : Hp) (H : Heap) (locs : List Loc) (ls : Array Slot), vi + 5 = v → Pic G B h1 s H locs → lv_has ls 4 [(0, .ref b), (1, .ref (B + ax)), (2, .ref (B + am)), (3, .int v)] → some z = some (.inl (v, h1)) → W p l e room_1 s m args below meth c H locs (775 + 57 * (j + 1)) (16739 + 614 * (j + 1)) Q (F0 m 18 ls []))
    (hE : ∀ h1, ¬ z = .inr (.inl (0, h1))) : W p l e room_1 s m args below meth c H locs (775 + 57 * j) (16739 + 614 * j) Q (F0 m 638 ls []) := by
  obtain ⟨⟨hx, hb, hml, hown, hts⟩, -, -⟩ := id CX
  unfold F_law_c12 at hF
  refine lv_aload_n (pc := 638) hx hb dL_law_638 rfl (lv_at hl 1 rfl) ?_
  refine lv_aload_n (pc := 639) hx hb dL_law_639 rfl (lv_at hl 0 rfl) ?_
  refine lv_iload_n (pc := 640) hx hb dL_law_640 rfl (lv_at hl 3 rfl) ?_
  refine lv_iconst (pc := 641) (v := 1) hx hb dL_law_641 (by decide) ?_
  refine lv_iadd (pc := 642) hx hb dL_law_642 ?_
  refine r_sc (pc := 643) CX P SC hF dL_law_643 (fun v1 hF => ?_)
  refine r_cVi (pc := 644) (As := [.int v1]) (rest := []) CX P hl.1 hF kv_L_64 (fun r h1 q => c_X9_drain l G B _ _ _ _ _ q) rfl rfl ⟨Nat.le_of_ble_eq_true rfl, Nat.le_of_ble_eq_true rfl⟩ (Nat.le_of_ble_eq_true rfl) (lf0 hj) dL_law_644 (fun v2 h3 H locs P hF => ?_)
  replace hF := un_i hF
  refine lv_aload_n (pc := 647) hx hb dL_law_647 rfl (lv_at hl 2 rfl) ?_
  refine lv_aload_n (pc := 648) hx hb dL_law_648 rfl (lv_at hl 0 rfl) ?_
  refine lv_iload_n (pc := 649) hx hb dL_law_649 rfl (lv_at hl 3 rfl) ?_
  refine lv_iconst (pc := 650) (v := 1) hx hb dL_law_650 (by decide) ?_
  refine lv_iadd (pc := 651) hx hb dL_law_651 ?_
  refine r_sc (pc := 652) CX P SC hF dL_law_652 (fun v4 hF => ?_)
  refine r_cVi (pc := 653) (As := [.int v4]) (rest := [.int v2]) CX P hl.1 hF kv_L_67 (fun r h1 q => c_X10_drain l G B _ _ _ _ _ q) rfl rfl ⟨Nat.le_of_ble_eq_true rfl, Nat.le_of_ble_eq_true rfl⟩ (Nat.le_of_ble_eq_true rfl) (lf0 hj) dL_law_653 (fun v5 h6 H locs P hF => ?_)
  replace hF := un_i hF
  refine lv_icmp_eq (pc := 656) (tgt := 1805) hx hb dL_law_656 (by decide) (fun hc => ?_) (fun hc => ?_)
  · rw [if_pos hc] at hF
    obtain ⟨v7, ev7, hF⟩ := bl_o hF
    refine lv_iinc (pc := 1805) (k := 3) (v := v7) hx hb dL_law_1805 hl rfl ev7 (by decide) rfl (fun ls hl => ?_)
    replace hl : lv_has ls 4 [(3, .int v7), (0, .ref b), (1, .ref (B + ax)), (2, .ref (B + am))] := hl
    refine lv_goto (pc := 1808) (tgt := 18) hx hb dL_law_1808 (by decide) ?_
    refine W.widen (k := 775 + 57 * (j + 1)) (n := 16739 + 614 * (j + 1)) (lw0 j).1 (lw0 j).2 ?_
    exact hB _ _ _ _ _ ev7 P (lv_sub hl [1, 2, 3, 0] rfl) hF.symm
  · rw [if_neg hc] at hF
    refine lv_iconst (pc := 659) (v := 0) hx hb dL_law_659 (by decide) ?_
    exact absurd (Option.some.inj hF).symm (hE _)
def F_law_c13 (L : Nat) (xs : Nat → Int32) (ax am : Nat) (vi : Int32) (h : Hp) : Option ((Int32 × Hp) ⊕ ((Int32 × Hp) ⊕ Hp)) :=
(scX L xs (vi + 1)).bind fun v1 =>
(cO h ax 9 (F_X9_batch h ax v1)).bind (un fun v2 h3 =>
(scX L xs (vi + 1)).bind fun v4 =>
(cO h3 am 10 (F_X10_batch h3 am v4)).bind (un fun v5 h6 =>
if v2 = v5 then (
bl (vi + 5) fun v7 =>
some (.inl (v7, h6))) else (
some (.inr (.inl (0, h6))))))
set_option maxRecDepth 100000 in
set_option maxHeartbeats 4000000 in
theorem w_law_c13 {p : Program} {l : Launch} {e : Env} {s : State} {m : MethodId} {args : Array Value} {below : List Frame} {meth : Method} {c : Code} {Q : State → Prop} {G : GG} {B b L : Nat} {xs : Nat → Int32} (CX : Cxt p m c code 4 s args RL G B) (SC : SCr b L xs s B) {ax am : Nat} {vi : Int32} {h : Hp} {j : Nat} {z : (Int32 × Hp) ⊕ ((Int32 × Hp) ⊕ Hp)} {H : Heap} {locs : List Loc} {ls : Array Slot} (hj : j < 512) (P : Pic G B h s H locs) (hl : lv_has ls 4 [(0, .ref b), (1, .ref (B + ax)), (2, .ref (B + am)), (3, .int vi)]) (hF : F_law_c13 L xs ax am vi h = some z)
    (hB : ∀ (v : Int32) (h1 : Hp) (H : Heap) (locs : List Loc) (ls : Array Slot), vi + 5 = v → Pic G B h1 s H locs → lv_has ls 4 [(0, .ref b), (1, .ref (B + ax)), (2, .ref (B + am)), (3, .int v)] → some z = some (.inl (v, h1)) → W p l e room_1 s m args below meth c H locs (775 + 57 * (j + 1)) (16739 + 614 * (j + 1)) Q (F0 m 18 ls []))
    (hE : ∀ h1, ¬ z = .inr (.inl (0, h1))) : W p l e room_1 s m args below meth c H locs (775 + 57 * j) (16739 + 614 * j) Q (F0 m 661 ls []) := by
  obtain ⟨⟨hx, hb, hml, hown, hts⟩, -, -⟩ := id CX
  unfold F_law_c13 at hF
  refine lv_aload_n (pc := 661) hx hb dL_law_661 rfl (lv_at hl 1 rfl) ?_
  refine lv_aload_n (pc := 662) hx hb dL_law_662 rfl (lv_at hl 0 rfl) ?_
  refine lv_iload_n (pc := 663) hx hb dL_law_663 rfl (lv_at hl 3 rfl) ?_
  refine lv_iconst (pc := 664) (v := 1) hx hb dL_law_664 (by decide) ?_
  refine lv_iadd (pc := 665) hx hb dL_law_665 ?_
  refine r_sc (pc := 666) CX P SC hF dL_law_666 (fun v1 hF => ?_)
  refine r_cVi (pc := 667) (As := [.int v1]) (rest := []) CX P hl.1 hF kv_L_68 (fun r h1 q => c_X9_batch l G B _ _ _ _ _ q) rfl rfl ⟨Nat.le_of_ble_eq_true rfl, Nat.le_of_ble_eq_true rfl⟩ (Nat.le_of_ble_eq_true rfl) (lf0 hj) dL_law_667 (fun v2 h3 H locs P hF => ?_)
  replace hF := un_i hF
  refine lv_aload_n (pc := 670) hx hb dL_law_670 rfl (lv_at hl 2 rfl) ?_
  refine lv_aload_n (pc := 671) hx hb dL_law_671 rfl (lv_at hl 0 rfl) ?_
  refine lv_iload_n (pc := 672) hx hb dL_law_672 rfl (lv_at hl 3 rfl) ?_
  refine lv_iconst (pc := 673) (v := 1) hx hb dL_law_673 (by decide) ?_
  refine lv_iadd (pc := 674) hx hb dL_law_674 ?_
  refine r_sc (pc := 675) CX P SC hF dL_law_675 (fun v4 hF => ?_)
  refine r_cVi (pc := 676) (As := [.int v4]) (rest := [.int v2]) CX P hl.1 hF kv_L_71 (fun r h1 q => c_X10_batch l G B _ _ _ _ _ q) rfl rfl ⟨Nat.le_of_ble_eq_true rfl, Nat.le_of_ble_eq_true rfl⟩ (Nat.le_of_ble_eq_true rfl) (lf0 hj) dL_law_676 (fun v5 h6 H locs P hF => ?_)
  replace hF := un_i hF
  refine lv_icmp_eq (pc := 679) (tgt := 1805) hx hb dL_law_679 (by decide) (fun hc => ?_) (fun hc => ?_)
  · rw [if_pos hc] at hF
    obtain ⟨v7, ev7, hF⟩ := bl_o hF
    refine lv_iinc (pc := 1805) (k := 3) (v := v7) hx hb dL_law_1805 hl rfl ev7 (by decide) rfl (fun ls hl => ?_)
    replace hl : lv_has ls 4 [(3, .int v7), (0, .ref b), (1, .ref (B + ax)), (2, .ref (B + am))] := hl
    refine lv_goto (pc := 1808) (tgt := 18) hx hb dL_law_1808 (by decide) ?_
    refine W.widen (k := 775 + 57 * (j + 1)) (n := 16739 + 614 * (j + 1)) (lw0 j).1 (lw0 j).2 ?_
    exact hB _ _ _ _ _ ev7 P (lv_sub hl [1, 2, 3, 0] rfl) hF.symm
  · rw [if_neg hc] at hF
    refine lv_iconst (pc := 682) (v := 0) hx hb dL_law_682 (by decide) ?_
    exact absurd (Option.some.inj hF).symm (hE _)
def F_law_c14 (L : Nat) (xs : Nat → Int32) (ax am : Nat) (vi : Int32) (h : Hp) : Option ((Int32 × Hp) ⊕ ((Int32 × Hp) ⊕ Hp)) :=
(scX L xs (vi + 1)).bind fun v1 =>
(cO h ax 9 (F_X9_swap h ax v1)).bind (un fun v2 h3 =>
(scX L xs (vi + 1)).bind fun v4 =>
(cO h3 am 10 (F_X10_swap h3 am v4)).bind (un fun v5 h6 =>
if v2 = v5 then (
bl (vi + 5) fun v7 =>
some (.inl (v7, h6))) else (
some (.inr (.inl (0, h6))))))
set_option maxRecDepth 100000 in
set_option maxHeartbeats 4000000 in
theorem w_law_c14 {p : Program} {l : Launch} {e : Env} {s : State} {m : MethodId} {args : Array Value} {below : List Frame} {meth : Method} {c : Code} {Q : State → Prop} {G : GG} {B b L : Nat} {xs : Nat → Int32} (CX : Cxt p m c code 4 s args RL G B) (SC : SCr b L xs s B) {ax am : Nat} {vi : Int32} {h : Hp} {j : Nat} {z : (Int32 × Hp) ⊕ ((Int32 × Hp) ⊕ Hp)} {H : Heap} {locs : List Loc} {ls : Array Slot} (hj : j < 512) (P : Pic G B h s H locs) (hl : lv_has ls 4 [(0, .ref b), (1, .ref (B + ax)), (2, .ref (B + am)), (3, .int vi)]) (hF : F_law_c14 L xs ax am vi h = some z)
    (hB : ∀ (v : Int32) (h1 : Hp) (H : Heap) (locs : List Loc) (ls : Array Slot), vi + 5 = v → Pic G B h1 s H locs → lv_has ls 4 [(0, .ref b), (1, .ref (B + ax)), (2, .ref (B + am)), (3, .int v)] → some z = some (.inl (v, h1)) → W p l e room_1 s m args below meth c H locs (775 + 57 * (j + 1)) (16739 + 614 * (j + 1)) Q (F0 m 18 ls []))
    (hE : ∀ h1, ¬ z = .inr (.inl (0, h1))) : W p l e room_1 s m args below meth c H locs (775 + 57 * j) (16739 + 614 * j) Q (F0 m 684 ls []) := by
  obtain ⟨⟨hx, hb, hml, hown, hts⟩, -, -⟩ := id CX
  unfold F_law_c14 at hF
  refine lv_aload_n (pc := 684) hx hb dL_law_684 rfl (lv_at hl 1 rfl) ?_
  refine lv_aload_n (pc := 685) hx hb dL_law_685 rfl (lv_at hl 0 rfl) ?_
  refine lv_iload_n (pc := 686) hx hb dL_law_686 rfl (lv_at hl 3 rfl) ?_
  refine lv_iconst (pc := 687) (v := 1) hx hb dL_law_687 (by decide) ?_
  refine lv_iadd (pc := 688) hx hb dL_law_688 ?_
  refine r_sc (pc := 689) CX P SC hF dL_law_689 (fun v1 hF => ?_)
  refine r_cVi (pc := 690) (As := [.int v1]) (rest := []) CX P hl.1 hF kv_L_72 (fun r h1 q => c_X9_swap l G B _ _ _ _ _ q) rfl rfl ⟨Nat.le_of_ble_eq_true rfl, Nat.le_of_ble_eq_true rfl⟩ (Nat.le_of_ble_eq_true rfl) (lf0 hj) dL_law_690 (fun v2 h3 H locs P hF => ?_)
  replace hF := un_i hF
  refine lv_aload_n (pc := 693) hx hb dL_law_693 rfl (lv_at hl 2 rfl) ?_
  refine lv_aload_n (pc := 694) hx hb dL_law_694 rfl (lv_at hl 0 rfl) ?_
  refine lv_iload_n (pc := 695) hx hb dL_law_695 rfl (lv_at hl 3 rfl) ?_
  refine lv_iconst (pc := 696) (v := 1) hx hb dL_law_696 (by decide) ?_
  refine lv_iadd (pc := 697) hx hb dL_law_697 ?_
  refine r_sc (pc := 698) CX P SC hF dL_law_698 (fun v4 hF => ?_)
  refine r_cVi (pc := 699) (As := [.int v4]) (rest := [.int v2]) CX P hl.1 hF kv_L_75 (fun r h1 q => c_X10_swap l G B _ _ _ _ _ q) rfl rfl ⟨Nat.le_of_ble_eq_true rfl, Nat.le_of_ble_eq_true rfl⟩ (Nat.le_of_ble_eq_true rfl) (lf0 hj) dL_law_699 (fun v5 h6 H locs P hF => ?_)
  replace hF := un_i hF
  refine lv_icmp_eq (pc := 702) (tgt := 1805) hx hb dL_law_702 (by decide) (fun hc => ?_) (fun hc => ?_)
  · rw [if_pos hc] at hF
    obtain ⟨v7, ev7, hF⟩ := bl_o hF
    refine lv_iinc (pc := 1805) (k := 3) (v := v7) hx hb dL_law_1805 hl rfl ev7 (by decide) rfl (fun ls hl => ?_)
    replace hl : lv_has ls 4 [(3, .int v7), (0, .ref b), (1, .ref (B + ax)), (2, .ref (B + am))] := hl
    refine lv_goto (pc := 1808) (tgt := 18) hx hb dL_law_1808 (by decide) ?_
    refine W.widen (k := 775 + 57 * (j + 1)) (n := 16739 + 614 * (j + 1)) (lw0 j).1 (lw0 j).2 ?_
    exact hB _ _ _ _ _ ev7 P (lv_sub hl [1, 2, 3, 0] rfl) hF.symm
  · rw [if_neg hc] at hF
    refine lv_iconst (pc := 705) (v := 0) hx hb dL_law_705 (by decide) ?_
    exact absurd (Option.some.inj hF).symm (hE _)
def F_law_c15 (L : Nat) (xs : Nat → Int32) (ax am : Nat) (vi : Int32) (h : Hp) : Option ((Int32 × Hp) ⊕ ((Int32 × Hp) ⊕ Hp)) :=
(scX L xs (vi + 1)).bind fun v1 =>
(cO h ax 9 (F_X9_cap h ax v1)).bind (un fun v2 h3 =>
(scX L xs (vi + 1)).bind fun v4 =>
(cO h3 am 10 (F_X10_cap h3 am v4)).bind (un fun v5 h6 =>
if v2 = v5 then (
bl (vi + 5) fun v7 =>
some (.inl (v7, h6))) else (
some (.inr (.inl (0, h6))))))
set_option maxRecDepth 100000 in
set_option maxHeartbeats 4000000 in
theorem w_law_c15 {p : Program} {l : Launch} {e : Env} {s : State} {m : MethodId} {args : Array Value} {below : List Frame} {meth : Method} {c : Code} {Q : State → Prop} {G : GG} {B b L : Nat} {xs : Nat → Int32} (CX : Cxt p m c code 4 s args RL G B) (SC : SCr b L xs s B) {ax am : Nat} {vi : Int32} {h : Hp} {j : Nat} {z : (Int32 × Hp) ⊕ ((Int32 × Hp) ⊕ Hp)} {H : Heap} {locs : List Loc} {ls : Array Slot} (hj : j < 512) (P : Pic G B h s H locs) (hl : lv_has ls 4 [(0, .ref b), (1, .ref (B + ax)), (2, .ref (B + am)), (3, .int vi)]) (hF : F_law_c15 L xs ax am vi h = some z)
    (hB : ∀ (v : Int32) (h1 : Hp) (H : Heap) (locs : List Loc) (ls : Array Slot), vi + 5 = v → Pic G B h1 s H locs → lv_has ls 4 [(0, .ref b), (1, .ref (B + ax)), (2, .ref (B + am)), (3, .int v)] → some z = some (.inl (v, h1)) → W p l e room_1 s m args below meth c H locs (775 + 57 * (j + 1)) (16739 + 614 * (j + 1)) Q (F0 m 18 ls []))
    (hE : ∀ h1, ¬ z = .inr (.inl (0, h1))) : W p l e room_1 s m args below meth c H locs (775 + 57 * j) (16739 + 614 * j) Q (F0 m 707 ls []) := by
  obtain ⟨⟨hx, hb, hml, hown, hts⟩, -, -⟩ := id CX
  unfold F_law_c15 at hF
  refine lv_aload_n (pc := 707) hx hb dL_law_707 rfl (lv_at hl 1 rfl) ?_
  refine lv_aload_n (pc := 708) hx hb dL_law_708 rfl (lv_at hl 0 rfl) ?_
  refine lv_iload_n (pc := 709) hx hb dL_law_709 rfl (lv_at hl 3 rfl) ?_
  refine lv_iconst (pc := 710) (v := 1) hx hb dL_law_710 (by decide) ?_
  refine lv_iadd (pc := 711) hx hb dL_law_711 ?_
  refine r_sc (pc := 712) CX P SC hF dL_law_712 (fun v1 hF => ?_)
  refine r_cVi (pc := 713) (As := [.int v1]) (rest := []) CX P hl.1 hF kv_L_76 (fun r h1 q => c_X9_cap l G B _ _ _ _ _ q) rfl rfl ⟨Nat.le_of_ble_eq_true rfl, Nat.le_of_ble_eq_true rfl⟩ (Nat.le_of_ble_eq_true rfl) (lf0 hj) dL_law_713 (fun v2 h3 H locs P hF => ?_)
  replace hF := un_i hF
  refine lv_aload_n (pc := 716) hx hb dL_law_716 rfl (lv_at hl 2 rfl) ?_
  refine lv_aload_n (pc := 717) hx hb dL_law_717 rfl (lv_at hl 0 rfl) ?_
  refine lv_iload_n (pc := 718) hx hb dL_law_718 rfl (lv_at hl 3 rfl) ?_
  refine lv_iconst (pc := 719) (v := 1) hx hb dL_law_719 (by decide) ?_
  refine lv_iadd (pc := 720) hx hb dL_law_720 ?_
  refine r_sc (pc := 721) CX P SC hF dL_law_721 (fun v4 hF => ?_)
  refine r_cVi (pc := 722) (As := [.int v4]) (rest := [.int v2]) CX P hl.1 hF kv_L_79 (fun r h1 q => c_X10_cap l G B _ _ _ _ _ q) rfl rfl ⟨Nat.le_of_ble_eq_true rfl, Nat.le_of_ble_eq_true rfl⟩ (Nat.le_of_ble_eq_true rfl) (lf0 hj) dL_law_722 (fun v5 h6 H locs P hF => ?_)
  replace hF := un_i hF
  refine lv_icmp_eq (pc := 725) (tgt := 1805) hx hb dL_law_725 (by decide) (fun hc => ?_) (fun hc => ?_)
  · rw [if_pos hc] at hF
    obtain ⟨v7, ev7, hF⟩ := bl_o hF
    refine lv_iinc (pc := 1805) (k := 3) (v := v7) hx hb dL_law_1805 hl rfl ev7 (by decide) rfl (fun ls hl => ?_)
    replace hl : lv_has ls 4 [(3, .int v7), (0, .ref b), (1, .ref (B + ax)), (2, .ref (B + am))] := hl
    refine lv_goto (pc := 1808) (tgt := 18) hx hb dL_law_1808 (by decide) ?_
    refine W.widen (k := 775 + 57 * (j + 1)) (n := 16739 + 614 * (j + 1)) (lw0 j).1 (lw0 j).2 ?_
    exact hB _ _ _ _ _ ev7 P (lv_sub hl [1, 2, 3, 0] rfl) hF.symm
  · rw [if_neg hc] at hF
    refine lv_iconst (pc := 728) (v := 0) hx hb dL_law_728 (by decide) ?_
    exact absurd (Option.some.inj hF).symm (hE _)
def F_law_c16 (L : Nat) (xs : Nat → Int32) (ax am : Nat) (vi : Int32) (h : Hp) : Option ((Int32 × Hp) ⊕ ((Int32 × Hp) ⊕ Hp)) :=
(scX L xs (vi + 1)).bind fun v1 =>
(cO h ax 9 (F_X9_tick h ax v1)).bind (un fun v2 h3 =>
(scX L xs (vi + 1)).bind fun v4 =>
(cO h3 am 10 (F_X10_tick h3 am v4)).bind (un fun v5 h6 =>
if v2 = v5 then (
bl (vi + 5) fun v7 =>
some (.inl (v7, h6))) else (
some (.inr (.inl (0, h6))))))
set_option maxRecDepth 100000 in
set_option maxHeartbeats 4000000 in
theorem w_law_c16 {p : Program} {l : Launch} {e : Env} {s : State} {m : MethodId} {args : Array Value} {below : List Frame} {meth : Method} {c : Code} {Q : State → Prop} {G : GG} {B b L : Nat} {xs : Nat → Int32} (CX : Cxt p m c code 4 s args RL G B) (SC : SCr b L xs s B) {ax am : Nat} {vi : Int32} {h : Hp} {j : Nat} {z : (Int32 × Hp) ⊕ ((Int32 × Hp) ⊕ Hp)} {H : Heap} {locs : List Loc} {ls : Array Slot} (hj : j < 512) (P : Pic G B h s H locs) (hl : lv_has ls 4 [(0, .ref b), (1, .ref (B + ax)), (2, .ref (B + am)), (3, .int vi)]) (hF : F_law_c16 L xs ax am vi h = some z)
    (hB : ∀ (v : Int32) (h1 : Hp) (H : Heap) (locs : List Loc) (ls : Array Slot), vi + 5 = v → Pic G B h1 s H locs → lv_has ls 4 [(0, .ref b), (1, .ref (B + ax)), (2, .ref (B + am)), (3, .int v)] → some z = some (.inl (v, h1)) → W p l e room_1 s m args below meth c H locs (775 + 57 * (j + 1)) (16739 + 614 * (j + 1)) Q (F0 m 18 ls []))
    (hE : ∀ h1, ¬ z = .inr (.inl (0, h1))) : W p l e room_1 s m args below meth c H locs (775 + 57 * j) (16739 + 614 * j) Q (F0 m 730 ls []) := by
  obtain ⟨⟨hx, hb, hml, hown, hts⟩, -, -⟩ := id CX
  unfold F_law_c16 at hF
  refine lv_aload_n (pc := 730) hx hb dL_law_730 rfl (lv_at hl 1 rfl) ?_
  refine lv_aload_n (pc := 731) hx hb dL_law_731 rfl (lv_at hl 0 rfl) ?_
  refine lv_iload_n (pc := 732) hx hb dL_law_732 rfl (lv_at hl 3 rfl) ?_
  refine lv_iconst (pc := 733) (v := 1) hx hb dL_law_733 (by decide) ?_
  refine lv_iadd (pc := 734) hx hb dL_law_734 ?_
  refine r_sc (pc := 735) CX P SC hF dL_law_735 (fun v1 hF => ?_)
  refine r_cVi (pc := 736) (As := [.int v1]) (rest := []) CX P hl.1 hF kv_L_80 (fun r h1 q => c_X9_tick l G B _ _ _ _ _ q) rfl rfl ⟨Nat.le_of_ble_eq_true rfl, Nat.le_of_ble_eq_true rfl⟩ (Nat.le_of_ble_eq_true rfl) (lf0 hj) dL_law_736 (fun v2 h3 H locs P hF => ?_)
  replace hF := un_i hF
  refine lv_aload_n (pc := 739) hx hb dL_law_739 rfl (lv_at hl 2 rfl) ?_
  refine lv_aload_n (pc := 740) hx hb dL_law_740 rfl (lv_at hl 0 rfl) ?_
  refine lv_iload_n (pc := 741) hx hb dL_law_741 rfl (lv_at hl 3 rfl) ?_
  refine lv_iconst (pc := 742) (v := 1) hx hb dL_law_742 (by decide) ?_
  refine lv_iadd (pc := 743) hx hb dL_law_743 ?_
  refine r_sc (pc := 744) CX P SC hF dL_law_744 (fun v4 hF => ?_)
  refine r_cVi (pc := 745) (As := [.int v4]) (rest := [.int v2]) CX P hl.1 hF kv_L_83 (fun r h1 q => c_X10_tick l G B _ _ _ _ _ q) rfl rfl ⟨Nat.le_of_ble_eq_true rfl, Nat.le_of_ble_eq_true rfl⟩ (Nat.le_of_ble_eq_true rfl) (lf0 hj) dL_law_745 (fun v5 h6 H locs P hF => ?_)
  replace hF := un_i hF
  refine lv_icmp_eq (pc := 748) (tgt := 1805) hx hb dL_law_748 (by decide) (fun hc => ?_) (fun hc => ?_)
  · rw [if_pos hc] at hF
    obtain ⟨v7, ev7, hF⟩ := bl_o hF
    refine lv_iinc (pc := 1805) (k := 3) (v := v7) hx hb dL_law_1805 hl rfl ev7 (by decide) rfl (fun ls hl => ?_)
    replace hl : lv_has ls 4 [(3, .int v7), (0, .ref b), (1, .ref (B + ax)), (2, .ref (B + am))] := hl
    refine lv_goto (pc := 1808) (tgt := 18) hx hb dL_law_1808 (by decide) ?_
    refine W.widen (k := 775 + 57 * (j + 1)) (n := 16739 + 614 * (j + 1)) (lw0 j).1 (lw0 j).2 ?_
    exact hB _ _ _ _ _ ev7 P (lv_sub hl [1, 2, 3, 0] rfl) hF.symm
  · rw [if_neg hc] at hF
    refine lv_iconst (pc := 751) (v := 0) hx hb dL_law_751 (by decide) ?_
    exact absurd (Option.some.inj hF).symm (hE _)
def F_law_c17 (L : Nat) (xs : Nat → Int32) (ax am : Nat) (vi : Int32) (h : Hp) : Option ((Int32 × Hp) ⊕ ((Int32 × Hp) ⊕ Hp)) :=
(scX L xs (vi + 1)).bind fun v1 =>
(scX L xs (vi + 2)).bind fun v2 =>
(scX L xs (vi + 3)).bind fun v3 =>
(cO h ax 9 (F_X9_trigger h ax v1 v2 v3)).bind (un fun v4 h5 =>
(scX L xs (vi + 1)).bind fun v6 =>
(scX L xs (vi + 2)).bind fun v7 =>
(scX L xs (vi + 3)).bind fun v8 =>
(cO h5 am 10 (F_X10_trigger h5 am v6 v7 v8)).bind (un fun v9 h10 =>
if v4 = v9 then (
bl (vi + 5) fun v11 =>
some (.inl (v11, h10))) else (
some (.inr (.inl (0, h10))))))
set_option maxRecDepth 100000 in
set_option maxHeartbeats 4000000 in
theorem w_law_c17 {p : Program} {l : Launch} {e : Env} {s : State} {m : MethodId} {args : Array Value} {below : List Frame} {meth : Method} {c : Code} {Q : State → Prop} {G : GG} {B b L : Nat} {xs : Nat → Int32} (CX : Cxt p m c code 4 s args RL G B) (SC : SCr b L xs s B) {ax am : Nat} {vi : Int32} {h : Hp} {j : Nat} {z : (Int32 × Hp) ⊕ ((Int32 × Hp) ⊕ Hp)} {H : Heap} {locs : List Loc} {ls : Array Slot} (hj : j < 512) (P : Pic G B h s H locs) (hl : lv_has ls 4 [(0, .ref b), (1, .ref (B + ax)), (2, .ref (B + am)), (3, .int vi)]) (hF : F_law_c17 L xs ax am vi h = some z)
    (hB : ∀ (v : Int32) (h1 : Hp) (H : Heap) (locs : List Loc) (ls : Array Slot), vi + 5 = v → Pic G B h1 s H locs → lv_has ls 4 [(0, .ref b), (1, .ref (B + ax)), (2, .ref (B + am)), (3, .int v)] → some z = some (.inl (v, h1)) → W p l e room_1 s m args below meth c H locs (775 + 57 * (j + 1)) (16739 + 614 * (j + 1)) Q (F0 m 18 ls []))
    (hE : ∀ h1, ¬ z = .inr (.inl (0, h1))) : W p l e room_1 s m args below meth c H locs (775 + 57 * j) (16739 + 614 * j) Q (F0 m 753 ls []) := by
  obtain ⟨⟨hx, hb, hml, hown, hts⟩, -, -⟩ := id CX
  unfold F_law_c17 at hF
  refine lv_aload_n (pc := 753) hx hb dL_law_753 rfl (lv_at hl 1 rfl) ?_
  refine lv_aload_n (pc := 754) hx hb dL_law_754 rfl (lv_at hl 0 rfl) ?_
  refine lv_iload_n (pc := 755) hx hb dL_law_755 rfl (lv_at hl 3 rfl) ?_
  refine lv_iconst (pc := 756) (v := 1) hx hb dL_law_756 (by decide) ?_
  refine lv_iadd (pc := 757) hx hb dL_law_757 ?_
  refine r_sc (pc := 758) CX P SC hF dL_law_758 (fun v1 hF => ?_)
  refine lv_aload_n (pc := 759) hx hb dL_law_759 rfl (lv_at hl 0 rfl) ?_
  refine lv_iload_n (pc := 760) hx hb dL_law_760 rfl (lv_at hl 3 rfl) ?_
  refine lv_iconst (pc := 761) (v := 2) hx hb dL_law_761 (by decide) ?_
  refine lv_iadd (pc := 762) hx hb dL_law_762 ?_
  refine r_sc (pc := 763) CX P SC hF dL_law_763 (fun v2 hF => ?_)
  refine lv_aload_n (pc := 764) hx hb dL_law_764 rfl (lv_at hl 0 rfl) ?_
  refine lv_iload_n (pc := 765) hx hb dL_law_765 rfl (lv_at hl 3 rfl) ?_
  refine lv_iconst (pc := 766) (v := 3) hx hb dL_law_766 (by decide) ?_
  refine lv_iadd (pc := 767) hx hb dL_law_767 ?_
  refine r_sc (pc := 768) CX P SC hF dL_law_768 (fun v3 hF => ?_)
  refine r_cVi (pc := 769) (As := [.int v1, .int v2, .int v3]) (rest := []) CX P hl.1 hF kv_L_84 (fun r h1 q => c_X9_trigger l G B _ _ _ _ _ _ _ q) rfl rfl ⟨Nat.le_of_ble_eq_true rfl, Nat.le_of_ble_eq_true rfl⟩ (Nat.le_of_ble_eq_true rfl) (lf0 hj) dL_law_769 (fun v4 h5 H locs P hF => ?_)
  replace hF := un_i hF
  refine lv_aload_n (pc := 772) hx hb dL_law_772 rfl (lv_at hl 2 rfl) ?_
  refine lv_aload_n (pc := 773) hx hb dL_law_773 rfl (lv_at hl 0 rfl) ?_
  refine lv_iload_n (pc := 774) hx hb dL_law_774 rfl (lv_at hl 3 rfl) ?_
  refine lv_iconst (pc := 775) (v := 1) hx hb dL_law_775 (by decide) ?_
  refine lv_iadd (pc := 776) hx hb dL_law_776 ?_
  refine r_sc (pc := 777) CX P SC hF dL_law_777 (fun v6 hF => ?_)
  refine lv_aload_n (pc := 778) hx hb dL_law_778 rfl (lv_at hl 0 rfl) ?_
  refine lv_iload_n (pc := 779) hx hb dL_law_779 rfl (lv_at hl 3 rfl) ?_
  refine lv_iconst (pc := 780) (v := 2) hx hb dL_law_780 (by decide) ?_
  refine lv_iadd (pc := 781) hx hb dL_law_781 ?_
  refine r_sc (pc := 782) CX P SC hF dL_law_782 (fun v7 hF => ?_)
  refine lv_aload_n (pc := 783) hx hb dL_law_783 rfl (lv_at hl 0 rfl) ?_
  refine lv_iload_n (pc := 784) hx hb dL_law_784 rfl (lv_at hl 3 rfl) ?_
  refine lv_iconst (pc := 785) (v := 3) hx hb dL_law_785 (by decide) ?_
  refine lv_iadd (pc := 786) hx hb dL_law_786 ?_
  refine r_sc (pc := 787) CX P SC hF dL_law_787 (fun v8 hF => ?_)
  refine r_cVi (pc := 788) (As := [.int v6, .int v7, .int v8]) (rest := [.int v4]) CX P hl.1 hF kv_L_87 (fun r h1 q => c_X10_trigger l G B _ _ _ _ _ _ _ q) rfl rfl ⟨Nat.le_of_ble_eq_true rfl, Nat.le_of_ble_eq_true rfl⟩ (Nat.le_of_ble_eq_true rfl) (lf0 hj) dL_law_788 (fun v9 h10 H locs P hF => ?_)
  replace hF := un_i hF
  refine lv_icmp_eq (pc := 791) (tgt := 1805) hx hb dL_law_791 (by decide) (fun hc => ?_) (fun hc => ?_)
  · rw [if_pos hc] at hF
    obtain ⟨v11, ev11, hF⟩ := bl_o hF
    refine lv_iinc (pc := 1805) (k := 3) (v := v11) hx hb dL_law_1805 hl rfl ev11 (by decide) rfl (fun ls hl => ?_)
    replace hl : lv_has ls 4 [(3, .int v11), (0, .ref b), (1, .ref (B + ax)), (2, .ref (B + am))] := hl
    refine lv_goto (pc := 1808) (tgt := 18) hx hb dL_law_1808 (by decide) ?_
    refine W.widen (k := 775 + 57 * (j + 1)) (n := 16739 + 614 * (j + 1)) (lw0 j).1 (lw0 j).2 ?_
    exact hB _ _ _ _ _ ev11 P (lv_sub hl [1, 2, 3, 0] rfl) hF.symm
  · rw [if_neg hc] at hF
    refine lv_iconst (pc := 794) (v := 0) hx hb dL_law_794 (by decide) ?_
    exact absurd (Option.some.inj hF).symm (hE _)
def F_law_c18 (L : Nat) (xs : Nat → Int32) (ax am : Nat) (vi : Int32) (h : Hp) : Option ((Int32 × Hp) ⊕ ((Int32 × Hp) ⊕ Hp)) :=
(cO h ax 9 (F_X9_forget h ax)).bind (un fun v1 h2 =>
(cO h2 am 10 (F_X10_forget h2 am)).bind (un fun v3 h4 =>
if v1 = v3 then (
bl (vi + 5) fun v5 =>
some (.inl (v5, h4))) else (
some (.inr (.inl (0, h4))))))
set_option maxRecDepth 100000 in
set_option maxHeartbeats 4000000 in
theorem w_law_c18 {p : Program} {l : Launch} {e : Env} {s : State} {m : MethodId} {args : Array Value} {below : List Frame} {meth : Method} {c : Code} {Q : State → Prop} {G : GG} {B b L : Nat} {xs : Nat → Int32} (CX : Cxt p m c code 4 s args RL G B) (SC : SCr b L xs s B) {ax am : Nat} {vi : Int32} {h : Hp} {j : Nat} {z : (Int32 × Hp) ⊕ ((Int32 × Hp) ⊕ Hp)} {H : Heap} {locs : List Loc} {ls : Array Slot} (hj : j < 512) (P : Pic G B h s H locs) (hl : lv_has ls 4 [(0, .ref b), (1, .ref (B + ax)), (2, .ref (B + am)), (3, .int vi)]) (hF : F_law_c18 L xs ax am vi h = some z)
    (hB : ∀ (v : Int32) (h1 : Hp) (H : Heap) (locs : List Loc) (ls : Array Slot), vi + 5 = v → Pic G B h1 s H locs → lv_has ls 4 [(0, .ref b), (1, .ref (B + ax)), (2, .ref (B + am)), (3, .int v)] → some z = some (.inl (v, h1)) → W p l e room_1 s m args below meth c H locs (775 + 57 * (j + 1)) (16739 + 614 * (j + 1)) Q (F0 m 18 ls []))
    (hE : ∀ h1, ¬ z = .inr (.inl (0, h1))) : W p l e room_1 s m args below meth c H locs (775 + 57 * j) (16739 + 614 * j) Q (F0 m 796 ls []) := by
  obtain ⟨⟨hx, hb, hml, hown, hts⟩, -, -⟩ := id CX
  unfold F_law_c18 at hF
  refine lv_aload_n (pc := 796) hx hb dL_law_796 rfl (lv_at hl 1 rfl) ?_
  refine r_cVi (pc := 797) (As := []) (rest := []) CX P hl.1 hF kv_L_88 (fun r h1 q => c_X9_forget l G B _ _ _ _ q) rfl rfl ⟨Nat.le_of_ble_eq_true rfl, Nat.le_of_ble_eq_true rfl⟩ (Nat.le_of_ble_eq_true rfl) (lf0 hj) dL_law_797 (fun v1 h2 H locs P hF => ?_)
  replace hF := un_i hF
  refine lv_aload_n (pc := 800) hx hb dL_law_800 rfl (lv_at hl 2 rfl) ?_
  refine r_cVi (pc := 801) (As := []) (rest := [.int v1]) CX P hl.1 hF kv_L_92 (fun r h1 q => c_X10_forget l G B _ _ _ _ q) rfl rfl ⟨Nat.le_of_ble_eq_true rfl, Nat.le_of_ble_eq_true rfl⟩ (Nat.le_of_ble_eq_true rfl) (lf0 hj) dL_law_801 (fun v3 h4 H locs P hF => ?_)
  replace hF := un_i hF
  refine lv_icmp_eq (pc := 804) (tgt := 1805) hx hb dL_law_804 (by decide) (fun hc => ?_) (fun hc => ?_)
  · rw [if_pos hc] at hF
    obtain ⟨v5, ev5, hF⟩ := bl_o hF
    refine lv_iinc (pc := 1805) (k := 3) (v := v5) hx hb dL_law_1805 hl rfl ev5 (by decide) rfl (fun ls hl => ?_)
    replace hl : lv_has ls 4 [(3, .int v5), (0, .ref b), (1, .ref (B + ax)), (2, .ref (B + am))] := hl
    refine lv_goto (pc := 1808) (tgt := 18) hx hb dL_law_1808 (by decide) ?_
    refine W.widen (k := 775 + 57 * (j + 1)) (n := 16739 + 614 * (j + 1)) (lw0 j).1 (lw0 j).2 ?_
    exact hB _ _ _ _ _ ev5 P (lv_sub hl [1, 2, 3, 0] rfl) hF.symm
  · rw [if_neg hc] at hF
    refine lv_iconst (pc := 807) (v := 0) hx hb dL_law_807 (by decide) ?_
    exact absurd (Option.some.inj hF).symm (hE _)
def F_law_c19 (L : Nat) (xs : Nat → Int32) (ax am : Nat) (vi : Int32) (h : Hp) : Option ((Int32 × Hp) ⊕ ((Int32 × Hp) ⊕ Hp)) :=
(scX L xs (vi + 1)).bind fun v1 =>
(scX L xs (vi + 2)).bind fun v2 =>
(cO h ax 9 (F_X9_of h ax v1 v2)).bind fun v3 =>
(scX L xs (vi + 1)).bind fun v4 =>
(scX L xs (vi + 2)).bind fun v5 =>
(cO h am 10 (F_X10_of_ h am v4 v5)).bind (un fun v6 h7 =>
if v3 = v6 then (
bl (vi + 5) fun v8 =>
some (.inl (v8, h7))) else (
some (.inr (.inl (0, h7)))))
set_option maxRecDepth 100000 in
set_option maxHeartbeats 4000000 in
theorem w_law_c19 {p : Program} {l : Launch} {e : Env} {s : State} {m : MethodId} {args : Array Value} {below : List Frame} {meth : Method} {c : Code} {Q : State → Prop} {G : GG} {B b L : Nat} {xs : Nat → Int32} (CX : Cxt p m c code 4 s args RL G B) (SC : SCr b L xs s B) {ax am : Nat} {vi : Int32} {h : Hp} {j : Nat} {z : (Int32 × Hp) ⊕ ((Int32 × Hp) ⊕ Hp)} {H : Heap} {locs : List Loc} {ls : Array Slot} (hj : j < 512) (P : Pic G B h s H locs) (hl : lv_has ls 4 [(0, .ref b), (1, .ref (B + ax)), (2, .ref (B + am)), (3, .int vi)]) (hF : F_law_c19 L xs ax am vi h = some z)
    (hB : ∀ (v : Int32) (h1 : Hp) (H : Heap) (locs : List Loc) (ls : Array Slot), vi + 5 = v → Pic G B h1 s H locs → lv_has ls 4 [(0, .ref b), (1, .ref (B + ax)), (2, .ref (B + am)), (3, .int v)] → some z = some (.inl (v, h1)) → W p l e room_1 s m args below meth c H locs (775 + 57 * (j + 1)) (16739 + 614 * (j + 1)) Q (F0 m 18 ls []))
    (hE : ∀ h1, ¬ z = .inr (.inl (0, h1))) : W p l e room_1 s m args below meth c H locs (775 + 57 * j) (16739 + 614 * j) Q (F0 m 809 ls []) := by
  obtain ⟨⟨hx, hb, hml, hown, hts⟩, -, -⟩ := id CX
  unfold F_law_c19 at hF
  refine lv_aload_n (pc := 809) hx hb dL_law_809 rfl (lv_at hl 1 rfl) ?_
  refine lv_aload_n (pc := 810) hx hb dL_law_810 rfl (lv_at hl 0 rfl) ?_
  refine lv_iload_n (pc := 811) hx hb dL_law_811 rfl (lv_at hl 3 rfl) ?_
  refine lv_iconst (pc := 812) (v := 1) hx hb dL_law_812 (by decide) ?_
  refine lv_iadd (pc := 813) hx hb dL_law_813 ?_
  refine r_sc (pc := 814) CX P SC hF dL_law_814 (fun v1 hF => ?_)
  refine lv_aload_n (pc := 815) hx hb dL_law_815 rfl (lv_at hl 0 rfl) ?_
  refine lv_iload_n (pc := 816) hx hb dL_law_816 rfl (lv_at hl 3 rfl) ?_
  refine lv_iconst (pc := 817) (v := 2) hx hb dL_law_817 (by decide) ?_
  refine lv_iadd (pc := 818) hx hb dL_law_818 ?_
  refine r_sc (pc := 819) CX P SC hF dL_law_819 (fun v2 hF => ?_)
  refine r_cVp (pc := 820) (As := [.int v1, .int v2]) (rest := []) CX P hl.1 hF kv_L_93 (fun r q => c_X9_of l G B _ _ _ _ _ q) rfl rfl ⟨Nat.le_of_ble_eq_true rfl, Nat.le_of_ble_eq_true rfl⟩ (Nat.le_of_ble_eq_true rfl) (lf0 hj) dL_law_820 (fun v3 H locs P hF => ?_)
  refine lv_aload_n (pc := 823) hx hb dL_law_823 rfl (lv_at hl 2 rfl) ?_
  refine lv_aload_n (pc := 824) hx hb dL_law_824 rfl (lv_at hl 0 rfl) ?_
  refine lv_iload_n (pc := 825) hx hb dL_law_825 rfl (lv_at hl 3 rfl) ?_
  refine lv_iconst (pc := 826) (v := 1) hx hb dL_law_826 (by decide) ?_
  refine lv_iadd (pc := 827) hx hb dL_law_827 ?_
  refine r_sc (pc := 828) CX P SC hF dL_law_828 (fun v4 hF => ?_)
  refine lv_aload_n (pc := 829) hx hb dL_law_829 rfl (lv_at hl 0 rfl) ?_
  refine lv_iload_n (pc := 830) hx hb dL_law_830 rfl (lv_at hl 3 rfl) ?_
  refine lv_iconst (pc := 831) (v := 2) hx hb dL_law_831 (by decide) ?_
  refine lv_iadd (pc := 832) hx hb dL_law_832 ?_
  refine r_sc (pc := 833) CX P SC hF dL_law_833 (fun v5 hF => ?_)
  refine r_cVi (pc := 834) (As := [.int v4, .int v5]) (rest := [.int v3]) CX P hl.1 hF kv_L_96 (fun r h1 q => c_X10_of_ l G B _ _ _ _ _ _ q) rfl rfl ⟨Nat.le_of_ble_eq_true rfl, Nat.le_of_ble_eq_true rfl⟩ (Nat.le_of_ble_eq_true rfl) (lf0 hj) dL_law_834 (fun v6 h7 H locs P hF => ?_)
  replace hF := un_i hF
  refine lv_icmp_eq (pc := 837) (tgt := 1805) hx hb dL_law_837 (by decide) (fun hc => ?_) (fun hc => ?_)
  · rw [if_pos hc] at hF
    obtain ⟨v8, ev8, hF⟩ := bl_o hF
    refine lv_iinc (pc := 1805) (k := 3) (v := v8) hx hb dL_law_1805 hl rfl ev8 (by decide) rfl (fun ls hl => ?_)
    replace hl : lv_has ls 4 [(3, .int v8), (0, .ref b), (1, .ref (B + ax)), (2, .ref (B + am))] := hl
    refine lv_goto (pc := 1808) (tgt := 18) hx hb dL_law_1808 (by decide) ?_
    refine W.widen (k := 775 + 57 * (j + 1)) (n := 16739 + 614 * (j + 1)) (lw0 j).1 (lw0 j).2 ?_
    exact hB _ _ _ _ _ ev8 P (lv_sub hl [1, 2, 3, 0] rfl) hF.symm
  · rw [if_neg hc] at hF
    refine lv_iconst (pc := 840) (v := 0) hx hb dL_law_840 (by decide) ?_
    exact absurd (Option.some.inj hF).symm (hE _)
def F_law_c20 (L : Nat) (xs : Nat → Int32) (ax am : Nat) (vi : Int32) (h : Hp) : Option ((Int32 × Hp) ⊕ ((Int32 × Hp) ⊕ Hp)) :=
(scX L xs (vi + 1)).bind fun v1 =>
(scX L xs (vi + 2)).bind fun v2 =>
(cO h ax 9 (F_X9_proc h ax v1 v2)).bind fun v3 =>
(scX L xs (vi + 1)).bind fun v4 =>
(scX L xs (vi + 2)).bind fun v5 =>
(cO h am 10 (F_X10_proc h am v4 v5)).bind (un fun v6 h7 =>
if v3 = v6 then (
bl (vi + 5) fun v8 =>
some (.inl (v8, h7))) else (
some (.inr (.inl (0, h7)))))
set_option maxRecDepth 100000 in
set_option maxHeartbeats 4000000 in
theorem w_law_c20 {p : Program} {l : Launch} {e : Env} {s : State} {m : MethodId} {args : Array Value} {below : List Frame} {meth : Method} {c : Code} {Q : State → Prop} {G : GG} {B b L : Nat} {xs : Nat → Int32} (CX : Cxt p m c code 4 s args RL G B) (SC : SCr b L xs s B) {ax am : Nat} {vi : Int32} {h : Hp} {j : Nat} {z : (Int32 × Hp) ⊕ ((Int32 × Hp) ⊕ Hp)} {H : Heap} {locs : List Loc} {ls : Array Slot} (hj : j < 512) (P : Pic G B h s H locs) (hl : lv_has ls 4 [(0, .ref b), (1, .ref (B + ax)), (2, .ref (B + am)), (3, .int vi)]) (hF : F_law_c20 L xs ax am vi h = some z)
    (hB : ∀ (v : Int32) (h1 : Hp) (H : Heap) (locs : List Loc) (ls : Array Slot), vi + 5 = v → Pic G B h1 s H locs → lv_has ls 4 [(0, .ref b), (1, .ref (B + ax)), (2, .ref (B + am)), (3, .int v)] → some z = some (.inl (v, h1)) → W p l e room_1 s m args below meth c H locs (775 + 57 * (j + 1)) (16739 + 614 * (j + 1)) Q (F0 m 18 ls []))
    (hE : ∀ h1, ¬ z = .inr (.inl (0, h1))) : W p l e room_1 s m args below meth c H locs (775 + 57 * j) (16739 + 614 * j) Q (F0 m 842 ls []) := by
  obtain ⟨⟨hx, hb, hml, hown, hts⟩, -, -⟩ := id CX
  unfold F_law_c20 at hF
  refine lv_aload_n (pc := 842) hx hb dL_law_842 rfl (lv_at hl 1 rfl) ?_
  refine lv_aload_n (pc := 843) hx hb dL_law_843 rfl (lv_at hl 0 rfl) ?_
  refine lv_iload_n (pc := 844) hx hb dL_law_844 rfl (lv_at hl 3 rfl) ?_
  refine lv_iconst (pc := 845) (v := 1) hx hb dL_law_845 (by decide) ?_
  refine lv_iadd (pc := 846) hx hb dL_law_846 ?_
  refine r_sc (pc := 847) CX P SC hF dL_law_847 (fun v1 hF => ?_)
  refine lv_aload_n (pc := 848) hx hb dL_law_848 rfl (lv_at hl 0 rfl) ?_
  refine lv_iload_n (pc := 849) hx hb dL_law_849 rfl (lv_at hl 3 rfl) ?_
  refine lv_iconst (pc := 850) (v := 2) hx hb dL_law_850 (by decide) ?_
  refine lv_iadd (pc := 851) hx hb dL_law_851 ?_
  refine r_sc (pc := 852) CX P SC hF dL_law_852 (fun v2 hF => ?_)
  refine r_cVp (pc := 853) (As := [.int v1, .int v2]) (rest := []) CX P hl.1 hF kv_L_97 (fun r q => c_X9_proc l G B _ _ _ _ _ q) rfl rfl ⟨Nat.le_of_ble_eq_true rfl, Nat.le_of_ble_eq_true rfl⟩ (Nat.le_of_ble_eq_true rfl) (lf0 hj) dL_law_853 (fun v3 H locs P hF => ?_)
  refine lv_aload_n (pc := 856) hx hb dL_law_856 rfl (lv_at hl 2 rfl) ?_
  refine lv_aload_n (pc := 857) hx hb dL_law_857 rfl (lv_at hl 0 rfl) ?_
  refine lv_iload_n (pc := 858) hx hb dL_law_858 rfl (lv_at hl 3 rfl) ?_
  refine lv_iconst (pc := 859) (v := 1) hx hb dL_law_859 (by decide) ?_
  refine lv_iadd (pc := 860) hx hb dL_law_860 ?_
  refine r_sc (pc := 861) CX P SC hF dL_law_861 (fun v4 hF => ?_)
  refine lv_aload_n (pc := 862) hx hb dL_law_862 rfl (lv_at hl 0 rfl) ?_
  refine lv_iload_n (pc := 863) hx hb dL_law_863 rfl (lv_at hl 3 rfl) ?_
  refine lv_iconst (pc := 864) (v := 2) hx hb dL_law_864 (by decide) ?_
  refine lv_iadd (pc := 865) hx hb dL_law_865 ?_
  refine r_sc (pc := 866) CX P SC hF dL_law_866 (fun v5 hF => ?_)
  refine r_cVi (pc := 867) (As := [.int v4, .int v5]) (rest := [.int v3]) CX P hl.1 hF kv_L_100 (fun r h1 q => c_X10_proc l G B _ _ _ _ _ _ q) rfl rfl ⟨Nat.le_of_ble_eq_true rfl, Nat.le_of_ble_eq_true rfl⟩ (Nat.le_of_ble_eq_true rfl) (lf0 hj) dL_law_867 (fun v6 h7 H locs P hF => ?_)
  replace hF := un_i hF
  refine lv_icmp_eq (pc := 870) (tgt := 1805) hx hb dL_law_870 (by decide) (fun hc => ?_) (fun hc => ?_)
  · rw [if_pos hc] at hF
    obtain ⟨v8, ev8, hF⟩ := bl_o hF
    refine lv_iinc (pc := 1805) (k := 3) (v := v8) hx hb dL_law_1805 hl rfl ev8 (by decide) rfl (fun ls hl => ?_)
    replace hl : lv_has ls 4 [(3, .int v8), (0, .ref b), (1, .ref (B + ax)), (2, .ref (B + am))] := hl
    refine lv_goto (pc := 1808) (tgt := 18) hx hb dL_law_1808 (by decide) ?_
    refine W.widen (k := 775 + 57 * (j + 1)) (n := 16739 + 614 * (j + 1)) (lw0 j).1 (lw0 j).2 ?_
    exact hB _ _ _ _ _ ev8 P (lv_sub hl [1, 2, 3, 0] rfl) hF.symm
  · rw [if_neg hc] at hF
    refine lv_iconst (pc := 873) (v := 0) hx hb dL_law_873 (by decide) ?_
    exact absurd (Option.some.inj hF).symm (hE _)
def F_law_c21 (L : Nat) (xs : Nat → Int32) (ax am : Nat) (vi : Int32) (h : Hp) : Option ((Int32 × Hp) ⊕ ((Int32 × Hp) ⊕ Hp)) :=
(scX L xs (vi + 1)).bind fun v1 =>
(scX L xs (vi + 2)).bind fun v2 =>
(scX L xs (vi + 3)).bind fun v3 =>
(cO h ax 9 (F_X9_share h ax v1 v2 v3)).bind (un fun v4 h5 =>
(scX L xs (vi + 1)).bind fun v6 =>
(scX L xs (vi + 2)).bind fun v7 =>
(scX L xs (vi + 3)).bind fun v8 =>
(cO h5 am 10 (F_X10_share h5 am v6 v7 v8)).bind (un fun v9 h10 =>
if v4 = v9 then (
bl (vi + 5) fun v11 =>
some (.inl (v11, h10))) else (
some (.inr (.inl (0, h10))))))
set_option maxRecDepth 100000 in
set_option maxHeartbeats 4000000 in
theorem w_law_c21 {p : Program} {l : Launch} {e : Env} {s : State} {m : MethodId} {args : Array Value} {below : List Frame} {meth : Method} {c : Code} {Q : State → Prop} {G : GG} {B b L : Nat} {xs : Nat → Int32} (CX : Cxt p m c code 4 s args RL G B) (SC : SCr b L xs s B) {ax am : Nat} {vi : Int32} {h : Hp} {j : Nat} {z : (Int32 × Hp) ⊕ ((Int32 × Hp) ⊕ Hp)} {H : Heap} {locs : List Loc} {ls : Array Slot} (hj : j < 512) (P : Pic G B h s H locs) (hl : lv_has ls 4 [(0, .ref b), (1, .ref (B + ax)), (2, .ref (B + am)), (3, .int vi)]) (hF : F_law_c21 L xs ax am vi h = some z)
    (hB : ∀ (v : Int32) (h1 : Hp) (H : Heap) (locs : List Loc) (ls : Array Slot), vi + 5 = v → Pic G B h1 s H locs → lv_has ls 4 [(0, .ref b), (1, .ref (B + ax)), (2, .ref (B + am)), (3, .int v)] → some z = some (.inl (v, h1)) → W p l e room_1 s m args below meth c H locs (775 + 57 * (j + 1)) (16739 + 614 * (j + 1)) Q (F0 m 18 ls []))
    (hE : ∀ h1, ¬ z = .inr (.inl (0, h1))) : W p l e room_1 s m args below meth c H locs (775 + 57 * j) (16739 + 614 * j) Q (F0 m 875 ls []) := by
  obtain ⟨⟨hx, hb, hml, hown, hts⟩, -, -⟩ := id CX
  unfold F_law_c21 at hF
  refine lv_aload_n (pc := 875) hx hb dL_law_875 rfl (lv_at hl 1 rfl) ?_
  refine lv_aload_n (pc := 876) hx hb dL_law_876 rfl (lv_at hl 0 rfl) ?_
  refine lv_iload_n (pc := 877) hx hb dL_law_877 rfl (lv_at hl 3 rfl) ?_
  refine lv_iconst (pc := 878) (v := 1) hx hb dL_law_878 (by decide) ?_
  refine lv_iadd (pc := 879) hx hb dL_law_879 ?_
  refine r_sc (pc := 880) CX P SC hF dL_law_880 (fun v1 hF => ?_)
  refine lv_aload_n (pc := 881) hx hb dL_law_881 rfl (lv_at hl 0 rfl) ?_
  refine lv_iload_n (pc := 882) hx hb dL_law_882 rfl (lv_at hl 3 rfl) ?_
  refine lv_iconst (pc := 883) (v := 2) hx hb dL_law_883 (by decide) ?_
  refine lv_iadd (pc := 884) hx hb dL_law_884 ?_
  refine r_sc (pc := 885) CX P SC hF dL_law_885 (fun v2 hF => ?_)
  refine lv_aload_n (pc := 886) hx hb dL_law_886 rfl (lv_at hl 0 rfl) ?_
  refine lv_iload_n (pc := 887) hx hb dL_law_887 rfl (lv_at hl 3 rfl) ?_
  refine lv_iconst (pc := 888) (v := 3) hx hb dL_law_888 (by decide) ?_
  refine lv_iadd (pc := 889) hx hb dL_law_889 ?_
  refine r_sc (pc := 890) CX P SC hF dL_law_890 (fun v3 hF => ?_)
  refine r_cVi (pc := 891) (As := [.int v1, .int v2, .int v3]) (rest := []) CX P hl.1 hF kv_L_101 (fun r h1 q => c_X9_share l G B _ _ _ _ _ _ _ q) rfl rfl ⟨Nat.le_of_ble_eq_true rfl, Nat.le_of_ble_eq_true rfl⟩ (Nat.le_of_ble_eq_true rfl) (lf0 hj) dL_law_891 (fun v4 h5 H locs P hF => ?_)
  replace hF := un_i hF
  refine lv_aload_n (pc := 894) hx hb dL_law_894 rfl (lv_at hl 2 rfl) ?_
  refine lv_aload_n (pc := 895) hx hb dL_law_895 rfl (lv_at hl 0 rfl) ?_
  refine lv_iload_n (pc := 896) hx hb dL_law_896 rfl (lv_at hl 3 rfl) ?_
  refine lv_iconst (pc := 897) (v := 1) hx hb dL_law_897 (by decide) ?_
  refine lv_iadd (pc := 898) hx hb dL_law_898 ?_
  refine r_sc (pc := 899) CX P SC hF dL_law_899 (fun v6 hF => ?_)
  refine lv_aload_n (pc := 900) hx hb dL_law_900 rfl (lv_at hl 0 rfl) ?_
  refine lv_iload_n (pc := 901) hx hb dL_law_901 rfl (lv_at hl 3 rfl) ?_
  refine lv_iconst (pc := 902) (v := 2) hx hb dL_law_902 (by decide) ?_
  refine lv_iadd (pc := 903) hx hb dL_law_903 ?_
  refine r_sc (pc := 904) CX P SC hF dL_law_904 (fun v7 hF => ?_)
  refine lv_aload_n (pc := 905) hx hb dL_law_905 rfl (lv_at hl 0 rfl) ?_
  refine lv_iload_n (pc := 906) hx hb dL_law_906 rfl (lv_at hl 3 rfl) ?_
  refine lv_iconst (pc := 907) (v := 3) hx hb dL_law_907 (by decide) ?_
  refine lv_iadd (pc := 908) hx hb dL_law_908 ?_
  refine r_sc (pc := 909) CX P SC hF dL_law_909 (fun v8 hF => ?_)
  refine r_cVi (pc := 910) (As := [.int v6, .int v7, .int v8]) (rest := [.int v4]) CX P hl.1 hF kv_L_104 (fun r h1 q => c_X10_share l G B _ _ _ _ _ _ _ q) rfl rfl ⟨Nat.le_of_ble_eq_true rfl, Nat.le_of_ble_eq_true rfl⟩ (Nat.le_of_ble_eq_true rfl) (lf0 hj) dL_law_910 (fun v9 h10 H locs P hF => ?_)
  replace hF := un_i hF
  refine lv_icmp_eq (pc := 913) (tgt := 1805) hx hb dL_law_913 (by decide) (fun hc => ?_) (fun hc => ?_)
  · rw [if_pos hc] at hF
    obtain ⟨v11, ev11, hF⟩ := bl_o hF
    refine lv_iinc (pc := 1805) (k := 3) (v := v11) hx hb dL_law_1805 hl rfl ev11 (by decide) rfl (fun ls hl => ?_)
    replace hl : lv_has ls 4 [(3, .int v11), (0, .ref b), (1, .ref (B + ax)), (2, .ref (B + am))] := hl
    refine lv_goto (pc := 1808) (tgt := 18) hx hb dL_law_1808 (by decide) ?_
    refine W.widen (k := 775 + 57 * (j + 1)) (n := 16739 + 614 * (j + 1)) (lw0 j).1 (lw0 j).2 ?_
    exact hB _ _ _ _ _ ev11 P (lv_sub hl [1, 2, 3, 0] rfl) hF.symm
  · rw [if_neg hc] at hF
    refine lv_iconst (pc := 916) (v := 0) hx hb dL_law_916 (by decide) ?_
    exact absurd (Option.some.inj hF).symm (hE _)
def F_law_c22 (L : Nat) (xs : Nat → Int32) (ax am : Nat) (vi : Int32) (h : Hp) : Option ((Int32 × Hp) ⊕ ((Int32 × Hp) ⊕ Hp)) :=
(scX L xs (vi + 1)).bind fun v1 =>
(scX L xs (vi + 2)).bind fun v2 =>
(scX L xs (vi + 3)).bind fun v3 =>
(scX L xs (vi + 4)).bind fun v4 =>
(cO h ax 9 (F_X9_spare h ax v1 v2 v3 v4)).bind (un fun v5 h6 =>
(scX L xs (vi + 1)).bind fun v7 =>
(scX L xs (vi + 2)).bind fun v8 =>
(scX L xs (vi + 3)).bind fun v9 =>
(scX L xs (vi + 4)).bind fun v10 =>
(cO h6 am 10 (F_X10_spare h6 am v7 v8 v9 v10)).bind (un fun v11 h12 =>
if v5 = v11 then (
bl (vi + 5) fun v13 =>
some (.inl (v13, h12))) else (
some (.inr (.inl (0, h12))))))
set_option maxRecDepth 100000 in
set_option maxHeartbeats 4000000 in
theorem w_law_c22 {p : Program} {l : Launch} {e : Env} {s : State} {m : MethodId} {args : Array Value} {below : List Frame} {meth : Method} {c : Code} {Q : State → Prop} {G : GG} {B b L : Nat} {xs : Nat → Int32} (CX : Cxt p m c code 4 s args RL G B) (SC : SCr b L xs s B) {ax am : Nat} {vi : Int32} {h : Hp} {j : Nat} {z : (Int32 × Hp) ⊕ ((Int32 × Hp) ⊕ Hp)} {H : Heap} {locs : List Loc} {ls : Array Slot} (hj : j < 512) (P : Pic G B h s H locs) (hl : lv_has ls 4 [(0, .ref b), (1, .ref (B + ax)), (2, .ref (B + am)), (3, .int vi)]) (hF : F_law_c22 L xs ax am vi h = some z)
    (hB : ∀ (v : Int32) (h1 : Hp) (H : Heap) (locs : List Loc) (ls : Array Slot), vi + 5 = v → Pic G B h1 s H locs → lv_has ls 4 [(0, .ref b), (1, .ref (B + ax)), (2, .ref (B + am)), (3, .int v)] → some z = some (.inl (v, h1)) → W p l e room_1 s m args below meth c H locs (775 + 57 * (j + 1)) (16739 + 614 * (j + 1)) Q (F0 m 18 ls []))
    (hE : ∀ h1, ¬ z = .inr (.inl (0, h1))) : W p l e room_1 s m args below meth c H locs (775 + 57 * j) (16739 + 614 * j) Q (F0 m 918 ls []) := by
  obtain ⟨⟨hx, hb, hml, hown, hts⟩, -, -⟩ := id CX
  unfold F_law_c22 at hF
  refine lv_aload_n (pc := 918) hx hb dL_law_918 rfl (lv_at hl 1 rfl) ?_
  refine lv_aload_n (pc := 919) hx hb dL_law_919 rfl (lv_at hl 0 rfl) ?_
  refine lv_iload_n (pc := 920) hx hb dL_law_920 rfl (lv_at hl 3 rfl) ?_
  refine lv_iconst (pc := 921) (v := 1) hx hb dL_law_921 (by decide) ?_
  refine lv_iadd (pc := 922) hx hb dL_law_922 ?_
  refine r_sc (pc := 923) CX P SC hF dL_law_923 (fun v1 hF => ?_)
  refine lv_aload_n (pc := 924) hx hb dL_law_924 rfl (lv_at hl 0 rfl) ?_
  refine lv_iload_n (pc := 925) hx hb dL_law_925 rfl (lv_at hl 3 rfl) ?_
  refine lv_iconst (pc := 926) (v := 2) hx hb dL_law_926 (by decide) ?_
  refine lv_iadd (pc := 927) hx hb dL_law_927 ?_
  refine r_sc (pc := 928) CX P SC hF dL_law_928 (fun v2 hF => ?_)
  refine lv_aload_n (pc := 929) hx hb dL_law_929 rfl (lv_at hl 0 rfl) ?_
  refine lv_iload_n (pc := 930) hx hb dL_law_930 rfl (lv_at hl 3 rfl) ?_
  refine lv_iconst (pc := 931) (v := 3) hx hb dL_law_931 (by decide) ?_
  refine lv_iadd (pc := 932) hx hb dL_law_932 ?_
  refine r_sc (pc := 933) CX P SC hF dL_law_933 (fun v3 hF => ?_)
  refine lv_aload_n (pc := 934) hx hb dL_law_934 rfl (lv_at hl 0 rfl) ?_
  refine lv_iload_n (pc := 935) hx hb dL_law_935 rfl (lv_at hl 3 rfl) ?_
  refine lv_iconst (pc := 936) (v := 4) hx hb dL_law_936 (by decide) ?_
  refine lv_iadd (pc := 937) hx hb dL_law_937 ?_
  refine r_sc (pc := 938) CX P SC hF dL_law_938 (fun v4 hF => ?_)
  refine r_cVi (pc := 939) (As := [.int v1, .int v2, .int v3, .int v4]) (rest := []) CX P hl.1 hF kv_L_105 (fun r h1 q => c_X9_spare l G B _ _ _ _ _ _ _ _ q) rfl rfl ⟨Nat.le_of_ble_eq_true rfl, Nat.le_of_ble_eq_true rfl⟩ (Nat.le_of_ble_eq_true rfl) (lf0 hj) dL_law_939 (fun v5 h6 H locs P hF => ?_)
  replace hF := un_i hF
  refine lv_aload_n (pc := 942) hx hb dL_law_942 rfl (lv_at hl 2 rfl) ?_
  refine lv_aload_n (pc := 943) hx hb dL_law_943 rfl (lv_at hl 0 rfl) ?_
  refine lv_iload_n (pc := 944) hx hb dL_law_944 rfl (lv_at hl 3 rfl) ?_
  refine lv_iconst (pc := 945) (v := 1) hx hb dL_law_945 (by decide) ?_
  refine lv_iadd (pc := 946) hx hb dL_law_946 ?_
  refine r_sc (pc := 947) CX P SC hF dL_law_947 (fun v7 hF => ?_)
  refine lv_aload_n (pc := 948) hx hb dL_law_948 rfl (lv_at hl 0 rfl) ?_
  refine lv_iload_n (pc := 949) hx hb dL_law_949 rfl (lv_at hl 3 rfl) ?_
  refine lv_iconst (pc := 950) (v := 2) hx hb dL_law_950 (by decide) ?_
  refine lv_iadd (pc := 951) hx hb dL_law_951 ?_
  refine r_sc (pc := 952) CX P SC hF dL_law_952 (fun v8 hF => ?_)
  refine lv_aload_n (pc := 953) hx hb dL_law_953 rfl (lv_at hl 0 rfl) ?_
  refine lv_iload_n (pc := 954) hx hb dL_law_954 rfl (lv_at hl 3 rfl) ?_
  refine lv_iconst (pc := 955) (v := 3) hx hb dL_law_955 (by decide) ?_
  refine lv_iadd (pc := 956) hx hb dL_law_956 ?_
  refine r_sc (pc := 957) CX P SC hF dL_law_957 (fun v9 hF => ?_)
  refine lv_aload_n (pc := 958) hx hb dL_law_958 rfl (lv_at hl 0 rfl) ?_
  refine lv_iload_n (pc := 959) hx hb dL_law_959 rfl (lv_at hl 3 rfl) ?_
  refine lv_iconst (pc := 960) (v := 4) hx hb dL_law_960 (by decide) ?_
  refine lv_iadd (pc := 961) hx hb dL_law_961 ?_
  refine r_sc (pc := 962) CX P SC hF dL_law_962 (fun v10 hF => ?_)
  refine r_cVi (pc := 963) (As := [.int v7, .int v8, .int v9, .int v10]) (rest := [.int v5]) CX P hl.1 hF kv_L_109 (fun r h1 q => c_X10_spare l G B _ _ _ _ _ _ _ _ q) rfl rfl ⟨Nat.le_of_ble_eq_true rfl, Nat.le_of_ble_eq_true rfl⟩ (Nat.le_of_ble_eq_true rfl) (lf0 hj) dL_law_963 (fun v11 h12 H locs P hF => ?_)
  replace hF := un_i hF
  refine lv_icmp_eq (pc := 966) (tgt := 1805) hx hb dL_law_966 (by decide) (fun hc => ?_) (fun hc => ?_)
  · rw [if_pos hc] at hF
    obtain ⟨v13, ev13, hF⟩ := bl_o hF
    refine lv_iinc (pc := 1805) (k := 3) (v := v13) hx hb dL_law_1805 hl rfl ev13 (by decide) rfl (fun ls hl => ?_)
    replace hl : lv_has ls 4 [(3, .int v13), (0, .ref b), (1, .ref (B + ax)), (2, .ref (B + am))] := hl
    refine lv_goto (pc := 1808) (tgt := 18) hx hb dL_law_1808 (by decide) ?_
    refine W.widen (k := 775 + 57 * (j + 1)) (n := 16739 + 614 * (j + 1)) (lw0 j).1 (lw0 j).2 ?_
    exact hB _ _ _ _ _ ev13 P (lv_sub hl [1, 2, 3, 0] rfl) hF.symm
  · rw [if_neg hc] at hF
    refine lv_iconst (pc := 969) (v := 0) hx hb dL_law_969 (by decide) ?_
    exact absurd (Option.some.inj hF).symm (hE _)
def F_law_c23 (L : Nat) (xs : Nat → Int32) (ax am : Nat) (vi : Int32) (h : Hp) : Option ((Int32 × Hp) ⊕ ((Int32 × Hp) ⊕ Hp)) :=
(scX L xs (vi + 1)).bind fun v1 =>
(scX L xs (vi + 2)).bind fun v2 =>
(scX L xs (vi + 3)).bind fun v3 =>
(cO h ax 9 (F_X9_next h ax v1 v2 v3)).bind (un fun v4 h5 =>
(scX L xs (vi + 1)).bind fun v6 =>
(scX L xs (vi + 2)).bind fun v7 =>
(scX L xs (vi + 3)).bind fun v8 =>
(cO h5 am 10 (F_X10_next h5 am v6 v7 v8)).bind (un fun v9 h10 =>
if v4 = v9 then (
bl (vi + 5) fun v11 =>
some (.inl (v11, h10))) else (
some (.inr (.inl (0, h10))))))
set_option maxRecDepth 100000 in
set_option maxHeartbeats 4000000 in
theorem w_law_c23 {p : Program} {l : Launch} {e : Env} {s : State} {m : MethodId} {args : Array Value} {below : List Frame} {meth : Method} {c : Code} {Q : State → Prop} {G : GG} {B b L : Nat} {xs : Nat → Int32} (CX : Cxt p m c code 4 s args RL G B) (SC : SCr b L xs s B) {ax am : Nat} {vi : Int32} {h : Hp} {j : Nat} {z : (Int32 × Hp) ⊕ ((Int32 × Hp) ⊕ Hp)} {H : Heap} {locs : List Loc} {ls : Array Slot} (hj : j < 512) (P : Pic G B h s H locs) (hl : lv_has ls 4 [(0, .ref b), (1, .ref (B + ax)), (2, .ref (B + am)), (3, .int vi)]) (hF : F_law_c23 L xs ax am vi h = some z)
    (hB : ∀ (v : Int32) (h1 : Hp) (H : Heap) (locs : List Loc) (ls : Array Slot), vi + 5 = v → Pic G B h1 s H locs → lv_has ls 4 [(0, .ref b), (1, .ref (B + ax)), (2, .ref (B + am)), (3, .int v)] → some z = some (.inl (v, h1)) → W p l e room_1 s m args below meth c H locs (775 + 57 * (j + 1)) (16739 + 614 * (j + 1)) Q (F0 m 18 ls []))
    (hE : ∀ h1, ¬ z = .inr (.inl (0, h1))) : W p l e room_1 s m args below meth c H locs (775 + 57 * j) (16739 + 614 * j) Q (F0 m 971 ls []) := by
  obtain ⟨⟨hx, hb, hml, hown, hts⟩, -, -⟩ := id CX
  unfold F_law_c23 at hF
  refine lv_aload_n (pc := 971) hx hb dL_law_971 rfl (lv_at hl 1 rfl) ?_
  refine lv_aload_n (pc := 972) hx hb dL_law_972 rfl (lv_at hl 0 rfl) ?_
  refine lv_iload_n (pc := 973) hx hb dL_law_973 rfl (lv_at hl 3 rfl) ?_
  refine lv_iconst (pc := 974) (v := 1) hx hb dL_law_974 (by decide) ?_
  refine lv_iadd (pc := 975) hx hb dL_law_975 ?_
  refine r_sc (pc := 976) CX P SC hF dL_law_976 (fun v1 hF => ?_)
  refine lv_aload_n (pc := 977) hx hb dL_law_977 rfl (lv_at hl 0 rfl) ?_
  refine lv_iload_n (pc := 978) hx hb dL_law_978 rfl (lv_at hl 3 rfl) ?_
  refine lv_iconst (pc := 979) (v := 2) hx hb dL_law_979 (by decide) ?_
  refine lv_iadd (pc := 980) hx hb dL_law_980 ?_
  refine r_sc (pc := 981) CX P SC hF dL_law_981 (fun v2 hF => ?_)
  refine lv_aload_n (pc := 982) hx hb dL_law_982 rfl (lv_at hl 0 rfl) ?_
  refine lv_iload_n (pc := 983) hx hb dL_law_983 rfl (lv_at hl 3 rfl) ?_
  refine lv_iconst (pc := 984) (v := 3) hx hb dL_law_984 (by decide) ?_
  refine lv_iadd (pc := 985) hx hb dL_law_985 ?_
  refine r_sc (pc := 986) CX P SC hF dL_law_986 (fun v3 hF => ?_)
  refine r_cVi (pc := 987) (As := [.int v1, .int v2, .int v3]) (rest := []) CX P hl.1 hF kv_L_110 (fun r h1 q => c_X9_next l G B _ _ _ _ _ _ _ q) rfl rfl ⟨Nat.le_of_ble_eq_true rfl, Nat.le_of_ble_eq_true rfl⟩ (Nat.le_of_ble_eq_true rfl) (lf0 hj) dL_law_987 (fun v4 h5 H locs P hF => ?_)
  replace hF := un_i hF
  refine lv_aload_n (pc := 990) hx hb dL_law_990 rfl (lv_at hl 2 rfl) ?_
  refine lv_aload_n (pc := 991) hx hb dL_law_991 rfl (lv_at hl 0 rfl) ?_
  refine lv_iload_n (pc := 992) hx hb dL_law_992 rfl (lv_at hl 3 rfl) ?_
  refine lv_iconst (pc := 993) (v := 1) hx hb dL_law_993 (by decide) ?_
  refine lv_iadd (pc := 994) hx hb dL_law_994 ?_
  refine r_sc (pc := 995) CX P SC hF dL_law_995 (fun v6 hF => ?_)
  refine lv_aload_n (pc := 996) hx hb dL_law_996 rfl (lv_at hl 0 rfl) ?_
  refine lv_iload_n (pc := 997) hx hb dL_law_997 rfl (lv_at hl 3 rfl) ?_
  refine lv_iconst (pc := 998) (v := 2) hx hb dL_law_998 (by decide) ?_
  refine lv_iadd (pc := 999) hx hb dL_law_999 ?_
  refine r_sc (pc := 1000) CX P SC hF dL_law_1000 (fun v7 hF => ?_)
  refine lv_aload_n (pc := 1001) hx hb dL_law_1001 rfl (lv_at hl 0 rfl) ?_
  refine lv_iload_n (pc := 1002) hx hb dL_law_1002 rfl (lv_at hl 3 rfl) ?_
  refine lv_iconst (pc := 1003) (v := 3) hx hb dL_law_1003 (by decide) ?_
  refine lv_iadd (pc := 1004) hx hb dL_law_1004 ?_
  refine r_sc (pc := 1005) CX P SC hF dL_law_1005 (fun v8 hF => ?_)
  refine r_cVi (pc := 1006) (As := [.int v6, .int v7, .int v8]) (rest := [.int v4]) CX P hl.1 hF kv_L_113 (fun r h1 q => c_X10_next l G B _ _ _ _ _ _ _ q) rfl rfl ⟨Nat.le_of_ble_eq_true rfl, Nat.le_of_ble_eq_true rfl⟩ (Nat.le_of_ble_eq_true rfl) (lf0 hj) dL_law_1006 (fun v9 h10 H locs P hF => ?_)
  replace hF := un_i hF
  refine lv_icmp_eq (pc := 1009) (tgt := 1805) hx hb dL_law_1009 (by decide) (fun hc => ?_) (fun hc => ?_)
  · rw [if_pos hc] at hF
    obtain ⟨v11, ev11, hF⟩ := bl_o hF
    refine lv_iinc (pc := 1805) (k := 3) (v := v11) hx hb dL_law_1805 hl rfl ev11 (by decide) rfl (fun ls hl => ?_)
    replace hl : lv_has ls 4 [(3, .int v11), (0, .ref b), (1, .ref (B + ax)), (2, .ref (B + am))] := hl
    refine lv_goto (pc := 1808) (tgt := 18) hx hb dL_law_1808 (by decide) ?_
    refine W.widen (k := 775 + 57 * (j + 1)) (n := 16739 + 614 * (j + 1)) (lw0 j).1 (lw0 j).2 ?_
    exact hB _ _ _ _ _ ev11 P (lv_sub hl [1, 2, 3, 0] rfl) hF.symm
  · rw [if_neg hc] at hF
    refine lv_iconst (pc := 1012) (v := 0) hx hb dL_law_1012 (by decide) ?_
    exact absurd (Option.some.inj hF).symm (hE _)
def F_law_c24 (L : Nat) (xs : Nat → Int32) (ax am : Nat) (vi : Int32) (h : Hp) : Option ((Int32 × Hp) ⊕ ((Int32 × Hp) ⊕ Hp)) :=
(scX L xs (vi + 1)).bind fun v1 =>
(cO h ax 9 (F_X9_below h ax v1)).bind fun v2 =>
(scX L xs (vi + 1)).bind fun v3 =>
(cO h am 10 (F_X10_below h am v3)).bind (un fun v4 h5 =>
if v2 = v4 then (
bl (vi + 5) fun v6 =>
some (.inl (v6, h5))) else (
some (.inr (.inl (0, h5)))))
set_option maxRecDepth 100000 in
set_option maxHeartbeats 4000000 in
theorem w_law_c24 {p : Program} {l : Launch} {e : Env} {s : State} {m : MethodId} {args : Array Value} {below : List Frame} {meth : Method} {c : Code} {Q : State → Prop} {G : GG} {B b L : Nat} {xs : Nat → Int32} (CX : Cxt p m c code 4 s args RL G B) (SC : SCr b L xs s B) {ax am : Nat} {vi : Int32} {h : Hp} {j : Nat} {z : (Int32 × Hp) ⊕ ((Int32 × Hp) ⊕ Hp)} {H : Heap} {locs : List Loc} {ls : Array Slot} (hj : j < 512) (P : Pic G B h s H locs) (hl : lv_has ls 4 [(0, .ref b), (1, .ref (B + ax)), (2, .ref (B + am)), (3, .int vi)]) (hF : F_law_c24 L xs ax am vi h = some z)
    (hB : ∀ (v : Int32) (h1 : Hp) (H : Heap) (locs : List Loc) (ls : Array Slot), vi + 5 = v → Pic G B h1 s H locs → lv_has ls 4 [(0, .ref b), (1, .ref (B + ax)), (2, .ref (B + am)), (3, .int v)] → some z = some (.inl (v, h1)) → W p l e room_1 s m args below meth c H locs (775 + 57 * (j + 1)) (16739 + 614 * (j + 1)) Q (F0 m 18 ls []))
    (hE : ∀ h1, ¬ z = .inr (.inl (0, h1))) : W p l e room_1 s m args below meth c H locs (775 + 57 * j) (16739 + 614 * j) Q (F0 m 1014 ls []) := by
  obtain ⟨⟨hx, hb, hml, hown, hts⟩, -, -⟩ := id CX
  unfold F_law_c24 at hF
  refine lv_aload_n (pc := 1014) hx hb dL_law_1014 rfl (lv_at hl 1 rfl) ?_
  refine lv_aload_n (pc := 1015) hx hb dL_law_1015 rfl (lv_at hl 0 rfl) ?_
  refine lv_iload_n (pc := 1016) hx hb dL_law_1016 rfl (lv_at hl 3 rfl) ?_
  refine lv_iconst (pc := 1017) (v := 1) hx hb dL_law_1017 (by decide) ?_
  refine lv_iadd (pc := 1018) hx hb dL_law_1018 ?_
  refine r_sc (pc := 1019) CX P SC hF dL_law_1019 (fun v1 hF => ?_)
  refine r_cVp (pc := 1020) (As := [.int v1]) (rest := []) CX P hl.1 hF kv_L_114 (fun r q => c_X9_below l G B _ _ _ _ q) rfl rfl ⟨Nat.le_of_ble_eq_true rfl, Nat.le_of_ble_eq_true rfl⟩ (Nat.le_of_ble_eq_true rfl) (lf0 hj) dL_law_1020 (fun v2 H locs P hF => ?_)
  refine lv_aload_n (pc := 1023) hx hb dL_law_1023 rfl (lv_at hl 2 rfl) ?_
  refine lv_aload_n (pc := 1024) hx hb dL_law_1024 rfl (lv_at hl 0 rfl) ?_
  refine lv_iload_n (pc := 1025) hx hb dL_law_1025 rfl (lv_at hl 3 rfl) ?_
  refine lv_iconst (pc := 1026) (v := 1) hx hb dL_law_1026 (by decide) ?_
  refine lv_iadd (pc := 1027) hx hb dL_law_1027 ?_
  refine r_sc (pc := 1028) CX P SC hF dL_law_1028 (fun v3 hF => ?_)
  refine r_cVi (pc := 1029) (As := [.int v3]) (rest := [.int v2]) CX P hl.1 hF kv_L_117 (fun r h1 q => c_X10_below l G B _ _ _ _ _ q) rfl rfl ⟨Nat.le_of_ble_eq_true rfl, Nat.le_of_ble_eq_true rfl⟩ (Nat.le_of_ble_eq_true rfl) (lf0 hj) dL_law_1029 (fun v4 h5 H locs P hF => ?_)
  replace hF := un_i hF
  refine lv_icmp_eq (pc := 1032) (tgt := 1805) hx hb dL_law_1032 (by decide) (fun hc => ?_) (fun hc => ?_)
  · rw [if_pos hc] at hF
    obtain ⟨v6, ev6, hF⟩ := bl_o hF
    refine lv_iinc (pc := 1805) (k := 3) (v := v6) hx hb dL_law_1805 hl rfl ev6 (by decide) rfl (fun ls hl => ?_)
    replace hl : lv_has ls 4 [(3, .int v6), (0, .ref b), (1, .ref (B + ax)), (2, .ref (B + am))] := hl
    refine lv_goto (pc := 1808) (tgt := 18) hx hb dL_law_1808 (by decide) ?_
    refine W.widen (k := 775 + 57 * (j + 1)) (n := 16739 + 614 * (j + 1)) (lw0 j).1 (lw0 j).2 ?_
    exact hB _ _ _ _ _ ev6 P (lv_sub hl [1, 2, 3, 0] rfl) hF.symm
  · rw [if_neg hc] at hF
    refine lv_iconst (pc := 1035) (v := 0) hx hb dL_law_1035 (by decide) ?_
    exact absurd (Option.some.inj hF).symm (hE _)
def F_law_c25 (L : Nat) (xs : Nat → Int32) (ax am : Nat) (vi : Int32) (h : Hp) : Option ((Int32 × Hp) ⊕ ((Int32 × Hp) ⊕ Hp)) :=
(scX L xs (vi + 1)).bind fun v1 =>
(cO h ax 9 (F_X9_procs h ax v1)).bind fun v2 =>
(scX L xs (vi + 1)).bind fun v3 =>
(cO h am 10 (F_X10_procs h am v3)).bind (un fun v4 h5 =>
if v2 = v4 then (
bl (vi + 5) fun v6 =>
some (.inl (v6, h5))) else (
some (.inr (.inl (0, h5)))))
set_option maxRecDepth 100000 in
set_option maxHeartbeats 4000000 in
theorem w_law_c25 {p : Program} {l : Launch} {e : Env} {s : State} {m : MethodId} {args : Array Value} {below : List Frame} {meth : Method} {c : Code} {Q : State → Prop} {G : GG} {B b L : Nat} {xs : Nat → Int32} (CX : Cxt p m c code 4 s args RL G B) (SC : SCr b L xs s B) {ax am : Nat} {vi : Int32} {h : Hp} {j : Nat} {z : (Int32 × Hp) ⊕ ((Int32 × Hp) ⊕ Hp)} {H : Heap} {locs : List Loc} {ls : Array Slot} (hj : j < 512) (P : Pic G B h s H locs) (hl : lv_has ls 4 [(0, .ref b), (1, .ref (B + ax)), (2, .ref (B + am)), (3, .int vi)]) (hF : F_law_c25 L xs ax am vi h = some z)
    (hB : ∀ (v : Int32) (h1 : Hp) (H : Heap) (locs : List Loc) (ls : Array Slot), vi + 5 = v → Pic G B h1 s H locs → lv_has ls 4 [(0, .ref b), (1, .ref (B + ax)), (2, .ref (B + am)), (3, .int v)] → some z = some (.inl (v, h1)) → W p l e room_1 s m args below meth c H locs (775 + 57 * (j + 1)) (16739 + 614 * (j + 1)) Q (F0 m 18 ls []))
    (hE : ∀ h1, ¬ z = .inr (.inl (0, h1))) : W p l e room_1 s m args below meth c H locs (775 + 57 * j) (16739 + 614 * j) Q (F0 m 1037 ls []) := by
  obtain ⟨⟨hx, hb, hml, hown, hts⟩, -, -⟩ := id CX
  unfold F_law_c25 at hF
  refine lv_aload_n (pc := 1037) hx hb dL_law_1037 rfl (lv_at hl 1 rfl) ?_
  refine lv_aload_n (pc := 1038) hx hb dL_law_1038 rfl (lv_at hl 0 rfl) ?_
  refine lv_iload_n (pc := 1039) hx hb dL_law_1039 rfl (lv_at hl 3 rfl) ?_
  refine lv_iconst (pc := 1040) (v := 1) hx hb dL_law_1040 (by decide) ?_
  refine lv_iadd (pc := 1041) hx hb dL_law_1041 ?_
  refine r_sc (pc := 1042) CX P SC hF dL_law_1042 (fun v1 hF => ?_)
  refine r_cVp (pc := 1043) (As := [.int v1]) (rest := []) CX P hl.1 hF kv_L_118 (fun r q => c_X9_procs l G B _ _ _ _ q) rfl rfl ⟨Nat.le_of_ble_eq_true rfl, Nat.le_of_ble_eq_true rfl⟩ (Nat.le_of_ble_eq_true rfl) (lf0 hj) dL_law_1043 (fun v2 H locs P hF => ?_)
  refine lv_aload_n (pc := 1046) hx hb dL_law_1046 rfl (lv_at hl 2 rfl) ?_
  refine lv_aload_n (pc := 1047) hx hb dL_law_1047 rfl (lv_at hl 0 rfl) ?_
  refine lv_iload_n (pc := 1048) hx hb dL_law_1048 rfl (lv_at hl 3 rfl) ?_
  refine lv_iconst (pc := 1049) (v := 1) hx hb dL_law_1049 (by decide) ?_
  refine lv_iadd (pc := 1050) hx hb dL_law_1050 ?_
  refine r_sc (pc := 1051) CX P SC hF dL_law_1051 (fun v3 hF => ?_)
  refine r_cVi (pc := 1052) (As := [.int v3]) (rest := [.int v2]) CX P hl.1 hF kv_L_121 (fun r h1 q => c_X10_procs l G B _ _ _ _ _ q) rfl rfl ⟨Nat.le_of_ble_eq_true rfl, Nat.le_of_ble_eq_true rfl⟩ (Nat.le_of_ble_eq_true rfl) (lf0 hj) dL_law_1052 (fun v4 h5 H locs P hF => ?_)
  replace hF := un_i hF
  refine lv_icmp_eq (pc := 1055) (tgt := 1805) hx hb dL_law_1055 (by decide) (fun hc => ?_) (fun hc => ?_)
  · rw [if_pos hc] at hF
    obtain ⟨v6, ev6, hF⟩ := bl_o hF
    refine lv_iinc (pc := 1805) (k := 3) (v := v6) hx hb dL_law_1805 hl rfl ev6 (by decide) rfl (fun ls hl => ?_)
    replace hl : lv_has ls 4 [(3, .int v6), (0, .ref b), (1, .ref (B + ax)), (2, .ref (B + am))] := hl
    refine lv_goto (pc := 1808) (tgt := 18) hx hb dL_law_1808 (by decide) ?_
    refine W.widen (k := 775 + 57 * (j + 1)) (n := 16739 + 614 * (j + 1)) (lw0 j).1 (lw0 j).2 ?_
    exact hB _ _ _ _ _ ev6 P (lv_sub hl [1, 2, 3, 0] rfl) hF.symm
  · rw [if_neg hc] at hF
    refine lv_iconst (pc := 1058) (v := 0) hx hb dL_law_1058 (by decide) ?_
    exact absurd (Option.some.inj hF).symm (hE _)
def F_law_c26 (L : Nat) (xs : Nat → Int32) (ax am : Nat) (vi : Int32) (h : Hp) : Option ((Int32 × Hp) ⊕ ((Int32 × Hp) ⊕ Hp)) :=
(scX L xs (vi + 1)).bind fun v1 =>
(scX L xs (vi + 2)).bind fun v2 =>
(cO h ax 9 (F_X9_common h ax v1 v2)).bind fun v3 =>
(scX L xs (vi + 1)).bind fun v4 =>
(scX L xs (vi + 2)).bind fun v5 =>
(cO h am 10 (F_X10_common h am v4 v5)).bind (un fun v6 h7 =>
if v3 = v6 then (
bl (vi + 5) fun v8 =>
some (.inl (v8, h7))) else (
some (.inr (.inl (0, h7)))))
set_option maxRecDepth 100000 in
set_option maxHeartbeats 4000000 in
theorem w_law_c26 {p : Program} {l : Launch} {e : Env} {s : State} {m : MethodId} {args : Array Value} {below : List Frame} {meth : Method} {c : Code} {Q : State → Prop} {G : GG} {B b L : Nat} {xs : Nat → Int32} (CX : Cxt p m c code 4 s args RL G B) (SC : SCr b L xs s B) {ax am : Nat} {vi : Int32} {h : Hp} {j : Nat} {z : (Int32 × Hp) ⊕ ((Int32 × Hp) ⊕ Hp)} {H : Heap} {locs : List Loc} {ls : Array Slot} (hj : j < 512) (P : Pic G B h s H locs) (hl : lv_has ls 4 [(0, .ref b), (1, .ref (B + ax)), (2, .ref (B + am)), (3, .int vi)]) (hF : F_law_c26 L xs ax am vi h = some z)
    (hB : ∀ (v : Int32) (h1 : Hp) (H : Heap) (locs : List Loc) (ls : Array Slot), vi + 5 = v → Pic G B h1 s H locs → lv_has ls 4 [(0, .ref b), (1, .ref (B + ax)), (2, .ref (B + am)), (3, .int v)] → some z = some (.inl (v, h1)) → W p l e room_1 s m args below meth c H locs (775 + 57 * (j + 1)) (16739 + 614 * (j + 1)) Q (F0 m 18 ls []))
    (hE : ∀ h1, ¬ z = .inr (.inl (0, h1))) : W p l e room_1 s m args below meth c H locs (775 + 57 * j) (16739 + 614 * j) Q (F0 m 1060 ls []) := by
  obtain ⟨⟨hx, hb, hml, hown, hts⟩, -, -⟩ := id CX
  unfold F_law_c26 at hF
  refine lv_aload_n (pc := 1060) hx hb dL_law_1060 rfl (lv_at hl 1 rfl) ?_
  refine lv_aload_n (pc := 1061) hx hb dL_law_1061 rfl (lv_at hl 0 rfl) ?_
  refine lv_iload_n (pc := 1062) hx hb dL_law_1062 rfl (lv_at hl 3 rfl) ?_
  refine lv_iconst (pc := 1063) (v := 1) hx hb dL_law_1063 (by decide) ?_
  refine lv_iadd (pc := 1064) hx hb dL_law_1064 ?_
  refine r_sc (pc := 1065) CX P SC hF dL_law_1065 (fun v1 hF => ?_)
  refine lv_aload_n (pc := 1066) hx hb dL_law_1066 rfl (lv_at hl 0 rfl) ?_
  refine lv_iload_n (pc := 1067) hx hb dL_law_1067 rfl (lv_at hl 3 rfl) ?_
  refine lv_iconst (pc := 1068) (v := 2) hx hb dL_law_1068 (by decide) ?_
  refine lv_iadd (pc := 1069) hx hb dL_law_1069 ?_
  refine r_sc (pc := 1070) CX P SC hF dL_law_1070 (fun v2 hF => ?_)
  refine r_cVp (pc := 1071) (As := [.int v1, .int v2]) (rest := []) CX P hl.1 hF kv_L_122 (fun r q => c_X9_common l G B _ _ _ _ _ q) rfl rfl ⟨Nat.le_of_ble_eq_true rfl, Nat.le_of_ble_eq_true rfl⟩ (Nat.le_of_ble_eq_true rfl) (lf0 hj) dL_law_1071 (fun v3 H locs P hF => ?_)
  refine lv_aload_n (pc := 1074) hx hb dL_law_1074 rfl (lv_at hl 2 rfl) ?_
  refine lv_aload_n (pc := 1075) hx hb dL_law_1075 rfl (lv_at hl 0 rfl) ?_
  refine lv_iload_n (pc := 1076) hx hb dL_law_1076 rfl (lv_at hl 3 rfl) ?_
  refine lv_iconst (pc := 1077) (v := 1) hx hb dL_law_1077 (by decide) ?_
  refine lv_iadd (pc := 1078) hx hb dL_law_1078 ?_
  refine r_sc (pc := 1079) CX P SC hF dL_law_1079 (fun v4 hF => ?_)
  refine lv_aload_n (pc := 1080) hx hb dL_law_1080 rfl (lv_at hl 0 rfl) ?_
  refine lv_iload_n (pc := 1081) hx hb dL_law_1081 rfl (lv_at hl 3 rfl) ?_
  refine lv_iconst (pc := 1082) (v := 2) hx hb dL_law_1082 (by decide) ?_
  refine lv_iadd (pc := 1083) hx hb dL_law_1083 ?_
  refine r_sc (pc := 1084) CX P SC hF dL_law_1084 (fun v5 hF => ?_)
  refine r_cVi (pc := 1085) (As := [.int v4, .int v5]) (rest := [.int v3]) CX P hl.1 hF kv_L_125 (fun r h1 q => c_X10_common l G B _ _ _ _ _ _ q) rfl rfl ⟨Nat.le_of_ble_eq_true rfl, Nat.le_of_ble_eq_true rfl⟩ (Nat.le_of_ble_eq_true rfl) (lf0 hj) dL_law_1085 (fun v6 h7 H locs P hF => ?_)
  replace hF := un_i hF
  refine lv_icmp_eq (pc := 1088) (tgt := 1805) hx hb dL_law_1088 (by decide) (fun hc => ?_) (fun hc => ?_)
  · rw [if_pos hc] at hF
    obtain ⟨v8, ev8, hF⟩ := bl_o hF
    refine lv_iinc (pc := 1805) (k := 3) (v := v8) hx hb dL_law_1805 hl rfl ev8 (by decide) rfl (fun ls hl => ?_)
    replace hl : lv_has ls 4 [(3, .int v8), (0, .ref b), (1, .ref (B + ax)), (2, .ref (B + am))] := hl
    refine lv_goto (pc := 1808) (tgt := 18) hx hb dL_law_1808 (by decide) ?_
    refine W.widen (k := 775 + 57 * (j + 1)) (n := 16739 + 614 * (j + 1)) (lw0 j).1 (lw0 j).2 ?_
    exact hB _ _ _ _ _ ev8 P (lv_sub hl [1, 2, 3, 0] rfl) hF.symm
  · rw [if_neg hc] at hF
    refine lv_iconst (pc := 1091) (v := 0) hx hb dL_law_1091 (by decide) ?_
    exact absurd (Option.some.inj hF).symm (hE _)
def F_law_c27 (L : Nat) (xs : Nat → Int32) (ax am : Nat) (vi : Int32) (h : Hp) : Option ((Int32 × Hp) ⊕ ((Int32 × Hp) ⊕ Hp)) :=
(scX L xs (vi + 1)).bind fun v1 =>
(scX L xs (vi + 2)).bind fun v2 =>
(scX L xs (vi + 3)).bind fun v3 =>
(cO h ax 9 (F_X9_pressure h ax v1 v2 v3)).bind fun v4 =>
(scX L xs (vi + 1)).bind fun v5 =>
(scX L xs (vi + 2)).bind fun v6 =>
(scX L xs (vi + 3)).bind fun v7 =>
(cO h am 10 (F_X10_pressure h am v5 v6 v7)).bind (un fun v8 h9 =>
if v4 = v8 then (
bl (vi + 5) fun v10 =>
some (.inl (v10, h9))) else (
some (.inr (.inl (0, h9)))))
set_option maxRecDepth 100000 in
set_option maxHeartbeats 4000000 in
theorem w_law_c27 {p : Program} {l : Launch} {e : Env} {s : State} {m : MethodId} {args : Array Value} {below : List Frame} {meth : Method} {c : Code} {Q : State → Prop} {G : GG} {B b L : Nat} {xs : Nat → Int32} (CX : Cxt p m c code 4 s args RL G B) (SC : SCr b L xs s B) {ax am : Nat} {vi : Int32} {h : Hp} {j : Nat} {z : (Int32 × Hp) ⊕ ((Int32 × Hp) ⊕ Hp)} {H : Heap} {locs : List Loc} {ls : Array Slot} (hj : j < 512) (P : Pic G B h s H locs) (hl : lv_has ls 4 [(0, .ref b), (1, .ref (B + ax)), (2, .ref (B + am)), (3, .int vi)]) (hF : F_law_c27 L xs ax am vi h = some z)
    (hB : ∀ (v : Int32) (h1 : Hp) (H : Heap) (locs : List Loc) (ls : Array Slot), vi + 5 = v → Pic G B h1 s H locs → lv_has ls 4 [(0, .ref b), (1, .ref (B + ax)), (2, .ref (B + am)), (3, .int v)] → some z = some (.inl (v, h1)) → W p l e room_1 s m args below meth c H locs (775 + 57 * (j + 1)) (16739 + 614 * (j + 1)) Q (F0 m 18 ls []))
    (hE : ∀ h1, ¬ z = .inr (.inl (0, h1))) : W p l e room_1 s m args below meth c H locs (775 + 57 * j) (16739 + 614 * j) Q (F0 m 1093 ls []) := by
  obtain ⟨⟨hx, hb, hml, hown, hts⟩, -, -⟩ := id CX
  unfold F_law_c27 at hF
  refine lv_aload_n (pc := 1093) hx hb dL_law_1093 rfl (lv_at hl 1 rfl) ?_
  refine lv_aload_n (pc := 1094) hx hb dL_law_1094 rfl (lv_at hl 0 rfl) ?_
  refine lv_iload_n (pc := 1095) hx hb dL_law_1095 rfl (lv_at hl 3 rfl) ?_
  refine lv_iconst (pc := 1096) (v := 1) hx hb dL_law_1096 (by decide) ?_
  refine lv_iadd (pc := 1097) hx hb dL_law_1097 ?_
  refine r_sc (pc := 1098) CX P SC hF dL_law_1098 (fun v1 hF => ?_)
  refine lv_aload_n (pc := 1099) hx hb dL_law_1099 rfl (lv_at hl 0 rfl) ?_
  refine lv_iload_n (pc := 1100) hx hb dL_law_1100 rfl (lv_at hl 3 rfl) ?_
  refine lv_iconst (pc := 1101) (v := 2) hx hb dL_law_1101 (by decide) ?_
  refine lv_iadd (pc := 1102) hx hb dL_law_1102 ?_
  refine r_sc (pc := 1103) CX P SC hF dL_law_1103 (fun v2 hF => ?_)
  refine lv_aload_n (pc := 1104) hx hb dL_law_1104 rfl (lv_at hl 0 rfl) ?_
  refine lv_iload_n (pc := 1105) hx hb dL_law_1105 rfl (lv_at hl 3 rfl) ?_
  refine lv_iconst (pc := 1106) (v := 3) hx hb dL_law_1106 (by decide) ?_
  refine lv_iadd (pc := 1107) hx hb dL_law_1107 ?_
  refine r_sc (pc := 1108) CX P SC hF dL_law_1108 (fun v3 hF => ?_)
  refine r_cVp (pc := 1109) (As := [.int v1, .int v2, .int v3]) (rest := []) CX P hl.1 hF kv_L_126 (fun r q => c_X9_pressure l G B _ _ _ _ _ _ q) rfl rfl ⟨Nat.le_of_ble_eq_true rfl, Nat.le_of_ble_eq_true rfl⟩ (Nat.le_of_ble_eq_true rfl) (lf0 hj) dL_law_1109 (fun v4 H locs P hF => ?_)
  refine lv_aload_n (pc := 1112) hx hb dL_law_1112 rfl (lv_at hl 2 rfl) ?_
  refine lv_aload_n (pc := 1113) hx hb dL_law_1113 rfl (lv_at hl 0 rfl) ?_
  refine lv_iload_n (pc := 1114) hx hb dL_law_1114 rfl (lv_at hl 3 rfl) ?_
  refine lv_iconst (pc := 1115) (v := 1) hx hb dL_law_1115 (by decide) ?_
  refine lv_iadd (pc := 1116) hx hb dL_law_1116 ?_
  refine r_sc (pc := 1117) CX P SC hF dL_law_1117 (fun v5 hF => ?_)
  refine lv_aload_n (pc := 1118) hx hb dL_law_1118 rfl (lv_at hl 0 rfl) ?_
  refine lv_iload_n (pc := 1119) hx hb dL_law_1119 rfl (lv_at hl 3 rfl) ?_
  refine lv_iconst (pc := 1120) (v := 2) hx hb dL_law_1120 (by decide) ?_
  refine lv_iadd (pc := 1121) hx hb dL_law_1121 ?_
  refine r_sc (pc := 1122) CX P SC hF dL_law_1122 (fun v6 hF => ?_)
  refine lv_aload_n (pc := 1123) hx hb dL_law_1123 rfl (lv_at hl 0 rfl) ?_
  refine lv_iload_n (pc := 1124) hx hb dL_law_1124 rfl (lv_at hl 3 rfl) ?_
  refine lv_iconst (pc := 1125) (v := 3) hx hb dL_law_1125 (by decide) ?_
  refine lv_iadd (pc := 1126) hx hb dL_law_1126 ?_
  refine r_sc (pc := 1127) CX P SC hF dL_law_1127 (fun v7 hF => ?_)
  refine r_cVi (pc := 1128) (As := [.int v5, .int v6, .int v7]) (rest := [.int v4]) CX P hl.1 hF kv_L_129 (fun r h1 q => c_X10_pressure l G B _ _ _ _ _ _ _ q) rfl rfl ⟨Nat.le_of_ble_eq_true rfl, Nat.le_of_ble_eq_true rfl⟩ (Nat.le_of_ble_eq_true rfl) (lf0 hj) dL_law_1128 (fun v8 h9 H locs P hF => ?_)
  replace hF := un_i hF
  refine lv_icmp_eq (pc := 1131) (tgt := 1805) hx hb dL_law_1131 (by decide) (fun hc => ?_) (fun hc => ?_)
  · rw [if_pos hc] at hF
    obtain ⟨v10, ev10, hF⟩ := bl_o hF
    refine lv_iinc (pc := 1805) (k := 3) (v := v10) hx hb dL_law_1805 hl rfl ev10 (by decide) rfl (fun ls hl => ?_)
    replace hl : lv_has ls 4 [(3, .int v10), (0, .ref b), (1, .ref (B + ax)), (2, .ref (B + am))] := hl
    refine lv_goto (pc := 1808) (tgt := 18) hx hb dL_law_1808 (by decide) ?_
    refine W.widen (k := 775 + 57 * (j + 1)) (n := 16739 + 614 * (j + 1)) (lw0 j).1 (lw0 j).2 ?_
    exact hB _ _ _ _ _ ev10 P (lv_sub hl [1, 2, 3, 0] rfl) hF.symm
  · rw [if_neg hc] at hF
    refine lv_iconst (pc := 1134) (v := 0) hx hb dL_law_1134 (by decide) ?_
    exact absurd (Option.some.inj hF).symm (hE _)
def F_law_c28 (L : Nat) (xs : Nat → Int32) (ax am : Nat) (vi : Int32) (h : Hp) : Option ((Int32 × Hp) ⊕ ((Int32 × Hp) ⊕ Hp)) :=
(scX L xs (vi + 1)).bind fun v1 =>
(scX L xs (vi + 2)).bind fun v2 =>
(scX L xs (vi + 3)).bind fun v3 =>
(cO h ax 9 (F_X9_average h ax v1 v2 v3)).bind fun v4 =>
(scX L xs (vi + 1)).bind fun v5 =>
(scX L xs (vi + 2)).bind fun v6 =>
(scX L xs (vi + 3)).bind fun v7 =>
(cO h am 10 (F_X10_average h am v5 v6 v7)).bind (un fun v8 h9 =>
if v4 = v8 then (
bl (vi + 5) fun v10 =>
some (.inl (v10, h9))) else (
some (.inr (.inl (0, h9)))))
set_option maxRecDepth 100000 in
set_option maxHeartbeats 4000000 in
theorem w_law_c28 {p : Program} {l : Launch} {e : Env} {s : State} {m : MethodId} {args : Array Value} {below : List Frame} {meth : Method} {c : Code} {Q : State → Prop} {G : GG} {B b L : Nat} {xs : Nat → Int32} (CX : Cxt p m c code 4 s args RL G B) (SC : SCr b L xs s B) {ax am : Nat} {vi : Int32} {h : Hp} {j : Nat} {z : (Int32 × Hp) ⊕ ((Int32 × Hp) ⊕ Hp)} {H : Heap} {locs : List Loc} {ls : Array Slot} (hj : j < 512) (P : Pic G B h s H locs) (hl : lv_has ls 4 [(0, .ref b), (1, .ref (B + ax)), (2, .ref (B + am)), (3, .int vi)]) (hF : F_law_c28 L xs ax am vi h = some z)
    (hB : ∀ (v : Int32) (h1 : Hp) (H : Heap) (locs : List Loc) (ls : Array Slot), vi + 5 = v → Pic G B h1 s H locs → lv_has ls 4 [(0, .ref b), (1, .ref (B + ax)), (2, .ref (B + am)), (3, .int v)] → some z = some (.inl (v, h1)) → W p l e room_1 s m args below meth c H locs (775 + 57 * (j + 1)) (16739 + 614 * (j + 1)) Q (F0 m 18 ls []))
    (hE : ∀ h1, ¬ z = .inr (.inl (0, h1))) : W p l e room_1 s m args below meth c H locs (775 + 57 * j) (16739 + 614 * j) Q (F0 m 1136 ls []) := by
  obtain ⟨⟨hx, hb, hml, hown, hts⟩, -, -⟩ := id CX
  unfold F_law_c28 at hF
  refine lv_aload_n (pc := 1136) hx hb dL_law_1136 rfl (lv_at hl 1 rfl) ?_
  refine lv_aload_n (pc := 1137) hx hb dL_law_1137 rfl (lv_at hl 0 rfl) ?_
  refine lv_iload_n (pc := 1138) hx hb dL_law_1138 rfl (lv_at hl 3 rfl) ?_
  refine lv_iconst (pc := 1139) (v := 1) hx hb dL_law_1139 (by decide) ?_
  refine lv_iadd (pc := 1140) hx hb dL_law_1140 ?_
  refine r_sc (pc := 1141) CX P SC hF dL_law_1141 (fun v1 hF => ?_)
  refine lv_aload_n (pc := 1142) hx hb dL_law_1142 rfl (lv_at hl 0 rfl) ?_
  refine lv_iload_n (pc := 1143) hx hb dL_law_1143 rfl (lv_at hl 3 rfl) ?_
  refine lv_iconst (pc := 1144) (v := 2) hx hb dL_law_1144 (by decide) ?_
  refine lv_iadd (pc := 1145) hx hb dL_law_1145 ?_
  refine r_sc (pc := 1146) CX P SC hF dL_law_1146 (fun v2 hF => ?_)
  refine lv_aload_n (pc := 1147) hx hb dL_law_1147 rfl (lv_at hl 0 rfl) ?_
  refine lv_iload_n (pc := 1148) hx hb dL_law_1148 rfl (lv_at hl 3 rfl) ?_
  refine lv_iconst (pc := 1149) (v := 3) hx hb dL_law_1149 (by decide) ?_
  refine lv_iadd (pc := 1150) hx hb dL_law_1150 ?_
  refine r_sc (pc := 1151) CX P SC hF dL_law_1151 (fun v3 hF => ?_)
  refine r_cVp (pc := 1152) (As := [.int v1, .int v2, .int v3]) (rest := []) CX P hl.1 hF kv_L_130 (fun r q => c_X9_average l G B _ _ _ _ _ _ q) rfl rfl ⟨Nat.le_of_ble_eq_true rfl, Nat.le_of_ble_eq_true rfl⟩ (Nat.le_of_ble_eq_true rfl) (lf0 hj) dL_law_1152 (fun v4 H locs P hF => ?_)
  refine lv_aload_n (pc := 1155) hx hb dL_law_1155 rfl (lv_at hl 2 rfl) ?_
  refine lv_aload_n (pc := 1156) hx hb dL_law_1156 rfl (lv_at hl 0 rfl) ?_
  refine lv_iload_n (pc := 1157) hx hb dL_law_1157 rfl (lv_at hl 3 rfl) ?_
  refine lv_iconst (pc := 1158) (v := 1) hx hb dL_law_1158 (by decide) ?_
  refine lv_iadd (pc := 1159) hx hb dL_law_1159 ?_
  refine r_sc (pc := 1160) CX P SC hF dL_law_1160 (fun v5 hF => ?_)
  refine lv_aload_n (pc := 1161) hx hb dL_law_1161 rfl (lv_at hl 0 rfl) ?_
  refine lv_iload_n (pc := 1162) hx hb dL_law_1162 rfl (lv_at hl 3 rfl) ?_
  refine lv_iconst (pc := 1163) (v := 2) hx hb dL_law_1163 (by decide) ?_
  refine lv_iadd (pc := 1164) hx hb dL_law_1164 ?_
  refine r_sc (pc := 1165) CX P SC hF dL_law_1165 (fun v6 hF => ?_)
  refine lv_aload_n (pc := 1166) hx hb dL_law_1166 rfl (lv_at hl 0 rfl) ?_
  refine lv_iload_n (pc := 1167) hx hb dL_law_1167 rfl (lv_at hl 3 rfl) ?_
  refine lv_iconst (pc := 1168) (v := 3) hx hb dL_law_1168 (by decide) ?_
  refine lv_iadd (pc := 1169) hx hb dL_law_1169 ?_
  refine r_sc (pc := 1170) CX P SC hF dL_law_1170 (fun v7 hF => ?_)
  refine r_cVi (pc := 1171) (As := [.int v5, .int v6, .int v7]) (rest := [.int v4]) CX P hl.1 hF kv_L_133 (fun r h1 q => c_X10_average l G B _ _ _ _ _ _ _ q) rfl rfl ⟨Nat.le_of_ble_eq_true rfl, Nat.le_of_ble_eq_true rfl⟩ (Nat.le_of_ble_eq_true rfl) (lf0 hj) dL_law_1171 (fun v8 h9 H locs P hF => ?_)
  replace hF := un_i hF
  refine lv_icmp_eq (pc := 1174) (tgt := 1805) hx hb dL_law_1174 (by decide) (fun hc => ?_) (fun hc => ?_)
  · rw [if_pos hc] at hF
    obtain ⟨v10, ev10, hF⟩ := bl_o hF
    refine lv_iinc (pc := 1805) (k := 3) (v := v10) hx hb dL_law_1805 hl rfl ev10 (by decide) rfl (fun ls hl => ?_)
    replace hl : lv_has ls 4 [(3, .int v10), (0, .ref b), (1, .ref (B + ax)), (2, .ref (B + am))] := hl
    refine lv_goto (pc := 1808) (tgt := 18) hx hb dL_law_1808 (by decide) ?_
    refine W.widen (k := 775 + 57 * (j + 1)) (n := 16739 + 614 * (j + 1)) (lw0 j).1 (lw0 j).2 ?_
    exact hB _ _ _ _ _ ev10 P (lv_sub hl [1, 2, 3, 0] rfl) hF.symm
  · rw [if_neg hc] at hF
    refine lv_iconst (pc := 1177) (v := 0) hx hb dL_law_1177 (by decide) ?_
    exact absurd (Option.some.inj hF).symm (hE _)
