def F_law_c29 (L : Nat) (xs : Nat → Int32) (ax am : Nat) (vi : Int32) (h : Hp) : Option ((Int32 × Hp) ⊕ ((Int32 × Hp) ⊕ Hp)) :=
(scX L xs (vi + 1)).bind fun v1 =>
(scX L xs (vi + 2)).bind fun v2 =>
(cO h ax 9 (F_X9_stalls h ax v1 v2)).bind fun v3 =>
(scX L xs (vi + 1)).bind fun v4 =>
(scX L xs (vi + 2)).bind fun v5 =>
(cO h am 10 (F_X10_stalls h am v4 v5)).bind (un fun v6 h7 =>
if v3 = v6 then (
bl (vi + 5) fun v8 =>
some (.inl (v8, h7))) else (
some (.inr (.inl (0, h7)))))
set_option maxRecDepth 100000 in
set_option maxHeartbeats 4000000 in
theorem w_law_c29 {p : Program} {l : Launch} {e : Env} {s : State} {m : MethodId} {args : Array Value} {below : List Frame} {meth : Method} {c : Code} {Q : State → Prop} {G : GG} {B b L : Nat} {xs : Nat → Int32} (CX : Cxt p m c code 4 s args RL G B) (SC : SCr b L xs s B) {ax am : Nat} {vi : Int32} {h : Hp} {j : Nat} {z : (Int32 × Hp) ⊕ ((Int32 × Hp) ⊕ Hp)} {H : Heap} {locs : List Loc} {ls : Array Slot} (hj : j < 512) (P : Pic G B h s H locs) (hl : lv_has ls 4 [(0, .ref b), (1, .ref (B + ax)), (2, .ref (B + am)), (3, .int vi)]) (hF : F_law_c29 L xs ax am vi h = some z)
    (hB : ∀ (v : Int32) (h1 : Hp) (H : Heap) (locs : List Loc) (ls : Array Slot), vi + 5 = v → Pic G B h1 s H locs → lv_has ls 4 [(0, .ref b), (1, .ref (B + ax)), (2, .ref (B + am)), (3, .int v)] → some z = some (.inl (v, h1)) → W p l e room_1 s m args below meth c H locs (775 + 57 * (j + 1)) (16739 + 614 * (j + 1)) Q (F0 m 18 ls []))
    (hE : ∀ h1, ¬ z = .inr (.inl (0, h1))) : W p l e room_1 s m args below meth c H locs (775 + 57 * j) (16739 + 614 * j) Q (F0 m 1179 ls []) := by
  obtain ⟨⟨hx, hb, hml, hown, hts⟩, -, -⟩ := id CX
  unfold F_law_c29 at hF
  refine lv_aload_n (pc := 1179) hx hb dL_law_1179 rfl (lv_at hl 1 rfl) ?_
  refine lv_aload_n (pc := 1180) hx hb dL_law_1180 rfl (lv_at hl 0 rfl) ?_
  refine lv_iload_n (pc := 1181) hx hb dL_law_1181 rfl (lv_at hl 3 rfl) ?_
  refine lv_iconst (pc := 1182) (v := 1) hx hb dL_law_1182 (by decide) ?_
  refine lv_iadd (pc := 1183) hx hb dL_law_1183 ?_
  refine r_sc (pc := 1184) CX P SC hF dL_law_1184 (fun v1 hF => ?_)
  refine lv_aload_n (pc := 1185) hx hb dL_law_1185 rfl (lv_at hl 0 rfl) ?_
  refine lv_iload_n (pc := 1186) hx hb dL_law_1186 rfl (lv_at hl 3 rfl) ?_
  refine lv_iconst (pc := 1187) (v := 2) hx hb dL_law_1187 (by decide) ?_
  refine lv_iadd (pc := 1188) hx hb dL_law_1188 ?_
  refine r_sc (pc := 1189) CX P SC hF dL_law_1189 (fun v2 hF => ?_)
  refine r_cVp (pc := 1190) (As := [.int v1, .int v2]) (rest := []) CX P hl.1 hF kv_L_134 (fun r q => c_X9_stalls l G B _ _ _ _ _ q) rfl rfl ⟨Nat.le_of_ble_eq_true rfl, Nat.le_of_ble_eq_true rfl⟩ (Nat.le_of_ble_eq_true rfl) (lf0 hj) dL_law_1190 (fun v3 H locs P hF => ?_)
  refine lv_aload_n (pc := 1193) hx hb dL_law_1193 rfl (lv_at hl 2 rfl) ?_
  refine lv_aload_n (pc := 1194) hx hb dL_law_1194 rfl (lv_at hl 0 rfl) ?_
  refine lv_iload_n (pc := 1195) hx hb dL_law_1195 rfl (lv_at hl 3 rfl) ?_
  refine lv_iconst (pc := 1196) (v := 1) hx hb dL_law_1196 (by decide) ?_
  refine lv_iadd (pc := 1197) hx hb dL_law_1197 ?_
  refine r_sc (pc := 1198) CX P SC hF dL_law_1198 (fun v4 hF => ?_)
  refine lv_aload_n (pc := 1199) hx hb dL_law_1199 rfl (lv_at hl 0 rfl) ?_
  refine lv_iload_n (pc := 1200) hx hb dL_law_1200 rfl (lv_at hl 3 rfl) ?_
  refine lv_iconst (pc := 1201) (v := 2) hx hb dL_law_1201 (by decide) ?_
  refine lv_iadd (pc := 1202) hx hb dL_law_1202 ?_
  refine r_sc (pc := 1203) CX P SC hF dL_law_1203 (fun v5 hF => ?_)
  refine r_cVi (pc := 1204) (As := [.int v4, .int v5]) (rest := [.int v3]) CX P hl.1 hF kv_L_137 (fun r h1 q => c_X10_stalls l G B _ _ _ _ _ _ q) rfl rfl ⟨Nat.le_of_ble_eq_true rfl, Nat.le_of_ble_eq_true rfl⟩ (Nat.le_of_ble_eq_true rfl) (lf0 hj) dL_law_1204 (fun v6 h7 H locs P hF => ?_)
  replace hF := un_i hF
  refine lv_icmp_eq (pc := 1207) (tgt := 1805) hx hb dL_law_1207 (by decide) (fun hc => ?_) (fun hc => ?_)
  · rw [if_pos hc] at hF
    obtain ⟨v8, ev8, hF⟩ := bl_o hF
    refine lv_iinc (pc := 1805) (k := 3) (v := v8) hx hb dL_law_1805 hl rfl ev8 (by decide) rfl (fun ls hl => ?_)
    replace hl : lv_has ls 4 [(3, .int v8), (0, .ref b), (1, .ref (B + ax)), (2, .ref (B + am))] := hl
    refine lv_goto (pc := 1808) (tgt := 18) hx hb dL_law_1808 (by decide) ?_
    refine W.widen (k := 775 + 57 * (j + 1)) (n := 16739 + 614 * (j + 1)) (lw0 j).1 (lw0 j).2 ?_
    exact hB _ _ _ _ _ ev8 P (lv_sub hl [1, 2, 3, 0] rfl) hF.symm
  · rw [if_neg hc] at hF
    refine lv_iconst (pc := 1210) (v := 0) hx hb dL_law_1210 (by decide) ?_
    exact absurd (Option.some.inj hF).symm (hE _)
def F_law_c30 (L : Nat) (xs : Nat → Int32) (ax am : Nat) (vi : Int32) (h : Hp) : Option ((Int32 × Hp) ⊕ ((Int32 × Hp) ⊕ Hp)) :=
(cO h ax 9 (F_X9_worst h ax)).bind fun v1 =>
(cO h am 10 (F_X10_worst h am)).bind (un fun v2 h3 =>
if v1 = v2 then (
bl (vi + 5) fun v4 =>
some (.inl (v4, h3))) else (
some (.inr (.inl (0, h3)))))
set_option maxRecDepth 100000 in
set_option maxHeartbeats 4000000 in
theorem w_law_c30 {p : Program} {l : Launch} {e : Env} {s : State} {m : MethodId} {args : Array Value} {below : List Frame} {meth : Method} {c : Code} {Q : State → Prop} {G : GG} {B b L : Nat} {xs : Nat → Int32} (CX : Cxt p m c code 4 s args RL G B) (SC : SCr b L xs s B) {ax am : Nat} {vi : Int32} {h : Hp} {j : Nat} {z : (Int32 × Hp) ⊕ ((Int32 × Hp) ⊕ Hp)} {H : Heap} {locs : List Loc} {ls : Array Slot} (hj : j < 512) (P : Pic G B h s H locs) (hl : lv_has ls 4 [(0, .ref b), (1, .ref (B + ax)), (2, .ref (B + am)), (3, .int vi)]) (hF : F_law_c30 L xs ax am vi h = some z)
    (hB : ∀ (v : Int32) (h1 : Hp) (H : Heap) (locs : List Loc) (ls : Array Slot), vi + 5 = v → Pic G B h1 s H locs → lv_has ls 4 [(0, .ref b), (1, .ref (B + ax)), (2, .ref (B + am)), (3, .int v)] → some z = some (.inl (v, h1)) → W p l e room_1 s m args below meth c H locs (775 + 57 * (j + 1)) (16739 + 614 * (j + 1)) Q (F0 m 18 ls []))
    (hE : ∀ h1, ¬ z = .inr (.inl (0, h1))) : W p l e room_1 s m args below meth c H locs (775 + 57 * j) (16739 + 614 * j) Q (F0 m 1212 ls []) := by
  obtain ⟨⟨hx, hb, hml, hown, hts⟩, -, -⟩ := id CX
  unfold F_law_c30 at hF
  refine lv_aload_n (pc := 1212) hx hb dL_law_1212 rfl (lv_at hl 1 rfl) ?_
  refine r_cVp (pc := 1213) (As := []) (rest := []) CX P hl.1 hF kv_L_138 (fun r q => c_X9_worst l G B _ _ _ q) rfl rfl ⟨Nat.le_of_ble_eq_true rfl, Nat.le_of_ble_eq_true rfl⟩ (Nat.le_of_ble_eq_true rfl) (lf0 hj) dL_law_1213 (fun v1 H locs P hF => ?_)
  refine lv_aload_n (pc := 1216) hx hb dL_law_1216 rfl (lv_at hl 2 rfl) ?_
  refine r_cVi (pc := 1217) (As := []) (rest := [.int v1]) CX P hl.1 hF kv_L_141 (fun r h1 q => c_X10_worst l G B _ _ _ _ q) rfl rfl ⟨Nat.le_of_ble_eq_true rfl, Nat.le_of_ble_eq_true rfl⟩ (Nat.le_of_ble_eq_true rfl) (lf0 hj) dL_law_1217 (fun v2 h3 H locs P hF => ?_)
  replace hF := un_i hF
  refine lv_icmp_eq (pc := 1220) (tgt := 1805) hx hb dL_law_1220 (by decide) (fun hc => ?_) (fun hc => ?_)
  · rw [if_pos hc] at hF
    obtain ⟨v4, ev4, hF⟩ := bl_o hF
    refine lv_iinc (pc := 1805) (k := 3) (v := v4) hx hb dL_law_1805 hl rfl ev4 (by decide) rfl (fun ls hl => ?_)
    replace hl : lv_has ls 4 [(3, .int v4), (0, .ref b), (1, .ref (B + ax)), (2, .ref (B + am))] := hl
    refine lv_goto (pc := 1808) (tgt := 18) hx hb dL_law_1808 (by decide) ?_
    refine W.widen (k := 775 + 57 * (j + 1)) (n := 16739 + 614 * (j + 1)) (lw0 j).1 (lw0 j).2 ?_
    exact hB _ _ _ _ _ ev4 P (lv_sub hl [1, 2, 3, 0] rfl) hF.symm
  · rw [if_neg hc] at hF
    refine lv_iconst (pc := 1223) (v := 0) hx hb dL_law_1223 (by decide) ?_
    exact absurd (Option.some.inj hF).symm (hE _)
def F_law_c31 (L : Nat) (xs : Nat → Int32) (ax am : Nat) (vi : Int32) (h : Hp) : Option ((Int32 × Hp) ⊕ ((Int32 × Hp) ⊕ Hp)) :=
(scX L xs (vi + 1)).bind fun v1 =>
(scX L xs (vi + 2)).bind fun v2 =>
(cO h ax 9 (F_X9_units h ax v1 v2)).bind (un fun v3 h4 =>
(scX L xs (vi + 1)).bind fun v5 =>
(scX L xs (vi + 2)).bind fun v6 =>
(cO h4 am 10 (F_X10_units h4 am v5 v6)).bind (un fun v7 h8 =>
if v3 = v7 then (
bl (vi + 5) fun v9 =>
some (.inl (v9, h8))) else (
some (.inr (.inl (0, h8))))))
set_option maxRecDepth 100000 in
set_option maxHeartbeats 4000000 in
theorem w_law_c31 {p : Program} {l : Launch} {e : Env} {s : State} {m : MethodId} {args : Array Value} {below : List Frame} {meth : Method} {c : Code} {Q : State → Prop} {G : GG} {B b L : Nat} {xs : Nat → Int32} (CX : Cxt p m c code 4 s args RL G B) (SC : SCr b L xs s B) {ax am : Nat} {vi : Int32} {h : Hp} {j : Nat} {z : (Int32 × Hp) ⊕ ((Int32 × Hp) ⊕ Hp)} {H : Heap} {locs : List Loc} {ls : Array Slot} (hj : j < 512) (P : Pic G B h s H locs) (hl : lv_has ls 4 [(0, .ref b), (1, .ref (B + ax)), (2, .ref (B + am)), (3, .int vi)]) (hF : F_law_c31 L xs ax am vi h = some z)
    (hB : ∀ (v : Int32) (h1 : Hp) (H : Heap) (locs : List Loc) (ls : Array Slot), vi + 5 = v → Pic G B h1 s H locs → lv_has ls 4 [(0, .ref b), (1, .ref (B + ax)), (2, .ref (B + am)), (3, .int v)] → some z = some (.inl (v, h1)) → W p l e room_1 s m args below meth c H locs (775 + 57 * (j + 1)) (16739 + 614 * (j + 1)) Q (F0 m 18 ls []))
    (hE : ∀ h1, ¬ z = .inr (.inl (0, h1))) : W p l e room_1 s m args below meth c H locs (775 + 57 * j) (16739 + 614 * j) Q (F0 m 1225 ls []) := by
  obtain ⟨⟨hx, hb, hml, hown, hts⟩, -, -⟩ := id CX
  unfold F_law_c31 at hF
  refine lv_aload_n (pc := 1225) hx hb dL_law_1225 rfl (lv_at hl 1 rfl) ?_
  refine lv_aload_n (pc := 1226) hx hb dL_law_1226 rfl (lv_at hl 0 rfl) ?_
  refine lv_iload_n (pc := 1227) hx hb dL_law_1227 rfl (lv_at hl 3 rfl) ?_
  refine lv_iconst (pc := 1228) (v := 1) hx hb dL_law_1228 (by decide) ?_
  refine lv_iadd (pc := 1229) hx hb dL_law_1229 ?_
  refine r_sc (pc := 1230) CX P SC hF dL_law_1230 (fun v1 hF => ?_)
  refine lv_aload_n (pc := 1231) hx hb dL_law_1231 rfl (lv_at hl 0 rfl) ?_
  refine lv_iload_n (pc := 1232) hx hb dL_law_1232 rfl (lv_at hl 3 rfl) ?_
  refine lv_iconst (pc := 1233) (v := 2) hx hb dL_law_1233 (by decide) ?_
  refine lv_iadd (pc := 1234) hx hb dL_law_1234 ?_
  refine r_sc (pc := 1235) CX P SC hF dL_law_1235 (fun v2 hF => ?_)
  refine r_cVi (pc := 1236) (As := [.int v1, .int v2]) (rest := []) CX P hl.1 hF kv_L_142 (fun r h1 q => c_X9_units l G B _ _ _ _ _ _ q) rfl rfl ⟨Nat.le_of_ble_eq_true rfl, Nat.le_of_ble_eq_true rfl⟩ (Nat.le_of_ble_eq_true rfl) (lf0 hj) dL_law_1236 (fun v3 h4 H locs P hF => ?_)
  replace hF := un_i hF
  refine lv_aload_n (pc := 1239) hx hb dL_law_1239 rfl (lv_at hl 2 rfl) ?_
  refine lv_aload_n (pc := 1240) hx hb dL_law_1240 rfl (lv_at hl 0 rfl) ?_
  refine lv_iload_n (pc := 1241) hx hb dL_law_1241 rfl (lv_at hl 3 rfl) ?_
  refine lv_iconst (pc := 1242) (v := 1) hx hb dL_law_1242 (by decide) ?_
  refine lv_iadd (pc := 1243) hx hb dL_law_1243 ?_
  refine r_sc (pc := 1244) CX P SC hF dL_law_1244 (fun v5 hF => ?_)
  refine lv_aload_n (pc := 1245) hx hb dL_law_1245 rfl (lv_at hl 0 rfl) ?_
  refine lv_iload_n (pc := 1246) hx hb dL_law_1246 rfl (lv_at hl 3 rfl) ?_
  refine lv_iconst (pc := 1247) (v := 2) hx hb dL_law_1247 (by decide) ?_
  refine lv_iadd (pc := 1248) hx hb dL_law_1248 ?_
  refine r_sc (pc := 1249) CX P SC hF dL_law_1249 (fun v6 hF => ?_)
  refine r_cVi (pc := 1250) (As := [.int v5, .int v6]) (rest := [.int v3]) CX P hl.1 hF kv_L_145 (fun r h1 q => c_X10_units l G B _ _ _ _ _ _ q) rfl rfl ⟨Nat.le_of_ble_eq_true rfl, Nat.le_of_ble_eq_true rfl⟩ (Nat.le_of_ble_eq_true rfl) (lf0 hj) dL_law_1250 (fun v7 h8 H locs P hF => ?_)
  replace hF := un_i hF
  refine lv_icmp_eq (pc := 1253) (tgt := 1805) hx hb dL_law_1253 (by decide) (fun hc => ?_) (fun hc => ?_)
  · rw [if_pos hc] at hF
    obtain ⟨v9, ev9, hF⟩ := bl_o hF
    refine lv_iinc (pc := 1805) (k := 3) (v := v9) hx hb dL_law_1805 hl rfl ev9 (by decide) rfl (fun ls hl => ?_)
    replace hl : lv_has ls 4 [(3, .int v9), (0, .ref b), (1, .ref (B + ax)), (2, .ref (B + am))] := hl
    refine lv_goto (pc := 1808) (tgt := 18) hx hb dL_law_1808 (by decide) ?_
    refine W.widen (k := 775 + 57 * (j + 1)) (n := 16739 + 614 * (j + 1)) (lw0 j).1 (lw0 j).2 ?_
    exact hB _ _ _ _ _ ev9 P (lv_sub hl [1, 2, 3, 0] rfl) hF.symm
  · rw [if_neg hc] at hF
    refine lv_iconst (pc := 1256) (v := 0) hx hb dL_law_1256 (by decide) ?_
    exact absurd (Option.some.inj hF).symm (hE _)
def F_law_c32 (L : Nat) (xs : Nat → Int32) (ax am : Nat) (vi : Int32) (h : Hp) : Option ((Int32 × Hp) ⊕ ((Int32 × Hp) ⊕ Hp)) :=
(scX L xs (vi + 1)).bind fun v1 =>
(scX L xs (vi + 2)).bind fun v2 =>
(cO h ax 9 (F_X9_fired h ax v1 v2)).bind fun v3 =>
(scX L xs (vi + 1)).bind fun v4 =>
(scX L xs (vi + 2)).bind fun v5 =>
(cO h am 10 (F_X10_fired h am v4 v5)).bind (un fun v6 h7 =>
if v3 = v6 then (
bl (vi + 5) fun v8 =>
some (.inl (v8, h7))) else (
some (.inr (.inl (0, h7)))))
set_option maxRecDepth 100000 in
set_option maxHeartbeats 4000000 in
theorem w_law_c32 {p : Program} {l : Launch} {e : Env} {s : State} {m : MethodId} {args : Array Value} {below : List Frame} {meth : Method} {c : Code} {Q : State → Prop} {G : GG} {B b L : Nat} {xs : Nat → Int32} (CX : Cxt p m c code 4 s args RL G B) (SC : SCr b L xs s B) {ax am : Nat} {vi : Int32} {h : Hp} {j : Nat} {z : (Int32 × Hp) ⊕ ((Int32 × Hp) ⊕ Hp)} {H : Heap} {locs : List Loc} {ls : Array Slot} (hj : j < 512) (P : Pic G B h s H locs) (hl : lv_has ls 4 [(0, .ref b), (1, .ref (B + ax)), (2, .ref (B + am)), (3, .int vi)]) (hF : F_law_c32 L xs ax am vi h = some z)
    (hB : ∀ (v : Int32) (h1 : Hp) (H : Heap) (locs : List Loc) (ls : Array Slot), vi + 5 = v → Pic G B h1 s H locs → lv_has ls 4 [(0, .ref b), (1, .ref (B + ax)), (2, .ref (B + am)), (3, .int v)] → some z = some (.inl (v, h1)) → W p l e room_1 s m args below meth c H locs (775 + 57 * (j + 1)) (16739 + 614 * (j + 1)) Q (F0 m 18 ls []))
    (hE : ∀ h1, ¬ z = .inr (.inl (0, h1))) : W p l e room_1 s m args below meth c H locs (775 + 57 * j) (16739 + 614 * j) Q (F0 m 1258 ls []) := by
  obtain ⟨⟨hx, hb, hml, hown, hts⟩, -, -⟩ := id CX
  unfold F_law_c32 at hF
  refine lv_aload_n (pc := 1258) hx hb dL_law_1258 rfl (lv_at hl 1 rfl) ?_
  refine lv_aload_n (pc := 1259) hx hb dL_law_1259 rfl (lv_at hl 0 rfl) ?_
  refine lv_iload_n (pc := 1260) hx hb dL_law_1260 rfl (lv_at hl 3 rfl) ?_
  refine lv_iconst (pc := 1261) (v := 1) hx hb dL_law_1261 (by decide) ?_
  refine lv_iadd (pc := 1262) hx hb dL_law_1262 ?_
  refine r_sc (pc := 1263) CX P SC hF dL_law_1263 (fun v1 hF => ?_)
  refine lv_aload_n (pc := 1264) hx hb dL_law_1264 rfl (lv_at hl 0 rfl) ?_
  refine lv_iload_n (pc := 1265) hx hb dL_law_1265 rfl (lv_at hl 3 rfl) ?_
  refine lv_iconst (pc := 1266) (v := 2) hx hb dL_law_1266 (by decide) ?_
  refine lv_iadd (pc := 1267) hx hb dL_law_1267 ?_
  refine r_sc (pc := 1268) CX P SC hF dL_law_1268 (fun v2 hF => ?_)
  refine r_cVp (pc := 1269) (As := [.int v1, .int v2]) (rest := []) CX P hl.1 hF kv_L_146 (fun r q => c_X9_fired l G B _ _ _ _ _ q) rfl rfl ⟨Nat.le_of_ble_eq_true rfl, Nat.le_of_ble_eq_true rfl⟩ (Nat.le_of_ble_eq_true rfl) (lf0 hj) dL_law_1269 (fun v3 H locs P hF => ?_)
  refine lv_aload_n (pc := 1272) hx hb dL_law_1272 rfl (lv_at hl 2 rfl) ?_
  refine lv_aload_n (pc := 1273) hx hb dL_law_1273 rfl (lv_at hl 0 rfl) ?_
  refine lv_iload_n (pc := 1274) hx hb dL_law_1274 rfl (lv_at hl 3 rfl) ?_
  refine lv_iconst (pc := 1275) (v := 1) hx hb dL_law_1275 (by decide) ?_
  refine lv_iadd (pc := 1276) hx hb dL_law_1276 ?_
  refine r_sc (pc := 1277) CX P SC hF dL_law_1277 (fun v4 hF => ?_)
  refine lv_aload_n (pc := 1278) hx hb dL_law_1278 rfl (lv_at hl 0 rfl) ?_
  refine lv_iload_n (pc := 1279) hx hb dL_law_1279 rfl (lv_at hl 3 rfl) ?_
  refine lv_iconst (pc := 1280) (v := 2) hx hb dL_law_1280 (by decide) ?_
  refine lv_iadd (pc := 1281) hx hb dL_law_1281 ?_
  refine r_sc (pc := 1282) CX P SC hF dL_law_1282 (fun v5 hF => ?_)
  refine r_cVi (pc := 1283) (As := [.int v4, .int v5]) (rest := [.int v3]) CX P hl.1 hF kv_L_149 (fun r h1 q => c_X10_fired l G B _ _ _ _ _ _ q) rfl rfl ⟨Nat.le_of_ble_eq_true rfl, Nat.le_of_ble_eq_true rfl⟩ (Nat.le_of_ble_eq_true rfl) (lf0 hj) dL_law_1283 (fun v6 h7 H locs P hF => ?_)
  replace hF := un_i hF
  refine lv_icmp_eq (pc := 1286) (tgt := 1805) hx hb dL_law_1286 (by decide) (fun hc => ?_) (fun hc => ?_)
  · rw [if_pos hc] at hF
    obtain ⟨v8, ev8, hF⟩ := bl_o hF
    refine lv_iinc (pc := 1805) (k := 3) (v := v8) hx hb dL_law_1805 hl rfl ev8 (by decide) rfl (fun ls hl => ?_)
    replace hl : lv_has ls 4 [(3, .int v8), (0, .ref b), (1, .ref (B + ax)), (2, .ref (B + am))] := hl
    refine lv_goto (pc := 1808) (tgt := 18) hx hb dL_law_1808 (by decide) ?_
    refine W.widen (k := 775 + 57 * (j + 1)) (n := 16739 + 614 * (j + 1)) (lw0 j).1 (lw0 j).2 ?_
    exact hB _ _ _ _ _ ev8 P (lv_sub hl [1, 2, 3, 0] rfl) hF.symm
  · rw [if_neg hc] at hF
    refine lv_iconst (pc := 1289) (v := 0) hx hb dL_law_1289 (by decide) ?_
    exact absurd (Option.some.inj hF).symm (hE _)
def F_law_c33 (L : Nat) (xs : Nat → Int32) (ax am : Nat) (vi : Int32) (h : Hp) : Option ((Int32 × Hp) ⊕ ((Int32 × Hp) ⊕ Hp)) :=
(scX L xs (vi + 1)).bind fun v1 =>
(scX L xs (vi + 2)).bind fun v2 =>
(cO h ax 9 (F_X9_events h ax v1 v2)).bind fun v3 =>
(scX L xs (vi + 1)).bind fun v4 =>
(scX L xs (vi + 2)).bind fun v5 =>
(cO h am 10 (F_X10_events h am v4 v5)).bind (un fun v6 h7 =>
if v3 = v6 then (
bl (vi + 5) fun v8 =>
some (.inl (v8, h7))) else (
some (.inr (.inl (0, h7)))))
set_option maxRecDepth 100000 in
set_option maxHeartbeats 4000000 in
theorem w_law_c33 {p : Program} {l : Launch} {e : Env} {s : State} {m : MethodId} {args : Array Value} {below : List Frame} {meth : Method} {c : Code} {Q : State → Prop} {G : GG} {B b L : Nat} {xs : Nat → Int32} (CX : Cxt p m c code 4 s args RL G B) (SC : SCr b L xs s B) {ax am : Nat} {vi : Int32} {h : Hp} {j : Nat} {z : (Int32 × Hp) ⊕ ((Int32 × Hp) ⊕ Hp)} {H : Heap} {locs : List Loc} {ls : Array Slot} (hj : j < 512) (P : Pic G B h s H locs) (hl : lv_has ls 4 [(0, .ref b), (1, .ref (B + ax)), (2, .ref (B + am)), (3, .int vi)]) (hF : F_law_c33 L xs ax am vi h = some z)
    (hB : ∀ (v : Int32) (h1 : Hp) (H : Heap) (locs : List Loc) (ls : Array Slot), vi + 5 = v → Pic G B h1 s H locs → lv_has ls 4 [(0, .ref b), (1, .ref (B + ax)), (2, .ref (B + am)), (3, .int v)] → some z = some (.inl (v, h1)) → W p l e room_1 s m args below meth c H locs (775 + 57 * (j + 1)) (16739 + 614 * (j + 1)) Q (F0 m 18 ls []))
    (hE : ∀ h1, ¬ z = .inr (.inl (0, h1))) : W p l e room_1 s m args below meth c H locs (775 + 57 * j) (16739 + 614 * j) Q (F0 m 1291 ls []) := by
  obtain ⟨⟨hx, hb, hml, hown, hts⟩, -, -⟩ := id CX
  unfold F_law_c33 at hF
  refine lv_aload_n (pc := 1291) hx hb dL_law_1291 rfl (lv_at hl 1 rfl) ?_
  refine lv_aload_n (pc := 1292) hx hb dL_law_1292 rfl (lv_at hl 0 rfl) ?_
  refine lv_iload_n (pc := 1293) hx hb dL_law_1293 rfl (lv_at hl 3 rfl) ?_
  refine lv_iconst (pc := 1294) (v := 1) hx hb dL_law_1294 (by decide) ?_
  refine lv_iadd (pc := 1295) hx hb dL_law_1295 ?_
  refine r_sc (pc := 1296) CX P SC hF dL_law_1296 (fun v1 hF => ?_)
  refine lv_aload_n (pc := 1297) hx hb dL_law_1297 rfl (lv_at hl 0 rfl) ?_
  refine lv_iload_n (pc := 1298) hx hb dL_law_1298 rfl (lv_at hl 3 rfl) ?_
  refine lv_iconst (pc := 1299) (v := 2) hx hb dL_law_1299 (by decide) ?_
  refine lv_iadd (pc := 1300) hx hb dL_law_1300 ?_
  refine r_sc (pc := 1301) CX P SC hF dL_law_1301 (fun v2 hF => ?_)
  refine r_cVp (pc := 1302) (As := [.int v1, .int v2]) (rest := []) CX P hl.1 hF kv_L_150 (fun r q => c_X9_events l G B _ _ _ _ _ q) rfl rfl ⟨Nat.le_of_ble_eq_true rfl, Nat.le_of_ble_eq_true rfl⟩ (Nat.le_of_ble_eq_true rfl) (lf0 hj) dL_law_1302 (fun v3 H locs P hF => ?_)
  refine lv_aload_n (pc := 1305) hx hb dL_law_1305 rfl (lv_at hl 2 rfl) ?_
  refine lv_aload_n (pc := 1306) hx hb dL_law_1306 rfl (lv_at hl 0 rfl) ?_
  refine lv_iload_n (pc := 1307) hx hb dL_law_1307 rfl (lv_at hl 3 rfl) ?_
  refine lv_iconst (pc := 1308) (v := 1) hx hb dL_law_1308 (by decide) ?_
  refine lv_iadd (pc := 1309) hx hb dL_law_1309 ?_
  refine r_sc (pc := 1310) CX P SC hF dL_law_1310 (fun v4 hF => ?_)
  refine lv_aload_n (pc := 1311) hx hb dL_law_1311 rfl (lv_at hl 0 rfl) ?_
  refine lv_iload_n (pc := 1312) hx hb dL_law_1312 rfl (lv_at hl 3 rfl) ?_
  refine lv_iconst (pc := 1313) (v := 2) hx hb dL_law_1313 (by decide) ?_
  refine lv_iadd (pc := 1314) hx hb dL_law_1314 ?_
  refine r_sc (pc := 1315) CX P SC hF dL_law_1315 (fun v5 hF => ?_)
  refine r_cVi (pc := 1316) (As := [.int v4, .int v5]) (rest := [.int v3]) CX P hl.1 hF kv_L_153 (fun r h1 q => c_X10_events l G B _ _ _ _ _ _ q) rfl rfl ⟨Nat.le_of_ble_eq_true rfl, Nat.le_of_ble_eq_true rfl⟩ (Nat.le_of_ble_eq_true rfl) (lf0 hj) dL_law_1316 (fun v6 h7 H locs P hF => ?_)
  replace hF := un_i hF
  refine lv_icmp_eq (pc := 1319) (tgt := 1805) hx hb dL_law_1319 (by decide) (fun hc => ?_) (fun hc => ?_)
  · rw [if_pos hc] at hF
    obtain ⟨v8, ev8, hF⟩ := bl_o hF
    refine lv_iinc (pc := 1805) (k := 3) (v := v8) hx hb dL_law_1805 hl rfl ev8 (by decide) rfl (fun ls hl => ?_)
    replace hl : lv_has ls 4 [(3, .int v8), (0, .ref b), (1, .ref (B + ax)), (2, .ref (B + am))] := hl
    refine lv_goto (pc := 1808) (tgt := 18) hx hb dL_law_1808 (by decide) ?_
    refine W.widen (k := 775 + 57 * (j + 1)) (n := 16739 + 614 * (j + 1)) (lw0 j).1 (lw0 j).2 ?_
    exact hB _ _ _ _ _ ev8 P (lv_sub hl [1, 2, 3, 0] rfl) hF.symm
  · rw [if_neg hc] at hF
    refine lv_iconst (pc := 1322) (v := 0) hx hb dL_law_1322 (by decide) ?_
    exact absurd (Option.some.inj hF).symm (hE _)
def F_law_c34 (L : Nat) (xs : Nat → Int32) (ax am : Nat) (vi : Int32) (h : Hp) : Option ((Int32 × Hp) ⊕ ((Int32 × Hp) ⊕ Hp)) :=
(scX L xs (vi + 1)).bind fun v1 =>
(cO h ax 9 (F_X9_victim h ax v1)).bind fun v2 =>
(scX L xs (vi + 1)).bind fun v3 =>
(cO h am 10 (F_X10_victim h am v3)).bind (un fun v4 h5 =>
if v2 = v4 then (
bl (vi + 5) fun v6 =>
some (.inl (v6, h5))) else (
some (.inr (.inl (0, h5)))))
set_option maxRecDepth 100000 in
set_option maxHeartbeats 4000000 in
theorem w_law_c34 {p : Program} {l : Launch} {e : Env} {s : State} {m : MethodId} {args : Array Value} {below : List Frame} {meth : Method} {c : Code} {Q : State → Prop} {G : GG} {B b L : Nat} {xs : Nat → Int32} (CX : Cxt p m c code 4 s args RL G B) (SC : SCr b L xs s B) {ax am : Nat} {vi : Int32} {h : Hp} {j : Nat} {z : (Int32 × Hp) ⊕ ((Int32 × Hp) ⊕ Hp)} {H : Heap} {locs : List Loc} {ls : Array Slot} (hj : j < 512) (P : Pic G B h s H locs) (hl : lv_has ls 4 [(0, .ref b), (1, .ref (B + ax)), (2, .ref (B + am)), (3, .int vi)]) (hF : F_law_c34 L xs ax am vi h = some z)
    (hB : ∀ (v : Int32) (h1 : Hp) (H : Heap) (locs : List Loc) (ls : Array Slot), vi + 5 = v → Pic G B h1 s H locs → lv_has ls 4 [(0, .ref b), (1, .ref (B + ax)), (2, .ref (B + am)), (3, .int v)] → some z = some (.inl (v, h1)) → W p l e room_1 s m args below meth c H locs (775 + 57 * (j + 1)) (16739 + 614 * (j + 1)) Q (F0 m 18 ls []))
    (hE : ∀ h1, ¬ z = .inr (.inl (0, h1))) : W p l e room_1 s m args below meth c H locs (775 + 57 * j) (16739 + 614 * j) Q (F0 m 1324 ls []) := by
  obtain ⟨⟨hx, hb, hml, hown, hts⟩, -, -⟩ := id CX
  unfold F_law_c34 at hF
  refine lv_aload_n (pc := 1324) hx hb dL_law_1324 rfl (lv_at hl 1 rfl) ?_
  refine lv_aload_n (pc := 1325) hx hb dL_law_1325 rfl (lv_at hl 0 rfl) ?_
  refine lv_iload_n (pc := 1326) hx hb dL_law_1326 rfl (lv_at hl 3 rfl) ?_
  refine lv_iconst (pc := 1327) (v := 1) hx hb dL_law_1327 (by decide) ?_
  refine lv_iadd (pc := 1328) hx hb dL_law_1328 ?_
  refine r_sc (pc := 1329) CX P SC hF dL_law_1329 (fun v1 hF => ?_)
  refine r_cVp (pc := 1330) (As := [.int v1]) (rest := []) CX P hl.1 hF kv_L_154 (fun r q => c_X9_victim l G B _ _ _ _ q) rfl rfl ⟨Nat.le_of_ble_eq_true rfl, Nat.le_of_ble_eq_true rfl⟩ (Nat.le_of_ble_eq_true rfl) (lf0 hj) dL_law_1330 (fun v2 H locs P hF => ?_)
  refine lv_aload_n (pc := 1333) hx hb dL_law_1333 rfl (lv_at hl 2 rfl) ?_
  refine lv_aload_n (pc := 1334) hx hb dL_law_1334 rfl (lv_at hl 0 rfl) ?_
  refine lv_iload_n (pc := 1335) hx hb dL_law_1335 rfl (lv_at hl 3 rfl) ?_
  refine lv_iconst (pc := 1336) (v := 1) hx hb dL_law_1336 (by decide) ?_
  refine lv_iadd (pc := 1337) hx hb dL_law_1337 ?_
  refine r_sc (pc := 1338) CX P SC hF dL_law_1338 (fun v3 hF => ?_)
  refine r_cVi (pc := 1339) (As := [.int v3]) (rest := [.int v2]) CX P hl.1 hF kv_L_157 (fun r h1 q => c_X10_victim l G B _ _ _ _ _ q) rfl rfl ⟨Nat.le_of_ble_eq_true rfl, Nat.le_of_ble_eq_true rfl⟩ (Nat.le_of_ble_eq_true rfl) (lf0 hj) dL_law_1339 (fun v4 h5 H locs P hF => ?_)
  replace hF := un_i hF
  refine lv_icmp_eq (pc := 1342) (tgt := 1805) hx hb dL_law_1342 (by decide) (fun hc => ?_) (fun hc => ?_)
  · rw [if_pos hc] at hF
    obtain ⟨v6, ev6, hF⟩ := bl_o hF
    refine lv_iinc (pc := 1805) (k := 3) (v := v6) hx hb dL_law_1805 hl rfl ev6 (by decide) rfl (fun ls hl => ?_)
    replace hl : lv_has ls 4 [(3, .int v6), (0, .ref b), (1, .ref (B + ax)), (2, .ref (B + am))] := hl
    refine lv_goto (pc := 1808) (tgt := 18) hx hb dL_law_1808 (by decide) ?_
    refine W.widen (k := 775 + 57 * (j + 1)) (n := 16739 + 614 * (j + 1)) (lw0 j).1 (lw0 j).2 ?_
    exact hB _ _ _ _ _ ev6 P (lv_sub hl [1, 2, 3, 0] rfl) hF.symm
  · rw [if_neg hc] at hF
    refine lv_iconst (pc := 1345) (v := 0) hx hb dL_law_1345 (by decide) ?_
    exact absurd (Option.some.inj hF).symm (hE _)
def F_law_c35 (L : Nat) (xs : Nat → Int32) (ax am : Nat) (vi : Int32) (h : Hp) : Option ((Int32 × Hp) ⊕ ((Int32 × Hp) ⊕ Hp)) :=
(scX L xs (vi + 1)).bind fun v1 =>
(cO h ax 9 (F_X9_dying h ax v1)).bind fun v2 =>
(scX L xs (vi + 1)).bind fun v3 =>
(cO h am 10 (F_X10_dying h am v3)).bind (un fun v4 h5 =>
if v2 = v4 then (
bl (vi + 5) fun v6 =>
some (.inl (v6, h5))) else (
some (.inr (.inl (0, h5)))))
set_option maxRecDepth 100000 in
set_option maxHeartbeats 4000000 in
theorem w_law_c35 {p : Program} {l : Launch} {e : Env} {s : State} {m : MethodId} {args : Array Value} {below : List Frame} {meth : Method} {c : Code} {Q : State → Prop} {G : GG} {B b L : Nat} {xs : Nat → Int32} (CX : Cxt p m c code 4 s args RL G B) (SC : SCr b L xs s B) {ax am : Nat} {vi : Int32} {h : Hp} {j : Nat} {z : (Int32 × Hp) ⊕ ((Int32 × Hp) ⊕ Hp)} {H : Heap} {locs : List Loc} {ls : Array Slot} (hj : j < 512) (P : Pic G B h s H locs) (hl : lv_has ls 4 [(0, .ref b), (1, .ref (B + ax)), (2, .ref (B + am)), (3, .int vi)]) (hF : F_law_c35 L xs ax am vi h = some z)
    (hB : ∀ (v : Int32) (h1 : Hp) (H : Heap) (locs : List Loc) (ls : Array Slot), vi + 5 = v → Pic G B h1 s H locs → lv_has ls 4 [(0, .ref b), (1, .ref (B + ax)), (2, .ref (B + am)), (3, .int v)] → some z = some (.inl (v, h1)) → W p l e room_1 s m args below meth c H locs (775 + 57 * (j + 1)) (16739 + 614 * (j + 1)) Q (F0 m 18 ls []))
    (hE : ∀ h1, ¬ z = .inr (.inl (0, h1))) : W p l e room_1 s m args below meth c H locs (775 + 57 * j) (16739 + 614 * j) Q (F0 m 1347 ls []) := by
  obtain ⟨⟨hx, hb, hml, hown, hts⟩, -, -⟩ := id CX
  unfold F_law_c35 at hF
  refine lv_aload_n (pc := 1347) hx hb dL_law_1347 rfl (lv_at hl 1 rfl) ?_
  refine lv_aload_n (pc := 1348) hx hb dL_law_1348 rfl (lv_at hl 0 rfl) ?_
  refine lv_iload_n (pc := 1349) hx hb dL_law_1349 rfl (lv_at hl 3 rfl) ?_
  refine lv_iconst (pc := 1350) (v := 1) hx hb dL_law_1350 (by decide) ?_
  refine lv_iadd (pc := 1351) hx hb dL_law_1351 ?_
  refine r_sc (pc := 1352) CX P SC hF dL_law_1352 (fun v1 hF => ?_)
  refine r_cVp (pc := 1353) (As := [.int v1]) (rest := []) CX P hl.1 hF kv_L_158 (fun r q => c_X9_dying l G B _ _ _ _ q) rfl rfl ⟨Nat.le_of_ble_eq_true rfl, Nat.le_of_ble_eq_true rfl⟩ (Nat.le_of_ble_eq_true rfl) (lf0 hj) dL_law_1353 (fun v2 H locs P hF => ?_)
  refine lv_aload_n (pc := 1356) hx hb dL_law_1356 rfl (lv_at hl 2 rfl) ?_
  refine lv_aload_n (pc := 1357) hx hb dL_law_1357 rfl (lv_at hl 0 rfl) ?_
  refine lv_iload_n (pc := 1358) hx hb dL_law_1358 rfl (lv_at hl 3 rfl) ?_
  refine lv_iconst (pc := 1359) (v := 1) hx hb dL_law_1359 (by decide) ?_
  refine lv_iadd (pc := 1360) hx hb dL_law_1360 ?_
  refine r_sc (pc := 1361) CX P SC hF dL_law_1361 (fun v3 hF => ?_)
  refine r_cVi (pc := 1362) (As := [.int v3]) (rest := [.int v2]) CX P hl.1 hF kv_L_161 (fun r h1 q => c_X10_dying l G B _ _ _ _ _ q) rfl rfl ⟨Nat.le_of_ble_eq_true rfl, Nat.le_of_ble_eq_true rfl⟩ (Nat.le_of_ble_eq_true rfl) (lf0 hj) dL_law_1362 (fun v4 h5 H locs P hF => ?_)
  replace hF := un_i hF
  refine lv_icmp_eq (pc := 1365) (tgt := 1805) hx hb dL_law_1365 (by decide) (fun hc => ?_) (fun hc => ?_)
  · rw [if_pos hc] at hF
    obtain ⟨v6, ev6, hF⟩ := bl_o hF
    refine lv_iinc (pc := 1805) (k := 3) (v := v6) hx hb dL_law_1805 hl rfl ev6 (by decide) rfl (fun ls hl => ?_)
    replace hl : lv_has ls 4 [(3, .int v6), (0, .ref b), (1, .ref (B + ax)), (2, .ref (B + am))] := hl
    refine lv_goto (pc := 1808) (tgt := 18) hx hb dL_law_1808 (by decide) ?_
    refine W.widen (k := 775 + 57 * (j + 1)) (n := 16739 + 614 * (j + 1)) (lw0 j).1 (lw0 j).2 ?_
    exact hB _ _ _ _ _ ev6 P (lv_sub hl [1, 2, 3, 0] rfl) hF.symm
  · rw [if_neg hc] at hF
    refine lv_iconst (pc := 1368) (v := 0) hx hb dL_law_1368 (by decide) ?_
    exact absurd (Option.some.inj hF).symm (hE _)
def F_law_c36 (L : Nat) (xs : Nat → Int32) (ax am : Nat) (vi : Int32) (h : Hp) : Option ((Int32 × Hp) ⊕ ((Int32 × Hp) ⊕ Hp)) :=
(scX L xs (vi + 1)).bind fun v1 =>
(cO h ax 9 (F_X9_room h ax v1)).bind fun v2 =>
(scX L xs (vi + 1)).bind fun v3 =>
(cO h am 10 (F_X10_room h am v3)).bind (un fun v4 h5 =>
if v2 = v4 then (
bl (vi + 5) fun v6 =>
some (.inl (v6, h5))) else (
some (.inr (.inl (0, h5)))))
set_option maxRecDepth 100000 in
set_option maxHeartbeats 4000000 in
theorem w_law_c36 {p : Program} {l : Launch} {e : Env} {s : State} {m : MethodId} {args : Array Value} {below : List Frame} {meth : Method} {c : Code} {Q : State → Prop} {G : GG} {B b L : Nat} {xs : Nat → Int32} (CX : Cxt p m c code 4 s args RL G B) (SC : SCr b L xs s B) {ax am : Nat} {vi : Int32} {h : Hp} {j : Nat} {z : (Int32 × Hp) ⊕ ((Int32 × Hp) ⊕ Hp)} {H : Heap} {locs : List Loc} {ls : Array Slot} (hj : j < 512) (P : Pic G B h s H locs) (hl : lv_has ls 4 [(0, .ref b), (1, .ref (B + ax)), (2, .ref (B + am)), (3, .int vi)]) (hF : F_law_c36 L xs ax am vi h = some z)
    (hB : ∀ (v : Int32) (h1 : Hp) (H : Heap) (locs : List Loc) (ls : Array Slot), vi + 5 = v → Pic G B h1 s H locs → lv_has ls 4 [(0, .ref b), (1, .ref (B + ax)), (2, .ref (B + am)), (3, .int v)] → some z = some (.inl (v, h1)) → W p l e room_1 s m args below meth c H locs (775 + 57 * (j + 1)) (16739 + 614 * (j + 1)) Q (F0 m 18 ls []))
    (hE : ∀ h1, ¬ z = .inr (.inl (0, h1))) : W p l e room_1 s m args below meth c H locs (775 + 57 * j) (16739 + 614 * j) Q (F0 m 1370 ls []) := by
  obtain ⟨⟨hx, hb, hml, hown, hts⟩, -, -⟩ := id CX
  unfold F_law_c36 at hF
  refine lv_aload_n (pc := 1370) hx hb dL_law_1370 rfl (lv_at hl 1 rfl) ?_
  refine lv_aload_n (pc := 1371) hx hb dL_law_1371 rfl (lv_at hl 0 rfl) ?_
  refine lv_iload_n (pc := 1372) hx hb dL_law_1372 rfl (lv_at hl 3 rfl) ?_
  refine lv_iconst (pc := 1373) (v := 1) hx hb dL_law_1373 (by decide) ?_
  refine lv_iadd (pc := 1374) hx hb dL_law_1374 ?_
  refine r_sc (pc := 1375) CX P SC hF dL_law_1375 (fun v1 hF => ?_)
  refine r_cVp (pc := 1376) (As := [.int v1]) (rest := []) CX P hl.1 hF kv_L_162 (fun r q => c_X9_room l G B _ _ _ _ q) rfl rfl ⟨Nat.le_of_ble_eq_true rfl, Nat.le_of_ble_eq_true rfl⟩ (Nat.le_of_ble_eq_true rfl) (lf0 hj) dL_law_1376 (fun v2 H locs P hF => ?_)
  refine lv_aload_n (pc := 1379) hx hb dL_law_1379 rfl (lv_at hl 2 rfl) ?_
  refine lv_aload_n (pc := 1380) hx hb dL_law_1380 rfl (lv_at hl 0 rfl) ?_
  refine lv_iload_n (pc := 1381) hx hb dL_law_1381 rfl (lv_at hl 3 rfl) ?_
  refine lv_iconst (pc := 1382) (v := 1) hx hb dL_law_1382 (by decide) ?_
  refine lv_iadd (pc := 1383) hx hb dL_law_1383 ?_
  refine r_sc (pc := 1384) CX P SC hF dL_law_1384 (fun v3 hF => ?_)
  refine r_cVi (pc := 1385) (As := [.int v3]) (rest := [.int v2]) CX P hl.1 hF kv_L_165 (fun r h1 q => c_X10_room l G B _ _ _ _ _ q) rfl rfl ⟨Nat.le_of_ble_eq_true rfl, Nat.le_of_ble_eq_true rfl⟩ (Nat.le_of_ble_eq_true rfl) (lf0 hj) dL_law_1385 (fun v4 h5 H locs P hF => ?_)
  replace hF := un_i hF
  refine lv_icmp_eq (pc := 1388) (tgt := 1805) hx hb dL_law_1388 (by decide) (fun hc => ?_) (fun hc => ?_)
  · rw [if_pos hc] at hF
    obtain ⟨v6, ev6, hF⟩ := bl_o hF
    refine lv_iinc (pc := 1805) (k := 3) (v := v6) hx hb dL_law_1805 hl rfl ev6 (by decide) rfl (fun ls hl => ?_)
    replace hl : lv_has ls 4 [(3, .int v6), (0, .ref b), (1, .ref (B + ax)), (2, .ref (B + am))] := hl
    refine lv_goto (pc := 1808) (tgt := 18) hx hb dL_law_1808 (by decide) ?_
    refine W.widen (k := 775 + 57 * (j + 1)) (n := 16739 + 614 * (j + 1)) (lw0 j).1 (lw0 j).2 ?_
    exact hB _ _ _ _ _ ev6 P (lv_sub hl [1, 2, 3, 0] rfl) hF.symm
  · rw [if_neg hc] at hF
    refine lv_iconst (pc := 1391) (v := 0) hx hb dL_law_1391 (by decide) ?_
    exact absurd (Option.some.inj hF).symm (hE _)
def F_law_c37 (L : Nat) (xs : Nat → Int32) (ax am : Nat) (vi : Int32) (h : Hp) : Option ((Int32 × Hp) ⊕ ((Int32 × Hp) ⊕ Hp)) :=
(scX L xs (vi + 1)).bind fun v1 =>
(scX L xs (vi + 2)).bind fun v2 =>
(cO h ax 9 (F_X9_deaths h ax v1 v2)).bind (un fun v3 h4 =>
(scX L xs (vi + 1)).bind fun v5 =>
(scX L xs (vi + 2)).bind fun v6 =>
(cO h4 am 10 (F_X10_deaths h4 am v5 v6)).bind (un fun v7 h8 =>
if v3 = v7 then (
bl (vi + 5) fun v9 =>
some (.inl (v9, h8))) else (
some (.inr (.inl (0, h8))))))
set_option maxRecDepth 100000 in
set_option maxHeartbeats 4000000 in
theorem w_law_c37 {p : Program} {l : Launch} {e : Env} {s : State} {m : MethodId} {args : Array Value} {below : List Frame} {meth : Method} {c : Code} {Q : State → Prop} {G : GG} {B b L : Nat} {xs : Nat → Int32} (CX : Cxt p m c code 4 s args RL G B) (SC : SCr b L xs s B) {ax am : Nat} {vi : Int32} {h : Hp} {j : Nat} {z : (Int32 × Hp) ⊕ ((Int32 × Hp) ⊕ Hp)} {H : Heap} {locs : List Loc} {ls : Array Slot} (hj : j < 512) (P : Pic G B h s H locs) (hl : lv_has ls 4 [(0, .ref b), (1, .ref (B + ax)), (2, .ref (B + am)), (3, .int vi)]) (hF : F_law_c37 L xs ax am vi h = some z)
    (hB : ∀ (v : Int32) (h1 : Hp) (H : Heap) (locs : List Loc) (ls : Array Slot), vi + 5 = v → Pic G B h1 s H locs → lv_has ls 4 [(0, .ref b), (1, .ref (B + ax)), (2, .ref (B + am)), (3, .int v)] → some z = some (.inl (v, h1)) → W p l e room_1 s m args below meth c H locs (775 + 57 * (j + 1)) (16739 + 614 * (j + 1)) Q (F0 m 18 ls []))
    (hE : ∀ h1, ¬ z = .inr (.inl (0, h1))) : W p l e room_1 s m args below meth c H locs (775 + 57 * j) (16739 + 614 * j) Q (F0 m 1393 ls []) := by
  obtain ⟨⟨hx, hb, hml, hown, hts⟩, -, -⟩ := id CX
  unfold F_law_c37 at hF
  refine lv_aload_n (pc := 1393) hx hb dL_law_1393 rfl (lv_at hl 1 rfl) ?_
  refine lv_aload_n (pc := 1394) hx hb dL_law_1394 rfl (lv_at hl 0 rfl) ?_
  refine lv_iload_n (pc := 1395) hx hb dL_law_1395 rfl (lv_at hl 3 rfl) ?_
  refine lv_iconst (pc := 1396) (v := 1) hx hb dL_law_1396 (by decide) ?_
  refine lv_iadd (pc := 1397) hx hb dL_law_1397 ?_
  refine r_sc (pc := 1398) CX P SC hF dL_law_1398 (fun v1 hF => ?_)
  refine lv_aload_n (pc := 1399) hx hb dL_law_1399 rfl (lv_at hl 0 rfl) ?_
  refine lv_iload_n (pc := 1400) hx hb dL_law_1400 rfl (lv_at hl 3 rfl) ?_
  refine lv_iconst (pc := 1401) (v := 2) hx hb dL_law_1401 (by decide) ?_
  refine lv_iadd (pc := 1402) hx hb dL_law_1402 ?_
  refine r_sc (pc := 1403) CX P SC hF dL_law_1403 (fun v2 hF => ?_)
  refine r_cVi (pc := 1404) (As := [.int v1, .int v2]) (rest := []) CX P hl.1 hF kv_L_166 (fun r h1 q => c_X9_deaths l G B _ _ _ _ _ _ q) rfl rfl ⟨Nat.le_of_ble_eq_true rfl, Nat.le_of_ble_eq_true rfl⟩ (Nat.le_of_ble_eq_true rfl) (lf0 hj) dL_law_1404 (fun v3 h4 H locs P hF => ?_)
  replace hF := un_i hF
  refine lv_aload_n (pc := 1407) hx hb dL_law_1407 rfl (lv_at hl 2 rfl) ?_
  refine lv_aload_n (pc := 1408) hx hb dL_law_1408 rfl (lv_at hl 0 rfl) ?_
  refine lv_iload_n (pc := 1409) hx hb dL_law_1409 rfl (lv_at hl 3 rfl) ?_
  refine lv_iconst (pc := 1410) (v := 1) hx hb dL_law_1410 (by decide) ?_
  refine lv_iadd (pc := 1411) hx hb dL_law_1411 ?_
  refine r_sc (pc := 1412) CX P SC hF dL_law_1412 (fun v5 hF => ?_)
  refine lv_aload_n (pc := 1413) hx hb dL_law_1413 rfl (lv_at hl 0 rfl) ?_
  refine lv_iload_n (pc := 1414) hx hb dL_law_1414 rfl (lv_at hl 3 rfl) ?_
  refine lv_iconst (pc := 1415) (v := 2) hx hb dL_law_1415 (by decide) ?_
  refine lv_iadd (pc := 1416) hx hb dL_law_1416 ?_
  refine r_sc (pc := 1417) CX P SC hF dL_law_1417 (fun v6 hF => ?_)
  refine r_cVi (pc := 1418) (As := [.int v5, .int v6]) (rest := [.int v3]) CX P hl.1 hF kv_L_169 (fun r h1 q => c_X10_deaths l G B _ _ _ _ _ _ q) rfl rfl ⟨Nat.le_of_ble_eq_true rfl, Nat.le_of_ble_eq_true rfl⟩ (Nat.le_of_ble_eq_true rfl) (lf0 hj) dL_law_1418 (fun v7 h8 H locs P hF => ?_)
  replace hF := un_i hF
  refine lv_icmp_eq (pc := 1421) (tgt := 1805) hx hb dL_law_1421 (by decide) (fun hc => ?_) (fun hc => ?_)
  · rw [if_pos hc] at hF
    obtain ⟨v9, ev9, hF⟩ := bl_o hF
    refine lv_iinc (pc := 1805) (k := 3) (v := v9) hx hb dL_law_1805 hl rfl ev9 (by decide) rfl (fun ls hl => ?_)
    replace hl : lv_has ls 4 [(3, .int v9), (0, .ref b), (1, .ref (B + ax)), (2, .ref (B + am))] := hl
    refine lv_goto (pc := 1808) (tgt := 18) hx hb dL_law_1808 (by decide) ?_
    refine W.widen (k := 775 + 57 * (j + 1)) (n := 16739 + 614 * (j + 1)) (lw0 j).1 (lw0 j).2 ?_
    exact hB _ _ _ _ _ ev9 P (lv_sub hl [1, 2, 3, 0] rfl) hF.symm
  · rw [if_neg hc] at hF
    refine lv_iconst (pc := 1424) (v := 0) hx hb dL_law_1424 (by decide) ?_
    exact absurd (Option.some.inj hF).symm (hE _)
def F_law_c38 (L : Nat) (xs : Nat → Int32) (ax am : Nat) (vi : Int32) (h : Hp) : Option ((Int32 × Hp) ⊕ ((Int32 × Hp) ⊕ Hp)) :=
(scX L xs (vi + 1)).bind fun v1 =>
(scX L xs (vi + 2)).bind fun v2 =>
(scX L xs (vi + 3)).bind fun v3 =>
(scX L xs (vi + 4)).bind fun v4 =>
(cO h ax 9 (F_X9_taken h ax v1 v2 v3 v4)).bind (un fun v5 h6 =>
(scX L xs (vi + 1)).bind fun v7 =>
(scX L xs (vi + 2)).bind fun v8 =>
(scX L xs (vi + 3)).bind fun v9 =>
(scX L xs (vi + 4)).bind fun v10 =>
(cO h6 am 10 (F_X10_taken h6 am v7 v8 v9 v10)).bind (un fun v11 h12 =>
if v5 = v11 then (
bl (vi + 5) fun v13 =>
some (.inl (v13, h12))) else (
some (.inr (.inl (0, h12))))))
set_option maxRecDepth 100000 in
set_option maxHeartbeats 4000000 in
theorem w_law_c38 {p : Program} {l : Launch} {e : Env} {s : State} {m : MethodId} {args : Array Value} {below : List Frame} {meth : Method} {c : Code} {Q : State → Prop} {G : GG} {B b L : Nat} {xs : Nat → Int32} (CX : Cxt p m c code 4 s args RL G B) (SC : SCr b L xs s B) {ax am : Nat} {vi : Int32} {h : Hp} {j : Nat} {z : (Int32 × Hp) ⊕ ((Int32 × Hp) ⊕ Hp)} {H : Heap} {locs : List Loc} {ls : Array Slot} (hj : j < 512) (P : Pic G B h s H locs) (hl : lv_has ls 4 [(0, .ref b), (1, .ref (B + ax)), (2, .ref (B + am)), (3, .int vi)]) (hF : F_law_c38 L xs ax am vi h = some z)
    (hB : ∀ (v : Int32) (h1 : Hp) (H : Heap) (locs : List Loc) (ls : Array Slot), vi + 5 = v → Pic G B h1 s H locs → lv_has ls 4 [(0, .ref b), (1, .ref (B + ax)), (2, .ref (B + am)), (3, .int v)] → some z = some (.inl (v, h1)) → W p l e room_1 s m args below meth c H locs (775 + 57 * (j + 1)) (16739 + 614 * (j + 1)) Q (F0 m 18 ls []))
    (hE : ∀ h1, ¬ z = .inr (.inl (0, h1))) : W p l e room_1 s m args below meth c H locs (775 + 57 * j) (16739 + 614 * j) Q (F0 m 1426 ls []) := by
  obtain ⟨⟨hx, hb, hml, hown, hts⟩, -, -⟩ := id CX
  unfold F_law_c38 at hF
  refine lv_aload_n (pc := 1426) hx hb dL_law_1426 rfl (lv_at hl 1 rfl) ?_
  refine lv_aload_n (pc := 1427) hx hb dL_law_1427 rfl (lv_at hl 0 rfl) ?_
  refine lv_iload_n (pc := 1428) hx hb dL_law_1428 rfl (lv_at hl 3 rfl) ?_
  refine lv_iconst (pc := 1429) (v := 1) hx hb dL_law_1429 (by decide) ?_
  refine lv_iadd (pc := 1430) hx hb dL_law_1430 ?_
  refine r_sc (pc := 1431) CX P SC hF dL_law_1431 (fun v1 hF => ?_)
  refine lv_aload_n (pc := 1432) hx hb dL_law_1432 rfl (lv_at hl 0 rfl) ?_
  refine lv_iload_n (pc := 1433) hx hb dL_law_1433 rfl (lv_at hl 3 rfl) ?_
  refine lv_iconst (pc := 1434) (v := 2) hx hb dL_law_1434 (by decide) ?_
  refine lv_iadd (pc := 1435) hx hb dL_law_1435 ?_
  refine r_sc (pc := 1436) CX P SC hF dL_law_1436 (fun v2 hF => ?_)
  refine lv_aload_n (pc := 1437) hx hb dL_law_1437 rfl (lv_at hl 0 rfl) ?_
  refine lv_iload_n (pc := 1438) hx hb dL_law_1438 rfl (lv_at hl 3 rfl) ?_
  refine lv_iconst (pc := 1439) (v := 3) hx hb dL_law_1439 (by decide) ?_
  refine lv_iadd (pc := 1440) hx hb dL_law_1440 ?_
  refine r_sc (pc := 1441) CX P SC hF dL_law_1441 (fun v3 hF => ?_)
  refine lv_aload_n (pc := 1442) hx hb dL_law_1442 rfl (lv_at hl 0 rfl) ?_
  refine lv_iload_n (pc := 1443) hx hb dL_law_1443 rfl (lv_at hl 3 rfl) ?_
  refine lv_iconst (pc := 1444) (v := 4) hx hb dL_law_1444 (by decide) ?_
  refine lv_iadd (pc := 1445) hx hb dL_law_1445 ?_
  refine r_sc (pc := 1446) CX P SC hF dL_law_1446 (fun v4 hF => ?_)
  refine r_cVi (pc := 1447) (As := [.int v1, .int v2, .int v3, .int v4]) (rest := []) CX P hl.1 hF kv_L_170 (fun r h1 q => c_X9_taken l G B _ _ _ _ _ _ _ _ q) rfl rfl ⟨Nat.le_of_ble_eq_true rfl, Nat.le_of_ble_eq_true rfl⟩ (Nat.le_of_ble_eq_true rfl) (lf0 hj) dL_law_1447 (fun v5 h6 H locs P hF => ?_)
  replace hF := un_i hF
  refine lv_aload_n (pc := 1450) hx hb dL_law_1450 rfl (lv_at hl 2 rfl) ?_
  refine lv_aload_n (pc := 1451) hx hb dL_law_1451 rfl (lv_at hl 0 rfl) ?_
  refine lv_iload_n (pc := 1452) hx hb dL_law_1452 rfl (lv_at hl 3 rfl) ?_
  refine lv_iconst (pc := 1453) (v := 1) hx hb dL_law_1453 (by decide) ?_
  refine lv_iadd (pc := 1454) hx hb dL_law_1454 ?_
  refine r_sc (pc := 1455) CX P SC hF dL_law_1455 (fun v7 hF => ?_)
  refine lv_aload_n (pc := 1456) hx hb dL_law_1456 rfl (lv_at hl 0 rfl) ?_
  refine lv_iload_n (pc := 1457) hx hb dL_law_1457 rfl (lv_at hl 3 rfl) ?_
  refine lv_iconst (pc := 1458) (v := 2) hx hb dL_law_1458 (by decide) ?_
  refine lv_iadd (pc := 1459) hx hb dL_law_1459 ?_
  refine r_sc (pc := 1460) CX P SC hF dL_law_1460 (fun v8 hF => ?_)
  refine lv_aload_n (pc := 1461) hx hb dL_law_1461 rfl (lv_at hl 0 rfl) ?_
  refine lv_iload_n (pc := 1462) hx hb dL_law_1462 rfl (lv_at hl 3 rfl) ?_
  refine lv_iconst (pc := 1463) (v := 3) hx hb dL_law_1463 (by decide) ?_
  refine lv_iadd (pc := 1464) hx hb dL_law_1464 ?_
  refine r_sc (pc := 1465) CX P SC hF dL_law_1465 (fun v9 hF => ?_)
  refine lv_aload_n (pc := 1466) hx hb dL_law_1466 rfl (lv_at hl 0 rfl) ?_
  refine lv_iload_n (pc := 1467) hx hb dL_law_1467 rfl (lv_at hl 3 rfl) ?_
  refine lv_iconst (pc := 1468) (v := 4) hx hb dL_law_1468 (by decide) ?_
  refine lv_iadd (pc := 1469) hx hb dL_law_1469 ?_
  refine r_sc (pc := 1470) CX P SC hF dL_law_1470 (fun v10 hF => ?_)
  refine r_cVi (pc := 1471) (As := [.int v7, .int v8, .int v9, .int v10]) (rest := [.int v5]) CX P hl.1 hF kv_L_173 (fun r h1 q => c_X10_taken l G B _ _ _ _ _ _ _ _ q) rfl rfl ⟨Nat.le_of_ble_eq_true rfl, Nat.le_of_ble_eq_true rfl⟩ (Nat.le_of_ble_eq_true rfl) (lf0 hj) dL_law_1471 (fun v11 h12 H locs P hF => ?_)
  replace hF := un_i hF
  refine lv_icmp_eq (pc := 1474) (tgt := 1805) hx hb dL_law_1474 (by decide) (fun hc => ?_) (fun hc => ?_)
  · rw [if_pos hc] at hF
    obtain ⟨v13, ev13, hF⟩ := bl_o hF
    refine lv_iinc (pc := 1805) (k := 3) (v := v13) hx hb dL_law_1805 hl rfl ev13 (by decide) rfl (fun ls hl => ?_)
    replace hl : lv_has ls 4 [(3, .int v13), (0, .ref b), (1, .ref (B + ax)), (2, .ref (B + am))] := hl
    refine lv_goto (pc := 1808) (tgt := 18) hx hb dL_law_1808 (by decide) ?_
    refine W.widen (k := 775 + 57 * (j + 1)) (n := 16739 + 614 * (j + 1)) (lw0 j).1 (lw0 j).2 ?_
    exact hB _ _ _ _ _ ev13 P (lv_sub hl [1, 2, 3, 0] rfl) hF.symm
  · rw [if_neg hc] at hF
    refine lv_iconst (pc := 1477) (v := 0) hx hb dL_law_1477 (by decide) ?_
    exact absurd (Option.some.inj hF).symm (hE _)
def F_law_c39 (L : Nat) (xs : Nat → Int32) (ax am : Nat) (vi : Int32) (h : Hp) : Option ((Int32 × Hp) ⊕ ((Int32 × Hp) ⊕ Hp)) :=
(scX L xs (vi + 1)).bind fun v1 =>
(cO h ax 9 (F_X9_place h ax v1)).bind fun v2 =>
(scX L xs (vi + 1)).bind fun v3 =>
(cO h am 10 (F_X10_place h am v3)).bind (un fun v4 h5 =>
if v2 = v4 then (
bl (vi + 5) fun v6 =>
some (.inl (v6, h5))) else (
some (.inr (.inl (0, h5)))))
set_option maxRecDepth 100000 in
set_option maxHeartbeats 4000000 in
theorem w_law_c39 {p : Program} {l : Launch} {e : Env} {s : State} {m : MethodId} {args : Array Value} {below : List Frame} {meth : Method} {c : Code} {Q : State → Prop} {G : GG} {B b L : Nat} {xs : Nat → Int32} (CX : Cxt p m c code 4 s args RL G B) (SC : SCr b L xs s B) {ax am : Nat} {vi : Int32} {h : Hp} {j : Nat} {z : (Int32 × Hp) ⊕ ((Int32 × Hp) ⊕ Hp)} {H : Heap} {locs : List Loc} {ls : Array Slot} (hj : j < 512) (P : Pic G B h s H locs) (hl : lv_has ls 4 [(0, .ref b), (1, .ref (B + ax)), (2, .ref (B + am)), (3, .int vi)]) (hF : F_law_c39 L xs ax am vi h = some z)
    (hB : ∀ (v : Int32) (h1 : Hp) (H : Heap) (locs : List Loc) (ls : Array Slot), vi + 5 = v → Pic G B h1 s H locs → lv_has ls 4 [(0, .ref b), (1, .ref (B + ax)), (2, .ref (B + am)), (3, .int v)] → some z = some (.inl (v, h1)) → W p l e room_1 s m args below meth c H locs (775 + 57 * (j + 1)) (16739 + 614 * (j + 1)) Q (F0 m 18 ls []))
    (hE : ∀ h1, ¬ z = .inr (.inl (0, h1))) : W p l e room_1 s m args below meth c H locs (775 + 57 * j) (16739 + 614 * j) Q (F0 m 1479 ls []) := by
  obtain ⟨⟨hx, hb, hml, hown, hts⟩, -, -⟩ := id CX
  unfold F_law_c39 at hF
  refine lv_aload_n (pc := 1479) hx hb dL_law_1479 rfl (lv_at hl 1 rfl) ?_
  refine lv_aload_n (pc := 1480) hx hb dL_law_1480 rfl (lv_at hl 0 rfl) ?_
  refine lv_iload_n (pc := 1481) hx hb dL_law_1481 rfl (lv_at hl 3 rfl) ?_
  refine lv_iconst (pc := 1482) (v := 1) hx hb dL_law_1482 (by decide) ?_
  refine lv_iadd (pc := 1483) hx hb dL_law_1483 ?_
  refine r_sc (pc := 1484) CX P SC hF dL_law_1484 (fun v1 hF => ?_)
  refine r_cVp (pc := 1485) (As := [.int v1]) (rest := []) CX P hl.1 hF kv_L_174 (fun r q => c_X9_place l G B _ _ _ _ q) rfl rfl ⟨Nat.le_of_ble_eq_true rfl, Nat.le_of_ble_eq_true rfl⟩ (Nat.le_of_ble_eq_true rfl) (lf0 hj) dL_law_1485 (fun v2 H locs P hF => ?_)
  refine lv_aload_n (pc := 1488) hx hb dL_law_1488 rfl (lv_at hl 2 rfl) ?_
  refine lv_aload_n (pc := 1489) hx hb dL_law_1489 rfl (lv_at hl 0 rfl) ?_
  refine lv_iload_n (pc := 1490) hx hb dL_law_1490 rfl (lv_at hl 3 rfl) ?_
  refine lv_iconst (pc := 1491) (v := 1) hx hb dL_law_1491 (by decide) ?_
  refine lv_iadd (pc := 1492) hx hb dL_law_1492 ?_
  refine r_sc (pc := 1493) CX P SC hF dL_law_1493 (fun v3 hF => ?_)
  refine r_cVi (pc := 1494) (As := [.int v3]) (rest := [.int v2]) CX P hl.1 hF kv_L_177 (fun r h1 q => c_X10_place l G B _ _ _ _ _ q) rfl rfl ⟨Nat.le_of_ble_eq_true rfl, Nat.le_of_ble_eq_true rfl⟩ (Nat.le_of_ble_eq_true rfl) (lf0 hj) dL_law_1494 (fun v4 h5 H locs P hF => ?_)
  replace hF := un_i hF
  refine lv_icmp_eq (pc := 1497) (tgt := 1805) hx hb dL_law_1497 (by decide) (fun hc => ?_) (fun hc => ?_)
  · rw [if_pos hc] at hF
    obtain ⟨v6, ev6, hF⟩ := bl_o hF
    refine lv_iinc (pc := 1805) (k := 3) (v := v6) hx hb dL_law_1805 hl rfl ev6 (by decide) rfl (fun ls hl => ?_)
    replace hl : lv_has ls 4 [(3, .int v6), (0, .ref b), (1, .ref (B + ax)), (2, .ref (B + am))] := hl
    refine lv_goto (pc := 1808) (tgt := 18) hx hb dL_law_1808 (by decide) ?_
    refine W.widen (k := 775 + 57 * (j + 1)) (n := 16739 + 614 * (j + 1)) (lw0 j).1 (lw0 j).2 ?_
    exact hB _ _ _ _ _ ev6 P (lv_sub hl [1, 2, 3, 0] rfl) hF.symm
  · rw [if_neg hc] at hF
    refine lv_iconst (pc := 1500) (v := 0) hx hb dL_law_1500 (by decide) ?_
    exact absurd (Option.some.inj hF).symm (hE _)
def F_law_c40 (L : Nat) (xs : Nat → Int32) (ax am : Nat) (vi : Int32) (h : Hp) : Option ((Int32 × Hp) ⊕ ((Int32 × Hp) ⊕ Hp)) :=
(scX L xs (vi + 1)).bind fun v1 =>
(cO h ax 9 (F_X9_due h ax v1)).bind (un fun v2 h3 =>
(scX L xs (vi + 1)).bind fun v4 =>
(cO h3 am 10 (F_X10_due h3 am v4)).bind (un fun v5 h6 =>
if v2 = v5 then (
bl (vi + 5) fun v7 =>
some (.inl (v7, h6))) else (
some (.inr (.inl (0, h6))))))
set_option maxRecDepth 100000 in
set_option maxHeartbeats 4000000 in
theorem w_law_c40 {p : Program} {l : Launch} {e : Env} {s : State} {m : MethodId} {args : Array Value} {below : List Frame} {meth : Method} {c : Code} {Q : State → Prop} {G : GG} {B b L : Nat} {xs : Nat → Int32} (CX : Cxt p m c code 4 s args RL G B) (SC : SCr b L xs s B) {ax am : Nat} {vi : Int32} {h : Hp} {j : Nat} {z : (Int32 × Hp) ⊕ ((Int32 × Hp) ⊕ Hp)} {H : Heap} {locs : List Loc} {ls : Array Slot} (hj : j < 512) (P : Pic G B h s H locs) (hl : lv_has ls 4 [(0, .ref b), (1, .ref (B + ax)), (2, .ref (B + am)), (3, .int vi)]) (hF : F_law_c40 L xs ax am vi h = some z)
    (hB : ∀ (v : Int32) (h1 : Hp) (H : Heap) (locs : List Loc) (ls : Array Slot), vi + 5 = v → Pic G B h1 s H locs → lv_has ls 4 [(0, .ref b), (1, .ref (B + ax)), (2, .ref (B + am)), (3, .int v)] → some z = some (.inl (v, h1)) → W p l e room_1 s m args below meth c H locs (775 + 57 * (j + 1)) (16739 + 614 * (j + 1)) Q (F0 m 18 ls []))
    (hE : ∀ h1, ¬ z = .inr (.inl (0, h1))) : W p l e room_1 s m args below meth c H locs (775 + 57 * j) (16739 + 614 * j) Q (F0 m 1502 ls []) := by
  obtain ⟨⟨hx, hb, hml, hown, hts⟩, -, -⟩ := id CX
  unfold F_law_c40 at hF
  refine lv_aload_n (pc := 1502) hx hb dL_law_1502 rfl (lv_at hl 1 rfl) ?_
  refine lv_aload_n (pc := 1503) hx hb dL_law_1503 rfl (lv_at hl 0 rfl) ?_
  refine lv_iload_n (pc := 1504) hx hb dL_law_1504 rfl (lv_at hl 3 rfl) ?_
  refine lv_iconst (pc := 1505) (v := 1) hx hb dL_law_1505 (by decide) ?_
  refine lv_iadd (pc := 1506) hx hb dL_law_1506 ?_
  refine r_sc (pc := 1507) CX P SC hF dL_law_1507 (fun v1 hF => ?_)
  refine r_cVi (pc := 1508) (As := [.int v1]) (rest := []) CX P hl.1 hF kv_L_178 (fun r h1 q => c_X9_due l G B _ _ _ _ _ q) rfl rfl ⟨Nat.le_of_ble_eq_true rfl, Nat.le_of_ble_eq_true rfl⟩ (Nat.le_of_ble_eq_true rfl) (lf0 hj) dL_law_1508 (fun v2 h3 H locs P hF => ?_)
  replace hF := un_i hF
  refine lv_aload_n (pc := 1511) hx hb dL_law_1511 rfl (lv_at hl 2 rfl) ?_
  refine lv_aload_n (pc := 1512) hx hb dL_law_1512 rfl (lv_at hl 0 rfl) ?_
  refine lv_iload_n (pc := 1513) hx hb dL_law_1513 rfl (lv_at hl 3 rfl) ?_
  refine lv_iconst (pc := 1514) (v := 1) hx hb dL_law_1514 (by decide) ?_
  refine lv_iadd (pc := 1515) hx hb dL_law_1515 ?_
  refine r_sc (pc := 1516) CX P SC hF dL_law_1516 (fun v4 hF => ?_)
  refine r_cVi (pc := 1517) (As := [.int v4]) (rest := [.int v2]) CX P hl.1 hF kv_L_181 (fun r h1 q => c_X10_due l G B _ _ _ _ _ q) rfl rfl ⟨Nat.le_of_ble_eq_true rfl, Nat.le_of_ble_eq_true rfl⟩ (Nat.le_of_ble_eq_true rfl) (lf0 hj) dL_law_1517 (fun v5 h6 H locs P hF => ?_)
  replace hF := un_i hF
  refine lv_icmp_eq (pc := 1520) (tgt := 1805) hx hb dL_law_1520 (by decide) (fun hc => ?_) (fun hc => ?_)
  · rw [if_pos hc] at hF
    obtain ⟨v7, ev7, hF⟩ := bl_o hF
    refine lv_iinc (pc := 1805) (k := 3) (v := v7) hx hb dL_law_1805 hl rfl ev7 (by decide) rfl (fun ls hl => ?_)
    replace hl : lv_has ls 4 [(3, .int v7), (0, .ref b), (1, .ref (B + ax)), (2, .ref (B + am))] := hl
    refine lv_goto (pc := 1808) (tgt := 18) hx hb dL_law_1808 (by decide) ?_
    refine W.widen (k := 775 + 57 * (j + 1)) (n := 16739 + 614 * (j + 1)) (lw0 j).1 (lw0 j).2 ?_
    exact hB _ _ _ _ _ ev7 P (lv_sub hl [1, 2, 3, 0] rfl) hF.symm
  · rw [if_neg hc] at hF
    refine lv_iconst (pc := 1523) (v := 0) hx hb dL_law_1523 (by decide) ?_
    exact absurd (Option.some.inj hF).symm (hE _)
def F_law_c41 (L : Nat) (xs : Nat → Int32) (ax am : Nat) (vi : Int32) (h : Hp) : Option ((Int32 × Hp) ⊕ ((Int32 × Hp) ⊕ Hp)) :=
(cO h ax 9 (F_X9_idle h ax)).bind (un fun v1 h2 =>
(cO h2 am 10 (F_X10_idle h2 am)).bind (un fun v3 h4 =>
if v1 = v3 then (
bl (vi + 5) fun v5 =>
some (.inl (v5, h4))) else (
some (.inr (.inl (0, h4))))))
set_option maxRecDepth 100000 in
set_option maxHeartbeats 4000000 in
theorem w_law_c41 {p : Program} {l : Launch} {e : Env} {s : State} {m : MethodId} {args : Array Value} {below : List Frame} {meth : Method} {c : Code} {Q : State → Prop} {G : GG} {B b L : Nat} {xs : Nat → Int32} (CX : Cxt p m c code 4 s args RL G B) (SC : SCr b L xs s B) {ax am : Nat} {vi : Int32} {h : Hp} {j : Nat} {z : (Int32 × Hp) ⊕ ((Int32 × Hp) ⊕ Hp)} {H : Heap} {locs : List Loc} {ls : Array Slot} (hj : j < 512) (P : Pic G B h s H locs) (hl : lv_has ls 4 [(0, .ref b), (1, .ref (B + ax)), (2, .ref (B + am)), (3, .int vi)]) (hF : F_law_c41 L xs ax am vi h = some z)
    (hB : ∀ (v : Int32) (h1 : Hp) (H : Heap) (locs : List Loc) (ls : Array Slot), vi + 5 = v → Pic G B h1 s H locs → lv_has ls 4 [(0, .ref b), (1, .ref (B + ax)), (2, .ref (B + am)), (3, .int v)] → some z = some (.inl (v, h1)) → W p l e room_1 s m args below meth c H locs (775 + 57 * (j + 1)) (16739 + 614 * (j + 1)) Q (F0 m 18 ls []))
    (hE : ∀ h1, ¬ z = .inr (.inl (0, h1))) : W p l e room_1 s m args below meth c H locs (775 + 57 * j) (16739 + 614 * j) Q (F0 m 1525 ls []) := by
  obtain ⟨⟨hx, hb, hml, hown, hts⟩, -, -⟩ := id CX
  unfold F_law_c41 at hF
  refine lv_aload_n (pc := 1525) hx hb dL_law_1525 rfl (lv_at hl 1 rfl) ?_
  refine r_cVi (pc := 1526) (As := []) (rest := []) CX P hl.1 hF kv_L_182 (fun r h1 q => c_X9_idle l G B _ _ _ _ q) rfl rfl ⟨Nat.le_of_ble_eq_true rfl, Nat.le_of_ble_eq_true rfl⟩ (Nat.le_of_ble_eq_true rfl) (lf0 hj) dL_law_1526 (fun v1 h2 H locs P hF => ?_)
  replace hF := un_i hF
  refine lv_aload_n (pc := 1529) hx hb dL_law_1529 rfl (lv_at hl 2 rfl) ?_
  refine r_cVi (pc := 1530) (As := []) (rest := [.int v1]) CX P hl.1 hF kv_L_185 (fun r h1 q => c_X10_idle l G B _ _ _ _ q) rfl rfl ⟨Nat.le_of_ble_eq_true rfl, Nat.le_of_ble_eq_true rfl⟩ (Nat.le_of_ble_eq_true rfl) (lf0 hj) dL_law_1530 (fun v3 h4 H locs P hF => ?_)
  replace hF := un_i hF
  refine lv_icmp_eq (pc := 1533) (tgt := 1805) hx hb dL_law_1533 (by decide) (fun hc => ?_) (fun hc => ?_)
  · rw [if_pos hc] at hF
    obtain ⟨v5, ev5, hF⟩ := bl_o hF
    refine lv_iinc (pc := 1805) (k := 3) (v := v5) hx hb dL_law_1805 hl rfl ev5 (by decide) rfl (fun ls hl => ?_)
    replace hl : lv_has ls 4 [(3, .int v5), (0, .ref b), (1, .ref (B + ax)), (2, .ref (B + am))] := hl
    refine lv_goto (pc := 1808) (tgt := 18) hx hb dL_law_1808 (by decide) ?_
    refine W.widen (k := 775 + 57 * (j + 1)) (n := 16739 + 614 * (j + 1)) (lw0 j).1 (lw0 j).2 ?_
    exact hB _ _ _ _ _ ev5 P (lv_sub hl [1, 2, 3, 0] rfl) hF.symm
  · rw [if_neg hc] at hF
    refine lv_iconst (pc := 1536) (v := 0) hx hb dL_law_1536 (by decide) ?_
    exact absurd (Option.some.inj hF).symm (hE _)
def F_law_c42 (L : Nat) (xs : Nat → Int32) (ax am : Nat) (vi : Int32) (h : Hp) : Option ((Int32 × Hp) ⊕ ((Int32 × Hp) ⊕ Hp)) :=
(scX L xs (vi + 1)).bind fun v1 =>
(scX L xs (vi + 2)).bind fun v2 =>
(cO h ax 9 (F_X9_weigh h ax v1 v2)).bind (un fun v3 h4 =>
(scX L xs (vi + 1)).bind fun v5 =>
(scX L xs (vi + 2)).bind fun v6 =>
(cO h4 am 10 (F_X10_weigh h4 am v5 v6)).bind (un fun v7 h8 =>
if v3 = v7 then (
bl (vi + 5) fun v9 =>
some (.inl (v9, h8))) else (
some (.inr (.inl (0, h8))))))
set_option maxRecDepth 100000 in
set_option maxHeartbeats 4000000 in
theorem w_law_c42 {p : Program} {l : Launch} {e : Env} {s : State} {m : MethodId} {args : Array Value} {below : List Frame} {meth : Method} {c : Code} {Q : State → Prop} {G : GG} {B b L : Nat} {xs : Nat → Int32} (CX : Cxt p m c code 4 s args RL G B) (SC : SCr b L xs s B) {ax am : Nat} {vi : Int32} {h : Hp} {j : Nat} {z : (Int32 × Hp) ⊕ ((Int32 × Hp) ⊕ Hp)} {H : Heap} {locs : List Loc} {ls : Array Slot} (hj : j < 512) (P : Pic G B h s H locs) (hl : lv_has ls 4 [(0, .ref b), (1, .ref (B + ax)), (2, .ref (B + am)), (3, .int vi)]) (hF : F_law_c42 L xs ax am vi h = some z)
    (hB : ∀ (v : Int32) (h1 : Hp) (H : Heap) (locs : List Loc) (ls : Array Slot), vi + 5 = v → Pic G B h1 s H locs → lv_has ls 4 [(0, .ref b), (1, .ref (B + ax)), (2, .ref (B + am)), (3, .int v)] → some z = some (.inl (v, h1)) → W p l e room_1 s m args below meth c H locs (775 + 57 * (j + 1)) (16739 + 614 * (j + 1)) Q (F0 m 18 ls []))
    (hE : ∀ h1, ¬ z = .inr (.inl (0, h1))) : W p l e room_1 s m args below meth c H locs (775 + 57 * j) (16739 + 614 * j) Q (F0 m 1538 ls []) := by
  obtain ⟨⟨hx, hb, hml, hown, hts⟩, -, -⟩ := id CX
  unfold F_law_c42 at hF
  refine lv_aload_n (pc := 1538) hx hb dL_law_1538 rfl (lv_at hl 1 rfl) ?_
  refine lv_aload_n (pc := 1539) hx hb dL_law_1539 rfl (lv_at hl 0 rfl) ?_
  refine lv_iload_n (pc := 1540) hx hb dL_law_1540 rfl (lv_at hl 3 rfl) ?_
  refine lv_iconst (pc := 1541) (v := 1) hx hb dL_law_1541 (by decide) ?_
  refine lv_iadd (pc := 1542) hx hb dL_law_1542 ?_
  refine r_sc (pc := 1543) CX P SC hF dL_law_1543 (fun v1 hF => ?_)
  refine lv_aload_n (pc := 1544) hx hb dL_law_1544 rfl (lv_at hl 0 rfl) ?_
  refine lv_iload_n (pc := 1545) hx hb dL_law_1545 rfl (lv_at hl 3 rfl) ?_
  refine lv_iconst (pc := 1546) (v := 2) hx hb dL_law_1546 (by decide) ?_
  refine lv_iadd (pc := 1547) hx hb dL_law_1547 ?_
  refine r_sc (pc := 1548) CX P SC hF dL_law_1548 (fun v2 hF => ?_)
  refine r_cVi (pc := 1549) (As := [.int v1, .int v2]) (rest := []) CX P hl.1 hF kv_L_186 (fun r h1 q => c_X9_weigh l G B _ _ _ _ _ _ q) rfl rfl ⟨Nat.le_of_ble_eq_true rfl, Nat.le_of_ble_eq_true rfl⟩ (Nat.le_of_ble_eq_true rfl) (lf0 hj) dL_law_1549 (fun v3 h4 H locs P hF => ?_)
  replace hF := un_i hF
  refine lv_aload_n (pc := 1552) hx hb dL_law_1552 rfl (lv_at hl 2 rfl) ?_
  refine lv_aload_n (pc := 1553) hx hb dL_law_1553 rfl (lv_at hl 0 rfl) ?_
  refine lv_iload_n (pc := 1554) hx hb dL_law_1554 rfl (lv_at hl 3 rfl) ?_
  refine lv_iconst (pc := 1555) (v := 1) hx hb dL_law_1555 (by decide) ?_
  refine lv_iadd (pc := 1556) hx hb dL_law_1556 ?_
  refine r_sc (pc := 1557) CX P SC hF dL_law_1557 (fun v5 hF => ?_)
  refine lv_aload_n (pc := 1558) hx hb dL_law_1558 rfl (lv_at hl 0 rfl) ?_
  refine lv_iload_n (pc := 1559) hx hb dL_law_1559 rfl (lv_at hl 3 rfl) ?_
  refine lv_iconst (pc := 1560) (v := 2) hx hb dL_law_1560 (by decide) ?_
  refine lv_iadd (pc := 1561) hx hb dL_law_1561 ?_
  refine r_sc (pc := 1562) CX P SC hF dL_law_1562 (fun v6 hF => ?_)
  refine r_cVi (pc := 1563) (As := [.int v5, .int v6]) (rest := [.int v3]) CX P hl.1 hF kv_L_189 (fun r h1 q => c_X10_weigh l G B _ _ _ _ _ _ q) rfl rfl ⟨Nat.le_of_ble_eq_true rfl, Nat.le_of_ble_eq_true rfl⟩ (Nat.le_of_ble_eq_true rfl) (lf0 hj) dL_law_1563 (fun v7 h8 H locs P hF => ?_)
  replace hF := un_i hF
  refine lv_icmp_eq (pc := 1566) (tgt := 1805) hx hb dL_law_1566 (by decide) (fun hc => ?_) (fun hc => ?_)
  · rw [if_pos hc] at hF
    obtain ⟨v9, ev9, hF⟩ := bl_o hF
    refine lv_iinc (pc := 1805) (k := 3) (v := v9) hx hb dL_law_1805 hl rfl ev9 (by decide) rfl (fun ls hl => ?_)
    replace hl : lv_has ls 4 [(3, .int v9), (0, .ref b), (1, .ref (B + ax)), (2, .ref (B + am))] := hl
    refine lv_goto (pc := 1808) (tgt := 18) hx hb dL_law_1808 (by decide) ?_
    refine W.widen (k := 775 + 57 * (j + 1)) (n := 16739 + 614 * (j + 1)) (lw0 j).1 (lw0 j).2 ?_
    exact hB _ _ _ _ _ ev9 P (lv_sub hl [1, 2, 3, 0] rfl) hF.symm
  · rw [if_neg hc] at hF
    refine lv_iconst (pc := 1569) (v := 0) hx hb dL_law_1569 (by decide) ?_
    exact absurd (Option.some.inj hF).symm (hE _)
def F_law_c43 (L : Nat) (xs : Nat → Int32) (ax am : Nat) (vi : Int32) (h : Hp) : Option ((Int32 × Hp) ⊕ ((Int32 × Hp) ⊕ Hp)) :=
(scX L xs (vi + 1)).bind fun v1 =>
(cO h ax 9 (F_X9_pressed h ax v1)).bind (un fun v2 h3 =>
(scX L xs (vi + 1)).bind fun v4 =>
(cO h3 am 10 (F_X10_pressed h3 am v4)).bind (un fun v5 h6 =>
if v2 = v5 then (
bl (vi + 5) fun v7 =>
some (.inl (v7, h6))) else (
some (.inr (.inl (0, h6))))))
set_option maxRecDepth 100000 in
set_option maxHeartbeats 4000000 in
theorem w_law_c43 {p : Program} {l : Launch} {e : Env} {s : State} {m : MethodId} {args : Array Value} {below : List Frame} {meth : Method} {c : Code} {Q : State → Prop} {G : GG} {B b L : Nat} {xs : Nat → Int32} (CX : Cxt p m c code 4 s args RL G B) (SC : SCr b L xs s B) {ax am : Nat} {vi : Int32} {h : Hp} {j : Nat} {z : (Int32 × Hp) ⊕ ((Int32 × Hp) ⊕ Hp)} {H : Heap} {locs : List Loc} {ls : Array Slot} (hj : j < 512) (P : Pic G B h s H locs) (hl : lv_has ls 4 [(0, .ref b), (1, .ref (B + ax)), (2, .ref (B + am)), (3, .int vi)]) (hF : F_law_c43 L xs ax am vi h = some z)
    (hB : ∀ (v : Int32) (h1 : Hp) (H : Heap) (locs : List Loc) (ls : Array Slot), vi + 5 = v → Pic G B h1 s H locs → lv_has ls 4 [(0, .ref b), (1, .ref (B + ax)), (2, .ref (B + am)), (3, .int v)] → some z = some (.inl (v, h1)) → W p l e room_1 s m args below meth c H locs (775 + 57 * (j + 1)) (16739 + 614 * (j + 1)) Q (F0 m 18 ls []))
    (hE : ∀ h1, ¬ z = .inr (.inl (0, h1))) : W p l e room_1 s m args below meth c H locs (775 + 57 * j) (16739 + 614 * j) Q (F0 m 1571 ls []) := by
  obtain ⟨⟨hx, hb, hml, hown, hts⟩, -, -⟩ := id CX
  unfold F_law_c43 at hF
  refine lv_aload_n (pc := 1571) hx hb dL_law_1571 rfl (lv_at hl 1 rfl) ?_
  refine lv_aload_n (pc := 1572) hx hb dL_law_1572 rfl (lv_at hl 0 rfl) ?_
  refine lv_iload_n (pc := 1573) hx hb dL_law_1573 rfl (lv_at hl 3 rfl) ?_
  refine lv_iconst (pc := 1574) (v := 1) hx hb dL_law_1574 (by decide) ?_
  refine lv_iadd (pc := 1575) hx hb dL_law_1575 ?_
  refine r_sc (pc := 1576) CX P SC hF dL_law_1576 (fun v1 hF => ?_)
  refine r_cVi (pc := 1577) (As := [.int v1]) (rest := []) CX P hl.1 hF kv_L_190 (fun r h1 q => c_X9_pressed l G B _ _ _ _ _ q) rfl rfl ⟨Nat.le_of_ble_eq_true rfl, Nat.le_of_ble_eq_true rfl⟩ (Nat.le_of_ble_eq_true rfl) (lf0 hj) dL_law_1577 (fun v2 h3 H locs P hF => ?_)
  replace hF := un_i hF
  refine lv_aload_n (pc := 1580) hx hb dL_law_1580 rfl (lv_at hl 2 rfl) ?_
  refine lv_aload_n (pc := 1581) hx hb dL_law_1581 rfl (lv_at hl 0 rfl) ?_
  refine lv_iload_n (pc := 1582) hx hb dL_law_1582 rfl (lv_at hl 3 rfl) ?_
  refine lv_iconst (pc := 1583) (v := 1) hx hb dL_law_1583 (by decide) ?_
  refine lv_iadd (pc := 1584) hx hb dL_law_1584 ?_
  refine r_sc (pc := 1585) CX P SC hF dL_law_1585 (fun v4 hF => ?_)
  refine r_cVi (pc := 1586) (As := [.int v4]) (rest := [.int v2]) CX P hl.1 hF kv_L_193 (fun r h1 q => c_X10_pressed l G B _ _ _ _ _ q) rfl rfl ⟨Nat.le_of_ble_eq_true rfl, Nat.le_of_ble_eq_true rfl⟩ (Nat.le_of_ble_eq_true rfl) (lf0 hj) dL_law_1586 (fun v5 h6 H locs P hF => ?_)
  replace hF := un_i hF
  refine lv_icmp_eq (pc := 1589) (tgt := 1805) hx hb dL_law_1589 (by decide) (fun hc => ?_) (fun hc => ?_)
  · rw [if_pos hc] at hF
    obtain ⟨v7, ev7, hF⟩ := bl_o hF
    refine lv_iinc (pc := 1805) (k := 3) (v := v7) hx hb dL_law_1805 hl rfl ev7 (by decide) rfl (fun ls hl => ?_)
    replace hl : lv_has ls 4 [(3, .int v7), (0, .ref b), (1, .ref (B + ax)), (2, .ref (B + am))] := hl
    refine lv_goto (pc := 1808) (tgt := 18) hx hb dL_law_1808 (by decide) ?_
    refine W.widen (k := 775 + 57 * (j + 1)) (n := 16739 + 614 * (j + 1)) (lw0 j).1 (lw0 j).2 ?_
    exact hB _ _ _ _ _ ev7 P (lv_sub hl [1, 2, 3, 0] rfl) hF.symm
  · rw [if_neg hc] at hF
    refine lv_iconst (pc := 1592) (v := 0) hx hb dL_law_1592 (by decide) ?_
    exact absurd (Option.some.inj hF).symm (hE _)
def F_law_c44 (L : Nat) (xs : Nat → Int32) (ax am : Nat) (vi : Int32) (h : Hp) : Option ((Int32 × Hp) ⊕ ((Int32 × Hp) ⊕ Hp)) :=
(scX L xs (vi + 1)).bind fun v1 =>
(scX L xs (vi + 2)).bind fun v2 =>
(scX L xs (vi + 3)).bind fun v3 =>
(cO h ax 9 (F_X9_would h ax v1 v2 v3)).bind (un fun v4 h5 =>
(scX L xs (vi + 1)).bind fun v6 =>
(scX L xs (vi + 2)).bind fun v7 =>
(scX L xs (vi + 3)).bind fun v8 =>
(cO h5 am 10 (F_X10_would h5 am v6 v7 v8)).bind (un fun v9 h10 =>
if v4 = v9 then (
bl (vi + 5) fun v11 =>
some (.inl (v11, h10))) else (
some (.inr (.inl (0, h10))))))
set_option maxRecDepth 100000 in
set_option maxHeartbeats 4000000 in
theorem w_law_c44 {p : Program} {l : Launch} {e : Env} {s : State} {m : MethodId} {args : Array Value} {below : List Frame} {meth : Method} {c : Code} {Q : State → Prop} {G : GG} {B b L : Nat} {xs : Nat → Int32} (CX : Cxt p m c code 4 s args RL G B) (SC : SCr b L xs s B) {ax am : Nat} {vi : Int32} {h : Hp} {j : Nat} {z : (Int32 × Hp) ⊕ ((Int32 × Hp) ⊕ Hp)} {H : Heap} {locs : List Loc} {ls : Array Slot} (hj : j < 512) (P : Pic G B h s H locs) (hl : lv_has ls 4 [(0, .ref b), (1, .ref (B + ax)), (2, .ref (B + am)), (3, .int vi)]) (hF : F_law_c44 L xs ax am vi h = some z)
    (hB : ∀ (v : Int32) (h1 : Hp) (H : Heap) (locs : List Loc) (ls : Array Slot), vi + 5 = v → Pic G B h1 s H locs → lv_has ls 4 [(0, .ref b), (1, .ref (B + ax)), (2, .ref (B + am)), (3, .int v)] → some z = some (.inl (v, h1)) → W p l e room_1 s m args below meth c H locs (775 + 57 * (j + 1)) (16739 + 614 * (j + 1)) Q (F0 m 18 ls []))
    (hE : ∀ h1, ¬ z = .inr (.inl (0, h1))) : W p l e room_1 s m args below meth c H locs (775 + 57 * j) (16739 + 614 * j) Q (F0 m 1594 ls []) := by
  obtain ⟨⟨hx, hb, hml, hown, hts⟩, -, -⟩ := id CX
  unfold F_law_c44 at hF
  refine lv_aload_n (pc := 1594) hx hb dL_law_1594 rfl (lv_at hl 1 rfl) ?_
  refine lv_aload_n (pc := 1595) hx hb dL_law_1595 rfl (lv_at hl 0 rfl) ?_
  refine lv_iload_n (pc := 1596) hx hb dL_law_1596 rfl (lv_at hl 3 rfl) ?_
  refine lv_iconst (pc := 1597) (v := 1) hx hb dL_law_1597 (by decide) ?_
  refine lv_iadd (pc := 1598) hx hb dL_law_1598 ?_
  refine r_sc (pc := 1599) CX P SC hF dL_law_1599 (fun v1 hF => ?_)
  refine lv_aload_n (pc := 1600) hx hb dL_law_1600 rfl (lv_at hl 0 rfl) ?_
  refine lv_iload_n (pc := 1601) hx hb dL_law_1601 rfl (lv_at hl 3 rfl) ?_
  refine lv_iconst (pc := 1602) (v := 2) hx hb dL_law_1602 (by decide) ?_
  refine lv_iadd (pc := 1603) hx hb dL_law_1603 ?_
  refine r_sc (pc := 1604) CX P SC hF dL_law_1604 (fun v2 hF => ?_)
  refine lv_aload_n (pc := 1605) hx hb dL_law_1605 rfl (lv_at hl 0 rfl) ?_
  refine lv_iload_n (pc := 1606) hx hb dL_law_1606 rfl (lv_at hl 3 rfl) ?_
  refine lv_iconst (pc := 1607) (v := 3) hx hb dL_law_1607 (by decide) ?_
  refine lv_iadd (pc := 1608) hx hb dL_law_1608 ?_
  refine r_sc (pc := 1609) CX P SC hF dL_law_1609 (fun v3 hF => ?_)
  refine r_cVi (pc := 1610) (As := [.int v1, .int v2, .int v3]) (rest := []) CX P hl.1 hF kv_L_194 (fun r h1 q => c_X9_would l G B _ _ _ _ _ _ _ q) rfl rfl ⟨Nat.le_of_ble_eq_true rfl, Nat.le_of_ble_eq_true rfl⟩ (Nat.le_of_ble_eq_true rfl) (lf0 hj) dL_law_1610 (fun v4 h5 H locs P hF => ?_)
  replace hF := un_i hF
  refine lv_aload_n (pc := 1613) hx hb dL_law_1613 rfl (lv_at hl 2 rfl) ?_
  refine lv_aload_n (pc := 1614) hx hb dL_law_1614 rfl (lv_at hl 0 rfl) ?_
  refine lv_iload_n (pc := 1615) hx hb dL_law_1615 rfl (lv_at hl 3 rfl) ?_
  refine lv_iconst (pc := 1616) (v := 1) hx hb dL_law_1616 (by decide) ?_
  refine lv_iadd (pc := 1617) hx hb dL_law_1617 ?_
  refine r_sc (pc := 1618) CX P SC hF dL_law_1618 (fun v6 hF => ?_)
  refine lv_aload_n (pc := 1619) hx hb dL_law_1619 rfl (lv_at hl 0 rfl) ?_
  refine lv_iload_n (pc := 1620) hx hb dL_law_1620 rfl (lv_at hl 3 rfl) ?_
  refine lv_iconst (pc := 1621) (v := 2) hx hb dL_law_1621 (by decide) ?_
  refine lv_iadd (pc := 1622) hx hb dL_law_1622 ?_
  refine r_sc (pc := 1623) CX P SC hF dL_law_1623 (fun v7 hF => ?_)
  refine lv_aload_n (pc := 1624) hx hb dL_law_1624 rfl (lv_at hl 0 rfl) ?_
  refine lv_iload_n (pc := 1625) hx hb dL_law_1625 rfl (lv_at hl 3 rfl) ?_
  refine lv_iconst (pc := 1626) (v := 3) hx hb dL_law_1626 (by decide) ?_
  refine lv_iadd (pc := 1627) hx hb dL_law_1627 ?_
  refine r_sc (pc := 1628) CX P SC hF dL_law_1628 (fun v8 hF => ?_)
  refine r_cVi (pc := 1629) (As := [.int v6, .int v7, .int v8]) (rest := [.int v4]) CX P hl.1 hF kv_L_197 (fun r h1 q => c_X10_would l G B _ _ _ _ _ _ _ q) rfl rfl ⟨Nat.le_of_ble_eq_true rfl, Nat.le_of_ble_eq_true rfl⟩ (Nat.le_of_ble_eq_true rfl) (lf0 hj) dL_law_1629 (fun v9 h10 H locs P hF => ?_)
  replace hF := un_i hF
  refine lv_icmp_eq (pc := 1632) (tgt := 1805) hx hb dL_law_1632 (by decide) (fun hc => ?_) (fun hc => ?_)
  · rw [if_pos hc] at hF
    obtain ⟨v11, ev11, hF⟩ := bl_o hF
    refine lv_iinc (pc := 1805) (k := 3) (v := v11) hx hb dL_law_1805 hl rfl ev11 (by decide) rfl (fun ls hl => ?_)
    replace hl : lv_has ls 4 [(3, .int v11), (0, .ref b), (1, .ref (B + ax)), (2, .ref (B + am))] := hl
    refine lv_goto (pc := 1808) (tgt := 18) hx hb dL_law_1808 (by decide) ?_
    refine W.widen (k := 775 + 57 * (j + 1)) (n := 16739 + 614 * (j + 1)) (lw0 j).1 (lw0 j).2 ?_
    exact hB _ _ _ _ _ ev11 P (lv_sub hl [1, 2, 3, 0] rfl) hF.symm
  · rw [if_neg hc] at hF
    refine lv_iconst (pc := 1635) (v := 0) hx hb dL_law_1635 (by decide) ?_
    exact absurd (Option.some.inj hF).symm (hE _)
def F_law_c45 (L : Nat) (xs : Nat → Int32) (ax am : Nat) (vi : Int32) (h : Hp) : Option ((Int32 × Hp) ⊕ ((Int32 × Hp) ⊕ Hp)) :=
(scX L xs (vi + 1)).bind fun v1 =>
(scX L xs (vi + 2)).bind fun v2 =>
(cO h ax 9 (F_X9_burst h ax v1 v2)).bind (un fun v3 h4 =>
(scX L xs (vi + 1)).bind fun v5 =>
(scX L xs (vi + 2)).bind fun v6 =>
(cO h4 am 10 (F_X10_burst h4 am v5 v6)).bind (un fun v7 h8 =>
if v3 = v7 then (
bl (vi + 5) fun v9 =>
some (.inl (v9, h8))) else (
some (.inr (.inl (0, h8))))))
set_option maxRecDepth 100000 in
set_option maxHeartbeats 4000000 in
theorem w_law_c45 {p : Program} {l : Launch} {e : Env} {s : State} {m : MethodId} {args : Array Value} {below : List Frame} {meth : Method} {c : Code} {Q : State → Prop} {G : GG} {B b L : Nat} {xs : Nat → Int32} (CX : Cxt p m c code 4 s args RL G B) (SC : SCr b L xs s B) {ax am : Nat} {vi : Int32} {h : Hp} {j : Nat} {z : (Int32 × Hp) ⊕ ((Int32 × Hp) ⊕ Hp)} {H : Heap} {locs : List Loc} {ls : Array Slot} (hj : j < 512) (P : Pic G B h s H locs) (hl : lv_has ls 4 [(0, .ref b), (1, .ref (B + ax)), (2, .ref (B + am)), (3, .int vi)]) (hF : F_law_c45 L xs ax am vi h = some z)
    (hB : ∀ (v : Int32) (h1 : Hp) (H : Heap) (locs : List Loc) (ls : Array Slot), vi + 5 = v → Pic G B h1 s H locs → lv_has ls 4 [(0, .ref b), (1, .ref (B + ax)), (2, .ref (B + am)), (3, .int v)] → some z = some (.inl (v, h1)) → W p l e room_1 s m args below meth c H locs (775 + 57 * (j + 1)) (16739 + 614 * (j + 1)) Q (F0 m 18 ls []))
    (hE : ∀ h1, ¬ z = .inr (.inl (0, h1))) : W p l e room_1 s m args below meth c H locs (775 + 57 * j) (16739 + 614 * j) Q (F0 m 1637 ls []) := by
  obtain ⟨⟨hx, hb, hml, hown, hts⟩, -, -⟩ := id CX
  unfold F_law_c45 at hF
  refine lv_aload_n (pc := 1637) hx hb dL_law_1637 rfl (lv_at hl 1 rfl) ?_
  refine lv_aload_n (pc := 1638) hx hb dL_law_1638 rfl (lv_at hl 0 rfl) ?_
  refine lv_iload_n (pc := 1639) hx hb dL_law_1639 rfl (lv_at hl 3 rfl) ?_
  refine lv_iconst (pc := 1640) (v := 1) hx hb dL_law_1640 (by decide) ?_
  refine lv_iadd (pc := 1641) hx hb dL_law_1641 ?_
  refine r_sc (pc := 1642) CX P SC hF dL_law_1642 (fun v1 hF => ?_)
  refine lv_aload_n (pc := 1643) hx hb dL_law_1643 rfl (lv_at hl 0 rfl) ?_
  refine lv_iload_n (pc := 1644) hx hb dL_law_1644 rfl (lv_at hl 3 rfl) ?_
  refine lv_iconst (pc := 1645) (v := 2) hx hb dL_law_1645 (by decide) ?_
  refine lv_iadd (pc := 1646) hx hb dL_law_1646 ?_
  refine r_sc (pc := 1647) CX P SC hF dL_law_1647 (fun v2 hF => ?_)
  refine r_cVi (pc := 1648) (As := [.int v1, .int v2]) (rest := []) CX P hl.1 hF kv_L_198 (fun r h1 q => c_X9_burst l G B _ _ _ _ _ _ q) rfl rfl ⟨Nat.le_of_ble_eq_true rfl, Nat.le_of_ble_eq_true rfl⟩ (Nat.le_of_ble_eq_true rfl) (lf0 hj) dL_law_1648 (fun v3 h4 H locs P hF => ?_)
  replace hF := un_i hF
  refine lv_aload_n (pc := 1651) hx hb dL_law_1651 rfl (lv_at hl 2 rfl) ?_
  refine lv_aload_n (pc := 1652) hx hb dL_law_1652 rfl (lv_at hl 0 rfl) ?_
  refine lv_iload_n (pc := 1653) hx hb dL_law_1653 rfl (lv_at hl 3 rfl) ?_
  refine lv_iconst (pc := 1654) (v := 1) hx hb dL_law_1654 (by decide) ?_
  refine lv_iadd (pc := 1655) hx hb dL_law_1655 ?_
  refine r_sc (pc := 1656) CX P SC hF dL_law_1656 (fun v5 hF => ?_)
  refine lv_aload_n (pc := 1657) hx hb dL_law_1657 rfl (lv_at hl 0 rfl) ?_
  refine lv_iload_n (pc := 1658) hx hb dL_law_1658 rfl (lv_at hl 3 rfl) ?_
  refine lv_iconst (pc := 1659) (v := 2) hx hb dL_law_1659 (by decide) ?_
  refine lv_iadd (pc := 1660) hx hb dL_law_1660 ?_
  refine r_sc (pc := 1661) CX P SC hF dL_law_1661 (fun v6 hF => ?_)
  refine r_cVi (pc := 1662) (As := [.int v5, .int v6]) (rest := [.int v3]) CX P hl.1 hF kv_L_201 (fun r h1 q => c_X10_burst l G B _ _ _ _ _ _ q) rfl rfl ⟨Nat.le_of_ble_eq_true rfl, Nat.le_of_ble_eq_true rfl⟩ (Nat.le_of_ble_eq_true rfl) (lf0 hj) dL_law_1662 (fun v7 h8 H locs P hF => ?_)
  replace hF := un_i hF
  refine lv_icmp_eq (pc := 1665) (tgt := 1805) hx hb dL_law_1665 (by decide) (fun hc => ?_) (fun hc => ?_)
  · rw [if_pos hc] at hF
    obtain ⟨v9, ev9, hF⟩ := bl_o hF
    refine lv_iinc (pc := 1805) (k := 3) (v := v9) hx hb dL_law_1805 hl rfl ev9 (by decide) rfl (fun ls hl => ?_)
    replace hl : lv_has ls 4 [(3, .int v9), (0, .ref b), (1, .ref (B + ax)), (2, .ref (B + am))] := hl
    refine lv_goto (pc := 1808) (tgt := 18) hx hb dL_law_1808 (by decide) ?_
    refine W.widen (k := 775 + 57 * (j + 1)) (n := 16739 + 614 * (j + 1)) (lw0 j).1 (lw0 j).2 ?_
    exact hB _ _ _ _ _ ev9 P (lv_sub hl [1, 2, 3, 0] rfl) hF.symm
  · rw [if_neg hc] at hF
    refine lv_iconst (pc := 1668) (v := 0) hx hb dL_law_1668 (by decide) ?_
    exact absurd (Option.some.inj hF).symm (hE _)
def F_law_c46 (L : Nat) (xs : Nat → Int32) (ax am : Nat) (vi : Int32) (h : Hp) : Option ((Int32 × Hp) ⊕ ((Int32 × Hp) ⊕ Hp)) :=
(scX L xs (vi + 1)).bind fun v1 =>
(scX L xs (vi + 2)).bind fun v2 =>
(scX L xs (vi + 3)).bind fun v3 =>
(cO h ax 9 (F_X9_stalled h ax v1 v2 v3)).bind (un fun v4 h5 =>
(scX L xs (vi + 1)).bind fun v6 =>
(scX L xs (vi + 2)).bind fun v7 =>
(scX L xs (vi + 3)).bind fun v8 =>
(cO h5 am 10 (F_X10_stalled h5 am v6 v7 v8)).bind (un fun v9 h10 =>
if v4 = v9 then (
bl (vi + 5) fun v11 =>
some (.inl (v11, h10))) else (
some (.inr (.inl (0, h10))))))
set_option maxRecDepth 100000 in
set_option maxHeartbeats 4000000 in
theorem w_law_c46 {p : Program} {l : Launch} {e : Env} {s : State} {m : MethodId} {args : Array Value} {below : List Frame} {meth : Method} {c : Code} {Q : State → Prop} {G : GG} {B b L : Nat} {xs : Nat → Int32} (CX : Cxt p m c code 4 s args RL G B) (SC : SCr b L xs s B) {ax am : Nat} {vi : Int32} {h : Hp} {j : Nat} {z : (Int32 × Hp) ⊕ ((Int32 × Hp) ⊕ Hp)} {H : Heap} {locs : List Loc} {ls : Array Slot} (hj : j < 512) (P : Pic G B h s H locs) (hl : lv_has ls 4 [(0, .ref b), (1, .ref (B + ax)), (2, .ref (B + am)), (3, .int vi)]) (hF : F_law_c46 L xs ax am vi h = some z)
    (hB : ∀ (v : Int32) (h1 : Hp) (H : Heap) (locs : List Loc) (ls : Array Slot), vi + 5 = v → Pic G B h1 s H locs → lv_has ls 4 [(0, .ref b), (1, .ref (B + ax)), (2, .ref (B + am)), (3, .int v)] → some z = some (.inl (v, h1)) → W p l e room_1 s m args below meth c H locs (775 + 57 * (j + 1)) (16739 + 614 * (j + 1)) Q (F0 m 18 ls []))
    (hE : ∀ h1, ¬ z = .inr (.inl (0, h1))) : W p l e room_1 s m args below meth c H locs (775 + 57 * j) (16739 + 614 * j) Q (F0 m 1670 ls []) := by
  obtain ⟨⟨hx, hb, hml, hown, hts⟩, -, -⟩ := id CX
  unfold F_law_c46 at hF
  refine lv_aload_n (pc := 1670) hx hb dL_law_1670 rfl (lv_at hl 1 rfl) ?_
  refine lv_aload_n (pc := 1671) hx hb dL_law_1671 rfl (lv_at hl 0 rfl) ?_
  refine lv_iload_n (pc := 1672) hx hb dL_law_1672 rfl (lv_at hl 3 rfl) ?_
  refine lv_iconst (pc := 1673) (v := 1) hx hb dL_law_1673 (by decide) ?_
  refine lv_iadd (pc := 1674) hx hb dL_law_1674 ?_
  refine r_sc (pc := 1675) CX P SC hF dL_law_1675 (fun v1 hF => ?_)
  refine lv_aload_n (pc := 1676) hx hb dL_law_1676 rfl (lv_at hl 0 rfl) ?_
  refine lv_iload_n (pc := 1677) hx hb dL_law_1677 rfl (lv_at hl 3 rfl) ?_
  refine lv_iconst (pc := 1678) (v := 2) hx hb dL_law_1678 (by decide) ?_
  refine lv_iadd (pc := 1679) hx hb dL_law_1679 ?_
  refine r_sc (pc := 1680) CX P SC hF dL_law_1680 (fun v2 hF => ?_)
  refine lv_aload_n (pc := 1681) hx hb dL_law_1681 rfl (lv_at hl 0 rfl) ?_
  refine lv_iload_n (pc := 1682) hx hb dL_law_1682 rfl (lv_at hl 3 rfl) ?_
  refine lv_iconst (pc := 1683) (v := 3) hx hb dL_law_1683 (by decide) ?_
  refine lv_iadd (pc := 1684) hx hb dL_law_1684 ?_
  refine r_sc (pc := 1685) CX P SC hF dL_law_1685 (fun v3 hF => ?_)
  refine r_cVi (pc := 1686) (As := [.int v1, .int v2, .int v3]) (rest := []) CX P hl.1 hF kv_L_202 (fun r h1 q => c_X9_stalled l G B _ _ _ _ _ _ _ q) rfl rfl ⟨Nat.le_of_ble_eq_true rfl, Nat.le_of_ble_eq_true rfl⟩ (Nat.le_of_ble_eq_true rfl) (lf0 hj) dL_law_1686 (fun v4 h5 H locs P hF => ?_)
  replace hF := un_i hF
  refine lv_aload_n (pc := 1689) hx hb dL_law_1689 rfl (lv_at hl 2 rfl) ?_
  refine lv_aload_n (pc := 1690) hx hb dL_law_1690 rfl (lv_at hl 0 rfl) ?_
  refine lv_iload_n (pc := 1691) hx hb dL_law_1691 rfl (lv_at hl 3 rfl) ?_
  refine lv_iconst (pc := 1692) (v := 1) hx hb dL_law_1692 (by decide) ?_
  refine lv_iadd (pc := 1693) hx hb dL_law_1693 ?_
  refine r_sc (pc := 1694) CX P SC hF dL_law_1694 (fun v6 hF => ?_)
  refine lv_aload_n (pc := 1695) hx hb dL_law_1695 rfl (lv_at hl 0 rfl) ?_
  refine lv_iload_n (pc := 1696) hx hb dL_law_1696 rfl (lv_at hl 3 rfl) ?_
  refine lv_iconst (pc := 1697) (v := 2) hx hb dL_law_1697 (by decide) ?_
  refine lv_iadd (pc := 1698) hx hb dL_law_1698 ?_
  refine r_sc (pc := 1699) CX P SC hF dL_law_1699 (fun v7 hF => ?_)
  refine lv_aload_n (pc := 1700) hx hb dL_law_1700 rfl (lv_at hl 0 rfl) ?_
  refine lv_iload_n (pc := 1701) hx hb dL_law_1701 rfl (lv_at hl 3 rfl) ?_
  refine lv_iconst (pc := 1702) (v := 3) hx hb dL_law_1702 (by decide) ?_
  refine lv_iadd (pc := 1703) hx hb dL_law_1703 ?_
  refine r_sc (pc := 1704) CX P SC hF dL_law_1704 (fun v8 hF => ?_)
  refine r_cVi (pc := 1705) (As := [.int v6, .int v7, .int v8]) (rest := [.int v4]) CX P hl.1 hF kv_L_205 (fun r h1 q => c_X10_stalled l G B _ _ _ _ _ _ _ q) rfl rfl ⟨Nat.le_of_ble_eq_true rfl, Nat.le_of_ble_eq_true rfl⟩ (Nat.le_of_ble_eq_true rfl) (lf0 hj) dL_law_1705 (fun v9 h10 H locs P hF => ?_)
  replace hF := un_i hF
  refine lv_icmp_eq (pc := 1708) (tgt := 1805) hx hb dL_law_1708 (by decide) (fun hc => ?_) (fun hc => ?_)
  · rw [if_pos hc] at hF
    obtain ⟨v11, ev11, hF⟩ := bl_o hF
    refine lv_iinc (pc := 1805) (k := 3) (v := v11) hx hb dL_law_1805 hl rfl ev11 (by decide) rfl (fun ls hl => ?_)
    replace hl : lv_has ls 4 [(3, .int v11), (0, .ref b), (1, .ref (B + ax)), (2, .ref (B + am))] := hl
    refine lv_goto (pc := 1808) (tgt := 18) hx hb dL_law_1808 (by decide) ?_
    refine W.widen (k := 775 + 57 * (j + 1)) (n := 16739 + 614 * (j + 1)) (lw0 j).1 (lw0 j).2 ?_
    exact hB _ _ _ _ _ ev11 P (lv_sub hl [1, 2, 3, 0] rfl) hF.symm
  · rw [if_neg hc] at hF
    refine lv_iconst (pc := 1711) (v := 0) hx hb dL_law_1711 (by decide) ?_
    exact absurd (Option.some.inj hF).symm (hE _)
def F_law_c47 (L : Nat) (xs : Nat → Int32) (ax am : Nat) (vi : Int32) (h : Hp) : Option ((Int32 × Hp) ⊕ ((Int32 × Hp) ⊕ Hp)) :=
(scX L xs (vi + 1)).bind fun v1 =>
(cO h ax 9 (F_X9_undo h ax v1)).bind (un fun v2 h3 =>
(scX L xs (vi + 1)).bind fun v4 =>
(cO h3 am 10 (F_X10_undo h3 am v4)).bind (un fun v5 h6 =>
if v2 = v5 then (
bl (vi + 5) fun v7 =>
some (.inl (v7, h6))) else (
some (.inr (.inl (0, h6))))))
set_option maxRecDepth 100000 in
set_option maxHeartbeats 4000000 in
theorem w_law_c47 {p : Program} {l : Launch} {e : Env} {s : State} {m : MethodId} {args : Array Value} {below : List Frame} {meth : Method} {c : Code} {Q : State → Prop} {G : GG} {B b L : Nat} {xs : Nat → Int32} (CX : Cxt p m c code 4 s args RL G B) (SC : SCr b L xs s B) {ax am : Nat} {vi : Int32} {h : Hp} {j : Nat} {z : (Int32 × Hp) ⊕ ((Int32 × Hp) ⊕ Hp)} {H : Heap} {locs : List Loc} {ls : Array Slot} (hj : j < 512) (P : Pic G B h s H locs) (hl : lv_has ls 4 [(0, .ref b), (1, .ref (B + ax)), (2, .ref (B + am)), (3, .int vi)]) (hF : F_law_c47 L xs ax am vi h = some z)
    (hB : ∀ (v : Int32) (h1 : Hp) (H : Heap) (locs : List Loc) (ls : Array Slot), vi + 5 = v → Pic G B h1 s H locs → lv_has ls 4 [(0, .ref b), (1, .ref (B + ax)), (2, .ref (B + am)), (3, .int v)] → some z = some (.inl (v, h1)) → W p l e room_1 s m args below meth c H locs (775 + 57 * (j + 1)) (16739 + 614 * (j + 1)) Q (F0 m 18 ls []))
    (hE : ∀ h1, ¬ z = .inr (.inl (0, h1))) : W p l e room_1 s m args below meth c H locs (775 + 57 * j) (16739 + 614 * j) Q (F0 m 1713 ls []) := by
  obtain ⟨⟨hx, hb, hml, hown, hts⟩, -, -⟩ := id CX
  unfold F_law_c47 at hF
  refine lv_aload_n (pc := 1713) hx hb dL_law_1713 rfl (lv_at hl 1 rfl) ?_
  refine lv_aload_n (pc := 1714) hx hb dL_law_1714 rfl (lv_at hl 0 rfl) ?_
  refine lv_iload_n (pc := 1715) hx hb dL_law_1715 rfl (lv_at hl 3 rfl) ?_
  refine lv_iconst (pc := 1716) (v := 1) hx hb dL_law_1716 (by decide) ?_
  refine lv_iadd (pc := 1717) hx hb dL_law_1717 ?_
  refine r_sc (pc := 1718) CX P SC hF dL_law_1718 (fun v1 hF => ?_)
  refine r_cVi (pc := 1719) (As := [.int v1]) (rest := []) CX P hl.1 hF kv_L_206 (fun r h1 q => c_X9_undo l G B _ _ _ _ _ q) rfl rfl ⟨Nat.le_of_ble_eq_true rfl, Nat.le_of_ble_eq_true rfl⟩ (Nat.le_of_ble_eq_true rfl) (lf0 hj) dL_law_1719 (fun v2 h3 H locs P hF => ?_)
  replace hF := un_i hF
  refine lv_aload_n (pc := 1722) hx hb dL_law_1722 rfl (lv_at hl 2 rfl) ?_
  refine lv_aload_n (pc := 1723) hx hb dL_law_1723 rfl (lv_at hl 0 rfl) ?_
  refine lv_iload_n (pc := 1724) hx hb dL_law_1724 rfl (lv_at hl 3 rfl) ?_
  refine lv_iconst (pc := 1725) (v := 1) hx hb dL_law_1725 (by decide) ?_
  refine lv_iadd (pc := 1726) hx hb dL_law_1726 ?_
  refine r_sc (pc := 1727) CX P SC hF dL_law_1727 (fun v4 hF => ?_)
  refine r_cVi (pc := 1728) (As := [.int v4]) (rest := [.int v2]) CX P hl.1 hF kv_L_209 (fun r h1 q => c_X10_undo l G B _ _ _ _ _ q) rfl rfl ⟨Nat.le_of_ble_eq_true rfl, Nat.le_of_ble_eq_true rfl⟩ (Nat.le_of_ble_eq_true rfl) (lf0 hj) dL_law_1728 (fun v5 h6 H locs P hF => ?_)
  replace hF := un_i hF
  refine lv_icmp_eq (pc := 1731) (tgt := 1805) hx hb dL_law_1731 (by decide) (fun hc => ?_) (fun hc => ?_)
  · rw [if_pos hc] at hF
    obtain ⟨v7, ev7, hF⟩ := bl_o hF
    refine lv_iinc (pc := 1805) (k := 3) (v := v7) hx hb dL_law_1805 hl rfl ev7 (by decide) rfl (fun ls hl => ?_)
    replace hl : lv_has ls 4 [(3, .int v7), (0, .ref b), (1, .ref (B + ax)), (2, .ref (B + am))] := hl
    refine lv_goto (pc := 1808) (tgt := 18) hx hb dL_law_1808 (by decide) ?_
    refine W.widen (k := 775 + 57 * (j + 1)) (n := 16739 + 614 * (j + 1)) (lw0 j).1 (lw0 j).2 ?_
    exact hB _ _ _ _ _ ev7 P (lv_sub hl [1, 2, 3, 0] rfl) hF.symm
  · rw [if_neg hc] at hF
    refine lv_iconst (pc := 1734) (v := 0) hx hb dL_law_1734 (by decide) ?_
    exact absurd (Option.some.inj hF).symm (hE _)
def F_law_c48 (L : Nat) (xs : Nat → Int32) (ax am : Nat) (vi : Int32) (h : Hp) : Option ((Int32 × Hp) ⊕ ((Int32 × Hp) ⊕ Hp)) :=
(scX L xs (vi + 1)).bind fun v1 =>
(cO h ax 9 (F_X9_image h ax v1)).bind (un fun v2 h3 =>
(scX L xs (vi + 1)).bind fun v4 =>
(cO h3 am 10 (F_X10_image h3 am v4)).bind (un fun v5 h6 =>
if v2 = v5 then (
bl (vi + 5) fun v7 =>
some (.inl (v7, h6))) else (
some (.inr (.inl (0, h6))))))
set_option maxRecDepth 100000 in
set_option maxHeartbeats 4000000 in
theorem w_law_c48 {p : Program} {l : Launch} {e : Env} {s : State} {m : MethodId} {args : Array Value} {below : List Frame} {meth : Method} {c : Code} {Q : State → Prop} {G : GG} {B b L : Nat} {xs : Nat → Int32} (CX : Cxt p m c code 4 s args RL G B) (SC : SCr b L xs s B) {ax am : Nat} {vi : Int32} {h : Hp} {j : Nat} {z : (Int32 × Hp) ⊕ ((Int32 × Hp) ⊕ Hp)} {H : Heap} {locs : List Loc} {ls : Array Slot} (hj : j < 512) (P : Pic G B h s H locs) (hl : lv_has ls 4 [(0, .ref b), (1, .ref (B + ax)), (2, .ref (B + am)), (3, .int vi)]) (hF : F_law_c48 L xs ax am vi h = some z)
    (hB : ∀ (v : Int32) (h1 : Hp) (H : Heap) (locs : List Loc) (ls : Array Slot), vi + 5 = v → Pic G B h1 s H locs → lv_has ls 4 [(0, .ref b), (1, .ref (B + ax)), (2, .ref (B + am)), (3, .int v)] → some z = some (.inl (v, h1)) → W p l e room_1 s m args below meth c H locs (775 + 57 * (j + 1)) (16739 + 614 * (j + 1)) Q (F0 m 18 ls []))
    (hE : ∀ h1, ¬ z = .inr (.inl (0, h1))) : W p l e room_1 s m args below meth c H locs (775 + 57 * j) (16739 + 614 * j) Q (F0 m 1736 ls []) := by
  obtain ⟨⟨hx, hb, hml, hown, hts⟩, -, -⟩ := id CX
  unfold F_law_c48 at hF
  refine lv_aload_n (pc := 1736) hx hb dL_law_1736 rfl (lv_at hl 1 rfl) ?_
  refine lv_aload_n (pc := 1737) hx hb dL_law_1737 rfl (lv_at hl 0 rfl) ?_
  refine lv_iload_n (pc := 1738) hx hb dL_law_1738 rfl (lv_at hl 3 rfl) ?_
  refine lv_iconst (pc := 1739) (v := 1) hx hb dL_law_1739 (by decide) ?_
  refine lv_iadd (pc := 1740) hx hb dL_law_1740 ?_
  refine r_sc (pc := 1741) CX P SC hF dL_law_1741 (fun v1 hF => ?_)
  refine r_cVi (pc := 1742) (As := [.int v1]) (rest := []) CX P hl.1 hF kv_L_210 (fun r h1 q => c_X9_image l G B _ _ _ _ _ q) rfl rfl ⟨Nat.le_of_ble_eq_true rfl, Nat.le_of_ble_eq_true rfl⟩ (Nat.le_of_ble_eq_true rfl) (lf1 hj) dL_law_1742 (fun v2 h3 H locs P hF => ?_)
  replace hF := un_i hF
  refine lv_aload_n (pc := 1745) hx hb dL_law_1745 rfl (lv_at hl 2 rfl) ?_
  refine lv_aload_n (pc := 1746) hx hb dL_law_1746 rfl (lv_at hl 0 rfl) ?_
  refine lv_iload_n (pc := 1747) hx hb dL_law_1747 rfl (lv_at hl 3 rfl) ?_
  refine lv_iconst (pc := 1748) (v := 1) hx hb dL_law_1748 (by decide) ?_
  refine lv_iadd (pc := 1749) hx hb dL_law_1749 ?_
  refine r_sc (pc := 1750) CX P SC hF dL_law_1750 (fun v4 hF => ?_)
  refine r_cVi (pc := 1751) (As := [.int v4]) (rest := [.int v2]) CX P hl.1 hF kv_L_213 (fun r h1 q => c_X10_image l G B _ _ _ _ _ q) rfl rfl ⟨Nat.le_of_ble_eq_true rfl, Nat.le_of_ble_eq_true rfl⟩ (Nat.le_of_ble_eq_true rfl) (lf1 hj) dL_law_1751 (fun v5 h6 H locs P hF => ?_)
  replace hF := un_i hF
  refine lv_icmp_eq (pc := 1754) (tgt := 1805) hx hb dL_law_1754 (by decide) (fun hc => ?_) (fun hc => ?_)
  · rw [if_pos hc] at hF
    obtain ⟨v7, ev7, hF⟩ := bl_o hF
    refine lv_iinc (pc := 1805) (k := 3) (v := v7) hx hb dL_law_1805 hl rfl ev7 (by decide) rfl (fun ls hl => ?_)
    replace hl : lv_has ls 4 [(3, .int v7), (0, .ref b), (1, .ref (B + ax)), (2, .ref (B + am))] := hl
    refine lv_goto (pc := 1808) (tgt := 18) hx hb dL_law_1808 (by decide) ?_
    refine W.widen (k := 775 + 57 * (j + 1)) (n := 16739 + 614 * (j + 1)) (lw1 j).1 (lw1 j).2 ?_
    exact hB _ _ _ _ _ ev7 P (lv_sub hl [1, 2, 3, 0] rfl) hF.symm
  · rw [if_neg hc] at hF
    refine lv_iconst (pc := 1757) (v := 0) hx hb dL_law_1757 (by decide) ?_
    exact absurd (Option.some.inj hF).symm (hE _)
def F_law_c49 (L : Nat) (xs : Nat → Int32) (ax am : Nat) (vi : Int32) (h : Hp) : Option ((Int32 × Hp) ⊕ ((Int32 × Hp) ⊕ Hp)) :=
(scX L xs (vi + 1)).bind fun v1 =>
(cO h ax 9 (F_X9_restore h ax v1)).bind (un fun v2 h3 =>
(scX L xs (vi + 1)).bind fun v4 =>
(cO h3 am 10 (F_X10_restore h3 am v4)).bind (un fun v5 h6 =>
if v2 = v5 then (
bl (vi + 5) fun v7 =>
some (.inl (v7, h6))) else (
some (.inr (.inl (0, h6))))))
set_option maxRecDepth 100000 in
set_option maxHeartbeats 4000000 in
theorem w_law_c49 {p : Program} {l : Launch} {e : Env} {s : State} {m : MethodId} {args : Array Value} {below : List Frame} {meth : Method} {c : Code} {Q : State → Prop} {G : GG} {B b L : Nat} {xs : Nat → Int32} (CX : Cxt p m c code 4 s args RL G B) (SC : SCr b L xs s B) {ax am : Nat} {vi : Int32} {h : Hp} {j : Nat} {z : (Int32 × Hp) ⊕ ((Int32 × Hp) ⊕ Hp)} {H : Heap} {locs : List Loc} {ls : Array Slot} (hj : j < 512) (P : Pic G B h s H locs) (hl : lv_has ls 4 [(0, .ref b), (1, .ref (B + ax)), (2, .ref (B + am)), (3, .int vi)]) (hF : F_law_c49 L xs ax am vi h = some z)
    (hB : ∀ (v : Int32) (h1 : Hp) (H : Heap) (locs : List Loc) (ls : Array Slot), vi + 5 = v → Pic G B h1 s H locs → lv_has ls 4 [(0, .ref b), (1, .ref (B + ax)), (2, .ref (B + am)), (3, .int v)] → some z = some (.inl (v, h1)) → W p l e room_1 s m args below meth c H locs (775 + 57 * (j + 1)) (16739 + 614 * (j + 1)) Q (F0 m 18 ls []))
    (hE : ∀ h1, ¬ z = .inr (.inl (0, h1))) : W p l e room_1 s m args below meth c H locs (775 + 57 * j) (16739 + 614 * j) Q (F0 m 1759 ls []) := by
  obtain ⟨⟨hx, hb, hml, hown, hts⟩, -, -⟩ := id CX
  unfold F_law_c49 at hF
  refine lv_aload_n (pc := 1759) hx hb dL_law_1759 rfl (lv_at hl 1 rfl) ?_
  refine lv_aload_n (pc := 1760) hx hb dL_law_1760 rfl (lv_at hl 0 rfl) ?_
  refine lv_iload_n (pc := 1761) hx hb dL_law_1761 rfl (lv_at hl 3 rfl) ?_
  refine lv_iconst (pc := 1762) (v := 1) hx hb dL_law_1762 (by decide) ?_
  refine lv_iadd (pc := 1763) hx hb dL_law_1763 ?_
  refine r_sc (pc := 1764) CX P SC hF dL_law_1764 (fun v1 hF => ?_)
  refine r_cVi (pc := 1765) (As := [.int v1]) (rest := []) CX P hl.1 hF kv_L_214 (fun r h1 q => c_X9_restore l G B _ _ _ _ _ q) rfl rfl ⟨Nat.le_of_ble_eq_true rfl, Nat.le_of_ble_eq_true rfl⟩ (Nat.le_of_ble_eq_true rfl) (lf0 hj) dL_law_1765 (fun v2 h3 H locs P hF => ?_)
  replace hF := un_i hF
  refine lv_aload_n (pc := 1768) hx hb dL_law_1768 rfl (lv_at hl 2 rfl) ?_
  refine lv_aload_n (pc := 1769) hx hb dL_law_1769 rfl (lv_at hl 0 rfl) ?_
  refine lv_iload_n (pc := 1770) hx hb dL_law_1770 rfl (lv_at hl 3 rfl) ?_
  refine lv_iconst (pc := 1771) (v := 1) hx hb dL_law_1771 (by decide) ?_
  refine lv_iadd (pc := 1772) hx hb dL_law_1772 ?_
  refine r_sc (pc := 1773) CX P SC hF dL_law_1773 (fun v4 hF => ?_)
  refine r_cVi (pc := 1774) (As := [.int v4]) (rest := [.int v2]) CX P hl.1 hF kv_L_217 (fun r h1 q => c_X10_restore l G B _ _ _ _ _ q) rfl rfl ⟨Nat.le_of_ble_eq_true rfl, Nat.le_of_ble_eq_true rfl⟩ (Nat.le_of_ble_eq_true rfl) (lf0 hj) dL_law_1774 (fun v5 h6 H locs P hF => ?_)
  replace hF := un_i hF
  refine lv_icmp_eq (pc := 1777) (tgt := 1805) hx hb dL_law_1777 (by decide) (fun hc => ?_) (fun hc => ?_)
  · rw [if_pos hc] at hF
    obtain ⟨v7, ev7, hF⟩ := bl_o hF
    refine lv_iinc (pc := 1805) (k := 3) (v := v7) hx hb dL_law_1805 hl rfl ev7 (by decide) rfl (fun ls hl => ?_)
    replace hl : lv_has ls 4 [(3, .int v7), (0, .ref b), (1, .ref (B + ax)), (2, .ref (B + am))] := hl
    refine lv_goto (pc := 1808) (tgt := 18) hx hb dL_law_1808 (by decide) ?_
    refine W.widen (k := 775 + 57 * (j + 1)) (n := 16739 + 614 * (j + 1)) (lw0 j).1 (lw0 j).2 ?_
    exact hB _ _ _ _ _ ev7 P (lv_sub hl [1, 2, 3, 0] rfl) hF.symm
  · rw [if_neg hc] at hF
    refine lv_iconst (pc := 1780) (v := 0) hx hb dL_law_1780 (by decide) ?_
    exact absurd (Option.some.inj hF).symm (hE _)
def F_law_c50 (L : Nat) (xs : Nat → Int32) (ax am : Nat) (vi : Int32) (h : Hp) : Option ((Int32 × Hp) ⊕ ((Int32 × Hp) ⊕ Hp)) :=
(scX L xs (vi + 1)).bind fun v1 =>
(cO h ax 9 (F_X9_count h ax v1)).bind fun v2 =>
(scX L xs (vi + 1)).bind fun v3 =>
(cO h am 10 (F_X10_count h am v3)).bind (un fun v4 h5 =>
if v2 = v4 then (
bl (vi + 5) fun v6 =>
some (.inl (v6, h5))) else (
some (.inr (.inl (0, h5)))))
set_option maxRecDepth 100000 in
set_option maxHeartbeats 4000000 in
theorem w_law_c50 {p : Program} {l : Launch} {e : Env} {s : State} {m : MethodId} {args : Array Value} {below : List Frame} {meth : Method} {c : Code} {Q : State → Prop} {G : GG} {B b L : Nat} {xs : Nat → Int32} (CX : Cxt p m c code 4 s args RL G B) (SC : SCr b L xs s B) {ax am : Nat} {vi : Int32} {h : Hp} {j : Nat} {z : (Int32 × Hp) ⊕ ((Int32 × Hp) ⊕ Hp)} {H : Heap} {locs : List Loc} {ls : Array Slot} (hj : j < 512) (P : Pic G B h s H locs) (hl : lv_has ls 4 [(0, .ref b), (1, .ref (B + ax)), (2, .ref (B + am)), (3, .int vi)]) (hF : F_law_c50 L xs ax am vi h = some z)
    (hB : ∀ (v : Int32) (h1 : Hp) (H : Heap) (locs : List Loc) (ls : Array Slot), vi + 5 = v → Pic G B h1 s H locs → lv_has ls 4 [(0, .ref b), (1, .ref (B + ax)), (2, .ref (B + am)), (3, .int v)] → some z = some (.inl (v, h1)) → W p l e room_1 s m args below meth c H locs (775 + 57 * (j + 1)) (16739 + 614 * (j + 1)) Q (F0 m 18 ls []))
    (hE : ∀ h1, ¬ z = .inr (.inl (0, h1))) : W p l e room_1 s m args below meth c H locs (775 + 57 * j) (16739 + 614 * j) Q (F0 m 1782 ls []) := by
  obtain ⟨⟨hx, hb, hml, hown, hts⟩, -, -⟩ := id CX
  unfold F_law_c50 at hF
  refine lv_aload_n (pc := 1782) hx hb dL_law_1782 rfl (lv_at hl 1 rfl) ?_
  refine lv_aload_n (pc := 1783) hx hb dL_law_1783 rfl (lv_at hl 0 rfl) ?_
  refine lv_iload_n (pc := 1784) hx hb dL_law_1784 rfl (lv_at hl 3 rfl) ?_
  refine lv_iconst (pc := 1785) (v := 1) hx hb dL_law_1785 (by decide) ?_
  refine lv_iadd (pc := 1786) hx hb dL_law_1786 ?_
  refine r_sc (pc := 1787) CX P SC hF dL_law_1787 (fun v1 hF => ?_)
  refine r_cVp (pc := 1788) (As := [.int v1]) (rest := []) CX P hl.1 hF kv_L_218 (fun r q => c_X9_count l G B _ _ _ _ q) rfl rfl ⟨Nat.le_of_ble_eq_true rfl, Nat.le_of_ble_eq_true rfl⟩ (Nat.le_of_ble_eq_true rfl) (lf0 hj) dL_law_1788 (fun v2 H locs P hF => ?_)
  refine lv_aload_n (pc := 1791) hx hb dL_law_1791 rfl (lv_at hl 2 rfl) ?_
  refine lv_aload_n (pc := 1792) hx hb dL_law_1792 rfl (lv_at hl 0 rfl) ?_
  refine lv_iload_n (pc := 1793) hx hb dL_law_1793 rfl (lv_at hl 3 rfl) ?_
  refine lv_iconst (pc := 1794) (v := 1) hx hb dL_law_1794 (by decide) ?_
  refine lv_iadd (pc := 1795) hx hb dL_law_1795 ?_
  refine r_sc (pc := 1796) CX P SC hF dL_law_1796 (fun v3 hF => ?_)
  refine r_cVi (pc := 1797) (As := [.int v3]) (rest := [.int v2]) CX P hl.1 hF kv_L_221 (fun r h1 q => c_X10_count l G B _ _ _ _ _ q) rfl rfl ⟨Nat.le_of_ble_eq_true rfl, Nat.le_of_ble_eq_true rfl⟩ (Nat.le_of_ble_eq_true rfl) (lf0 hj) dL_law_1797 (fun v4 h5 H locs P hF => ?_)
  replace hF := un_i hF
  refine lv_icmp_eq (pc := 1800) (tgt := 1805) hx hb dL_law_1800 (by decide) (fun hc => ?_) (fun hc => ?_)
  · rw [if_pos hc] at hF
    obtain ⟨v6, ev6, hF⟩ := bl_o hF
    refine lv_iinc (pc := 1805) (k := 3) (v := v6) hx hb dL_law_1805 hl rfl ev6 (by decide) rfl (fun ls hl => ?_)
    replace hl : lv_has ls 4 [(3, .int v6), (0, .ref b), (1, .ref (B + ax)), (2, .ref (B + am))] := hl
    refine lv_goto (pc := 1808) (tgt := 18) hx hb dL_law_1808 (by decide) ?_
    refine W.widen (k := 775 + 57 * (j + 1)) (n := 16739 + 614 * (j + 1)) (lw0 j).1 (lw0 j).2 ?_
    exact hB _ _ _ _ _ ev6 P (lv_sub hl [1, 2, 3, 0] rfl) hF.symm
  · rw [if_neg hc] at hF
    refine lv_iconst (pc := 1803) (v := 0) hx hb dL_law_1803 (by decide) ?_
    exact absurd (Option.some.inj hF).symm (hE _)
def F_law_L18 (L : Nat) (xs : Nat → Int32) (ax am : Nat) (vi : Int32) (h : Hp) : Option ((Int32 × Hp) ⊕ ((Int32 × Hp) ⊕ Hp)) :=
if Int32.ofNat L - 5 < vi then (
some (.inr (.inr h))) else (
(scX L xs vi).bind fun v4 =>
if v4 &&& 63 = 0 then F_law_c0 L xs ax am vi h else
if v4 &&& 63 = 1 then F_law_c1 L xs ax am vi h else
if v4 &&& 63 = 2 then F_law_c2 L xs ax am vi h else
if v4 &&& 63 = 3 then F_law_c3 L xs ax am vi h else
if v4 &&& 63 = 4 then F_law_c4 L xs ax am vi h else
if v4 &&& 63 = 5 then F_law_c5 L xs ax am vi h else
if v4 &&& 63 = 6 then F_law_c6 L xs ax am vi h else
if v4 &&& 63 = 7 then F_law_c7 L xs ax am vi h else
if v4 &&& 63 = 8 then F_law_c8 L xs ax am vi h else
if v4 &&& 63 = 9 then F_law_c9 L xs ax am vi h else
if v4 &&& 63 = 10 then F_law_c10 L xs ax am vi h else
if v4 &&& 63 = 11 then F_law_c11 L xs ax am vi h else
if v4 &&& 63 = 12 then F_law_c12 L xs ax am vi h else
if v4 &&& 63 = 13 then F_law_c13 L xs ax am vi h else
if v4 &&& 63 = 14 then F_law_c14 L xs ax am vi h else
if v4 &&& 63 = 15 then F_law_c15 L xs ax am vi h else
if v4 &&& 63 = 16 then F_law_c16 L xs ax am vi h else
if v4 &&& 63 = 17 then F_law_c17 L xs ax am vi h else
if v4 &&& 63 = 18 then F_law_c18 L xs ax am vi h else
if v4 &&& 63 = 19 then F_law_c19 L xs ax am vi h else
if v4 &&& 63 = 20 then F_law_c20 L xs ax am vi h else
if v4 &&& 63 = 21 then F_law_c21 L xs ax am vi h else
if v4 &&& 63 = 22 then F_law_c22 L xs ax am vi h else
if v4 &&& 63 = 23 then F_law_c23 L xs ax am vi h else
if v4 &&& 63 = 24 then F_law_c24 L xs ax am vi h else
if v4 &&& 63 = 25 then F_law_c25 L xs ax am vi h else
if v4 &&& 63 = 26 then F_law_c26 L xs ax am vi h else
if v4 &&& 63 = 27 then F_law_c27 L xs ax am vi h else
if v4 &&& 63 = 28 then F_law_c28 L xs ax am vi h else
if v4 &&& 63 = 29 then F_law_c29 L xs ax am vi h else
if v4 &&& 63 = 30 then F_law_c30 L xs ax am vi h else
if v4 &&& 63 = 31 then F_law_c31 L xs ax am vi h else
if v4 &&& 63 = 32 then F_law_c32 L xs ax am vi h else
if v4 &&& 63 = 33 then F_law_c33 L xs ax am vi h else
if v4 &&& 63 = 34 then F_law_c34 L xs ax am vi h else
if v4 &&& 63 = 35 then F_law_c35 L xs ax am vi h else
if v4 &&& 63 = 36 then F_law_c36 L xs ax am vi h else
if v4 &&& 63 = 37 then F_law_c37 L xs ax am vi h else
if v4 &&& 63 = 38 then F_law_c38 L xs ax am vi h else
if v4 &&& 63 = 39 then F_law_c39 L xs ax am vi h else
if v4 &&& 63 = 40 then F_law_c40 L xs ax am vi h else
if v4 &&& 63 = 41 then F_law_c41 L xs ax am vi h else
if v4 &&& 63 = 42 then F_law_c42 L xs ax am vi h else
if v4 &&& 63 = 43 then F_law_c43 L xs ax am vi h else
if v4 &&& 63 = 44 then F_law_c44 L xs ax am vi h else
if v4 &&& 63 = 45 then F_law_c45 L xs ax am vi h else
if v4 &&& 63 = 46 then F_law_c46 L xs ax am vi h else
if v4 &&& 63 = 47 then F_law_c47 L xs ax am vi h else
if v4 &&& 63 = 48 then F_law_c48 L xs ax am vi h else
if v4 &&& 63 = 49 then F_law_c49 L xs ax am vi h else
if v4 &&& 63 = 50 then F_law_c50 L xs ax am vi h else
bl (vi + 5) fun v5 =>
some (.inl (v5, h)))
