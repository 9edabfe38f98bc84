theorem uk_0 : ∀ k, k < 7 → u_lay RX0 TX0 k ∈ GW
  | 0, _ => gw_mem 227 (by decide +kernel) (by decide +kernel)
  | 1, _ => gw_mem 229 (by decide +kernel) (by decide +kernel)
  | 2, _ => gw_mem 231 (by decide +kernel) (by decide +kernel)
  | 3, _ => gw_mem 233 (by decide +kernel) (by decide +kernel)
  | 4, _ => gw_mem 235 (by decide +kernel) (by decide +kernel)
  | 5, _ => gw_mem 237 (by decide +kernel) (by decide +kernel)
  | 6, _ => gw_mem 239 (by decide +kernel) (by decide +kernel)
  | k + 7, hk => absurd hk (by omega)
theorem uw_0 : ∀ w ∈ u_ws RX0 TX0 7, w ∈ GW := fun w hw => by
  obtain ⟨k, hk, rfl⟩ := List.mem_map.mp hw
  exact uk_0 k (List.mem_range.mp hk)
theorem kdk_0 : ∀ k, k < 7 → (kd 0)[k]? = some (decide (tyX0 k = .int)) := by decide +kernel
theorem kdv_0 : ∀ k, k < 7 → defaultValue (tyX0 k) = if tyX0 k = .int then .int 0 else .null := by decide +kernel
theorem uk_1 : ∀ k, k < 3 → u_lay RX1 TX1 k ∈ GW
  | 0, _ => gw_mem 256 (by decide +kernel) (by decide +kernel)
  | 1, _ => gw_mem 258 (by decide +kernel) (by decide +kernel)
  | 2, _ => gw_mem 260 (by decide +kernel) (by decide +kernel)
  | k + 3, hk => absurd hk (by omega)
theorem uw_1 : ∀ w ∈ u_ws RX1 TX1 3, w ∈ GW := fun w hw => by
  obtain ⟨k, hk, rfl⟩ := List.mem_map.mp hw
  exact uk_1 k (List.mem_range.mp hk)
theorem kdk_1 : ∀ k, k < 3 → (kd 1)[k]? = some (decide (tyX1 k = .int)) := by decide +kernel
theorem kdv_1 : ∀ k, k < 3 → defaultValue (tyX1 k) = if tyX1 k = .int then .int 0 else .null := by decide +kernel
theorem uk_2 : ∀ k, k < 2 → u_lay RX2 TX2 k ∈ GW
  | 0, _ => gw_mem 398 (by decide +kernel) (by decide +kernel)
  | 1, _ => gw_mem 400 (by decide +kernel) (by decide +kernel)
  | k + 2, hk => absurd hk (by omega)
theorem uw_2 : ∀ w ∈ u_ws RX2 TX2 2, w ∈ GW := fun w hw => by
  obtain ⟨k, hk, rfl⟩ := List.mem_map.mp hw
  exact uk_2 k (List.mem_range.mp hk)
theorem kdk_2 : ∀ k, k < 2 → (kd 2)[k]? = some (decide (tyX2 k = .int)) := by decide +kernel
theorem kdv_2 : ∀ k, k < 2 → defaultValue (tyX2 k) = if tyX2 k = .int then .int 0 else .null := by decide +kernel
theorem uk_3 : ∀ k, k < 1 → u_lay RX3 TX3 k ∈ GW
  | 0, _ => gw_mem 386 (by decide +kernel) (by decide +kernel)
  | k + 1, hk => absurd hk (by omega)
theorem uw_3 : ∀ w ∈ u_ws RX3 TX3 1, w ∈ GW := fun w hw => by
  obtain ⟨k, hk, rfl⟩ := List.mem_map.mp hw
  exact uk_3 k (List.mem_range.mp hk)
theorem kdk_3 : ∀ k, k < 1 → (kd 3)[k]? = some (decide (tyX3 k = .int)) := by decide +kernel
theorem kdv_3 : ∀ k, k < 1 → defaultValue (tyX3 k) = if tyX3 k = .int then .int 0 else .null := by decide +kernel
theorem uk_4 : ∀ k, k < 3 → u_lay RX4 TX4 k ∈ GW
  | 0, _ => gw_mem 345 (by decide +kernel) (by decide +kernel)
  | 1, _ => gw_mem 347 (by decide +kernel) (by decide +kernel)
  | 2, _ => gw_mem 349 (by decide +kernel) (by decide +kernel)
  | k + 3, hk => absurd hk (by omega)
theorem uw_4 : ∀ w ∈ u_ws RX4 TX4 3, w ∈ GW := fun w hw => by
  obtain ⟨k, hk, rfl⟩ := List.mem_map.mp hw
  exact uk_4 k (List.mem_range.mp hk)
theorem kdk_4 : ∀ k, k < 3 → (kd 4)[k]? = some (decide (tyX4 k = .int)) := by decide +kernel
theorem kdv_4 : ∀ k, k < 3 → defaultValue (tyX4 k) = if tyX4 k = .int then .int 0 else .null := by decide +kernel
theorem uk_5 : ∀ k, k < 6 → u_lay RX5 TX5 k ∈ GW
  | 0, _ => gw_mem 366 (by decide +kernel) (by decide +kernel)
  | 1, _ => gw_mem 368 (by decide +kernel) (by decide +kernel)
  | 2, _ => gw_mem 370 (by decide +kernel) (by decide +kernel)
  | 3, _ => gw_mem 372 (by decide +kernel) (by decide +kernel)
  | 4, _ => gw_mem 374 (by decide +kernel) (by decide +kernel)
  | 5, _ => gw_mem 376 (by decide +kernel) (by decide +kernel)
  | k + 6, hk => absurd hk (by omega)
theorem uw_5 : ∀ w ∈ u_ws RX5 TX5 6, w ∈ GW := fun w hw => by
  obtain ⟨k, hk, rfl⟩ := List.mem_map.mp hw
  exact uk_5 k (List.mem_range.mp hk)
theorem kdk_5 : ∀ k, k < 6 → (kd 5)[k]? = some (decide (tyX5 k = .int)) := by decide +kernel
theorem kdv_5 : ∀ k, k < 6 → defaultValue (tyX5 k) = if tyX5 k = .int then .int 0 else .null := by decide +kernel
theorem uk_6 : ∀ k, k < 9 → u_lay RX6 TX6 k ∈ GW
  | 0, _ => gw_mem 172 (by decide +kernel) (by decide +kernel)
  | 1, _ => gw_mem 174 (by decide +kernel) (by decide +kernel)
  | 2, _ => gw_mem 176 (by decide +kernel) (by decide +kernel)
  | 3, _ => gw_mem 178 (by decide +kernel) (by decide +kernel)
  | 4, _ => gw_mem 180 (by decide +kernel) (by decide +kernel)
  | 5, _ => gw_mem 182 (by decide +kernel) (by decide +kernel)
  | 6, _ => gw_mem 184 (by decide +kernel) (by decide +kernel)
  | 7, _ => gw_mem 186 (by decide +kernel) (by decide +kernel)
  | 8, _ => gw_mem 188 (by decide +kernel) (by decide +kernel)
  | k + 9, hk => absurd hk (by omega)
theorem uw_6 : ∀ w ∈ u_ws RX6 TX6 9, w ∈ GW := fun w hw => by
  obtain ⟨k, hk, rfl⟩ := List.mem_map.mp hw
  exact uk_6 k (List.mem_range.mp hk)
theorem kdk_6 : ∀ k, k < 9 → (kd 6)[k]? = some (decide (tyX6 k = .int)) := by decide +kernel
theorem kdv_6 : ∀ k, k < 9 → defaultValue (tyX6 k) = if tyX6 k = .int then .int 0 else .null := by decide +kernel
theorem uk_7 : ∀ k, k < 5 → u_lay RX7 TX7 k ∈ GW
  | 0, _ => gw_mem 278 (by decide +kernel) (by decide +kernel)
  | 1, _ => gw_mem 280 (by decide +kernel) (by decide +kernel)
  | 2, _ => gw_mem 282 (by decide +kernel) (by decide +kernel)
  | 3, _ => gw_mem 284 (by decide +kernel) (by decide +kernel)
  | 4, _ => gw_mem 286 (by decide +kernel) (by decide +kernel)
  | k + 5, hk => absurd hk (by omega)
theorem uw_7 : ∀ w ∈ u_ws RX7 TX7 5, w ∈ GW := fun w hw => by
  obtain ⟨k, hk, rfl⟩ := List.mem_map.mp hw
  exact uk_7 k (List.mem_range.mp hk)
theorem kdk_7 : ∀ k, k < 5 → (kd 7)[k]? = some (decide (tyX7 k = .int)) := by decide +kernel
theorem kdv_7 : ∀ k, k < 5 → defaultValue (tyX7 k) = if tyX7 k = .int then .int 0 else .null := by decide +kernel
theorem uk_8 : ∀ k, k < 8 → u_lay RX8 TX8 k ∈ GW
  | 0, _ => gw_mem 315 (by decide +kernel) (by decide +kernel)
  | 1, _ => gw_mem 317 (by decide +kernel) (by decide +kernel)
  | 2, _ => gw_mem 319 (by decide +kernel) (by decide +kernel)
  | 3, _ => gw_mem 321 (by decide +kernel) (by decide +kernel)
  | 4, _ => gw_mem 323 (by decide +kernel) (by decide +kernel)
  | 5, _ => gw_mem 325 (by decide +kernel) (by decide +kernel)
  | 6, _ => gw_mem 327 (by decide +kernel) (by decide +kernel)
  | 7, _ => gw_mem 329 (by decide +kernel) (by decide +kernel)
  | k + 8, hk => absurd hk (by omega)
theorem uw_8 : ∀ w ∈ u_ws RX8 TX8 8, w ∈ GW := fun w hw => by
  obtain ⟨k, hk, rfl⟩ := List.mem_map.mp hw
  exact uk_8 k (List.mem_range.mp hk)
theorem kdk_8 : ∀ k, k < 8 → (kd 8)[k]? = some (decide (tyX8 k = .int)) := by decide +kernel
theorem kdv_8 : ∀ k, k < 8 → defaultValue (tyX8 k) = if tyX8 k = .int then .int 0 else .null := by decide +kernel
theorem uk_9 : ∀ k, k < 7 → u_lay RX9 TX9 k ∈ GW
  | 0, _ => gw_mem 410 (by decide +kernel) (by decide +kernel)
  | 1, _ => gw_mem 412 (by decide +kernel) (by decide +kernel)
  | 2, _ => gw_mem 414 (by decide +kernel) (by decide +kernel)
  | 3, _ => gw_mem 416 (by decide +kernel) (by decide +kernel)
  | 4, _ => gw_mem 418 (by decide +kernel) (by decide +kernel)
  | 5, _ => gw_mem 420 (by decide +kernel) (by decide +kernel)
  | 6, _ => gw_mem 422 (by decide +kernel) (by decide +kernel)
  | k + 7, hk => absurd hk (by omega)
theorem uw_9 : ∀ w ∈ u_ws RX9 TX9 7, w ∈ GW := fun w hw => by
  obtain ⟨k, hk, rfl⟩ := List.mem_map.mp hw
  exact uk_9 k (List.mem_range.mp hk)
theorem kdk_9 : ∀ k, k < 7 → (kd 9)[k]? = some (decide (tyX9 k = .int)) := by decide +kernel
theorem kdv_9 : ∀ k, k < 7 → defaultValue (tyX9 k) = if tyX9 k = .int then .int 0 else .null := by decide +kernel
theorem uk_10 : ∀ k, k < 21 → u_lay RX10 TX10 k ∈ GW
  | 0, _ => gw_mem 1067 (by decide +kernel) (by decide +kernel)
  | 1, _ => gw_mem 1069 (by decide +kernel) (by decide +kernel)
  | 2, _ => gw_mem 1071 (by decide +kernel) (by decide +kernel)
  | 3, _ => gw_mem 1073 (by decide +kernel) (by decide +kernel)
  | 4, _ => gw_mem 1075 (by decide +kernel) (by decide +kernel)
  | 5, _ => gw_mem 1077 (by decide +kernel) (by decide +kernel)
  | 6, _ => gw_mem 1079 (by decide +kernel) (by decide +kernel)
  | 7, _ => gw_mem 1081 (by decide +kernel) (by decide +kernel)
  | 8, _ => gw_mem 1083 (by decide +kernel) (by decide +kernel)
  | 9, _ => gw_mem 1085 (by decide +kernel) (by decide +kernel)
  | 10, _ => gw_mem 1087 (by decide +kernel) (by decide +kernel)
  | 11, _ => gw_mem 1089 (by decide +kernel) (by decide +kernel)
  | 12, _ => gw_mem 1091 (by decide +kernel) (by decide +kernel)
  | 13, _ => gw_mem 1093 (by decide +kernel) (by decide +kernel)
  | 14, _ => gw_mem 1095 (by decide +kernel) (by decide +kernel)
  | 15, _ => gw_mem 1097 (by decide +kernel) (by decide +kernel)
  | 16, _ => gw_mem 1099 (by decide +kernel) (by decide +kernel)
  | 17, _ => gw_mem 1101 (by decide +kernel) (by decide +kernel)
  | 18, _ => gw_mem 1103 (by decide +kernel) (by decide +kernel)
  | 19, _ => gw_mem 1105 (by decide +kernel) (by decide +kernel)
  | 20, _ => gw_mem 1107 (by decide +kernel) (by decide +kernel)
  | k + 21, hk => absurd hk (by omega)
theorem uw_10 : ∀ w ∈ u_ws RX10 TX10 21, w ∈ GW := fun w hw => by
  obtain ⟨k, hk, rfl⟩ := List.mem_map.mp hw
  exact uk_10 k (List.mem_range.mp hk)
theorem kdk_10 : ∀ k, k < 21 → (kd 10)[k]? = some (decide (tyX10 k = .int)) := by decide +kernel
theorem kdv_10 : ∀ k, k < 21 → defaultValue (tyX10 k) = if tyX10 k = .int then .int 0 else .null := by decide +kernel
theorem tw_3 : Cond.initialized RX6 ∈ GW := gw_mem 87 (by decide +kernel) (by decide +kernel)
theorem tw_4 : Cond.initialized RJ7 ∈ GW := gw_mem 88 (by decide +kernel) (by decide +kernel)
theorem tw_23 : Cond.instanceMethod Lib.objectInit ∈ GW := gw_mem 107 (by decide +kernel) (by decide +kernel)
theorem tw_24 : Cond.code Lib.objectInit ⟨#[0xb1]⟩ 1 none ∈ GW := gw_mem 108 (by decide +kernel) (by decide +kernel)
theorem tw_36 : Cond.methodLink RX6 3 Lib.objectInit ∈ GW := gw_mem 120 (by decide +kernel) (by decide +kernel)
theorem tw_37 : Cond.classLink RX6 18 ("[" ++ (FieldType.array .int).toString) ∈ GW := gw_mem 121 (by decide +kernel) (by decide +kernel)
theorem tw_39 : Cond.methodLink RX6 38 yJ7_fill_53178 ∈ GW := gw_mem 123 (by decide +kernel) (by decide +kernel)
theorem tw_40 : Cond.static yJ7_fill_53178 ∈ GW := gw_mem 124 (by decide +kernel) (by decide +kernel)
theorem tw_41 : Cond.code yJ7_fill_53178 cJ7_fill_53178 4 none ∈ GW := gw_mem 125 (by decide +kernel) (by decide +kernel)
theorem tw_42 : Cond.methodLink RX6 44 yX6_putGroup ∈ GW := gw_mem 126 (by decide +kernel) (by decide +kernel)
theorem tw_43 : Cond.instanceMethod yX6_putGroup ∈ GW := gw_mem 127 (by decide +kernel) (by decide +kernel)
theorem tw_44 : Cond.selects RX6 yX6_putGroup yX6_putGroup ∈ GW := gw_mem 128 (by decide +kernel) (by decide +kernel)
theorem tw_45 : Cond.code yX6_putGroup cX6_putGroup 4 none ∈ GW := gw_mem 129 (by decide +kernel) (by decide +kernel)
theorem tw_48 : Cond.fieldLink RX6 9 "GroupLimits$Tree" "parent" "[I" ∈ GW := gw_mem 132 (by decide +kernel) (by decide +kernel)
theorem tw_54 : Cond.fieldLink RX6 15 "GroupLimits$Tree" "order" "[I" ∈ GW := gw_mem 138 (by decide +kernel) (by decide +kernel)
theorem tw_58 : Cond.fieldLink RX6 54 "GroupLimits$Tree" "size" "I" ∈ GW := gw_mem 142 (by decide +kernel) (by decide +kernel)
theorem tw_62 : Cond.fieldLink RX6 20 "GroupLimits$Tree" "limits" "[[I" ∈ GW := gw_mem 146 (by decide +kernel) (by decide +kernel)
theorem tw_68 : Cond.fieldLink RX6 23 "GroupLimits$Tree" "stock" "[I" ∈ GW := gw_mem 152 (by decide +kernel) (by decide +kernel)
theorem tw_72 : Cond.fieldLink RX6 26 "GroupLimits$Tree" "total" "[I" ∈ GW := gw_mem 156 (by decide +kernel) (by decide +kernel)
theorem tw_76 : Cond.fieldLink RX6 29 "GroupLimits$Tree" "out" "[I" ∈ GW := gw_mem 160 (by decide +kernel) (by decide +kernel)
theorem tw_80 : Cond.fieldLink RX6 32 "GroupLimits$Tree" "got" "[I" ∈ GW := gw_mem 164 (by decide +kernel) (by decide +kernel)
theorem tw_83 : Cond.fieldLink RX6 35 "GroupLimits$Tree" "events" "[[I" ∈ GW := gw_mem 167 (by decide +kernel) (by decide +kernel)
theorem tw_107 : Cond.arrayClass .int ∈ GW := gw_mem 191 (by decide +kernel) (by decide +kernel)
theorem tw_409 : Cond.instanceMethod yX6_bitsBelow ∈ GW := gw_mem 493 (by decide +kernel) (by decide +kernel)
theorem tw_410 : Cond.selects RX6 yX6_bitsBelow yX6_bitsBelow ∈ GW := gw_mem 494 (by decide +kernel) (by decide +kernel)
theorem tw_411 : Cond.code yX6_bitsBelow cX6_bitsBelow 4 (some .int) ∈ GW := gw_mem 495 (by decide +kernel) (by decide +kernel)
theorem tw_421 : Cond.methodLink RX6 61 yX6_addStock ∈ GW := gw_mem 505 (by decide +kernel) (by decide +kernel)
theorem tw_422 : Cond.instanceMethod yX6_addStock ∈ GW := gw_mem 506 (by decide +kernel) (by decide +kernel)
theorem tw_423 : Cond.selects RX6 yX6_addStock yX6_addStock ∈ GW := gw_mem 507 (by decide +kernel) (by decide +kernel)
theorem tw_424 : Cond.code yX6_addStock cX6_addStock 3 none ∈ GW := gw_mem 508 (by decide +kernel) (by decide +kernel)
theorem tw_425 : Cond.methodLink RX6 74 yX6_addTotal ∈ GW := gw_mem 509 (by decide +kernel) (by decide +kernel)
theorem tw_426 : Cond.instanceMethod yX6_addTotal ∈ GW := gw_mem 510 (by decide +kernel) (by decide +kernel)
theorem tw_427 : Cond.selects RX6 yX6_addTotal yX6_addTotal ∈ GW := gw_mem 511 (by decide +kernel) (by decide +kernel)
theorem tw_428 : Cond.code yX6_addTotal cX6_addTotal 5 none ∈ GW := gw_mem 512 (by decide +kernel) (by decide +kernel)
theorem tw_456 : Cond.methodLink RX6 77 yX6_bitsBelow ∈ GW := gw_mem 540 (by decide +kernel) (by decide +kernel)
theorem ok_J7_fill_53178 : okM yJ7_fill_53178 2 := ⟨by decide +kernel, by decide +kernel, by decide +kernel⟩
theorem ok_X6_addStock : okM yX6_addStock 2 := ⟨by decide +kernel, by decide +kernel, by decide +kernel⟩
theorem ok_X6_addTotal : okM yX6_addTotal 2 := ⟨by decide +kernel, by decide +kernel, by decide +kernel⟩
theorem ok_X6_bitsBelow : okM yX6_bitsBelow 1 := ⟨by decide +kernel, by decide +kernel, by decide +kernel⟩
theorem ok_X6_putGroup : okM yX6_putGroup 2 := ⟨by decide +kernel, by decide +kernel, by decide +kernel⟩
theorem fl_X6_15 : FL RX6 15 6 1 false := ⟨RX6, TX6, 9, tyX6, rfl, by decide, rfl, uw_6, tw_54, tyX6_ok, nmX6, by decide, rfl, rfl, fun _ => rfl⟩
theorem fl_X6_20 : FL RX6 20 6 3 false := ⟨RX6, TX6, 9, tyX6, rfl, by decide, rfl, uw_6, tw_62, tyX6_ok, nmX6, by decide, rfl, rfl, fun _ => rfl⟩
theorem fl_X6_23 : FL RX6 23 6 4 false := ⟨RX6, TX6, 9, tyX6, rfl, by decide, rfl, uw_6, tw_68, tyX6_ok, nmX6, by decide, rfl, rfl, fun _ => rfl⟩
theorem fl_X6_26 : FL RX6 26 6 5 false := ⟨RX6, TX6, 9, tyX6, rfl, by decide, rfl, uw_6, tw_72, tyX6_ok, nmX6, by decide, rfl, rfl, fun _ => rfl⟩
theorem fl_X6_29 : FL RX6 29 6 6 false := ⟨RX6, TX6, 9, tyX6, rfl, by decide, rfl, uw_6, tw_76, tyX6_ok, nmX6, by decide, rfl, rfl, fun _ => rfl⟩
theorem fl_X6_32 : FL RX6 32 6 7 false := ⟨RX6, TX6, 9, tyX6, rfl, by decide, rfl, uw_6, tw_80, tyX6_ok, nmX6, by decide, rfl, rfl, fun _ => rfl⟩
theorem fl_X6_35 : FL RX6 35 6 8 false := ⟨RX6, TX6, 9, tyX6, rfl, by decide, rfl, uw_6, tw_83, tyX6_ok, nmX6, by decide, rfl, rfl, fun _ => rfl⟩
theorem fl_X6_54 : FL RX6 54 6 2 true := ⟨RX6, TX6, 9, tyX6, rfl, by decide, rfl, uw_6, tw_58, tyX6_ok, nmX6, by decide, rfl, rfl, fun _ => rfl⟩
theorem fl_X6_9 : FL RX6 9 6 0 false := ⟨RX6, TX6, 9, tyX6, rfl, by decide, rfl, uw_6, tw_48, tyX6_ok, nmX6, by decide, rfl, rfl, fun _ => rfl⟩
theorem ks_X6_38 : KS RX6 38 yJ7_fill_53178 cJ7_fill_53178 4 none 2 := ⟨ok_J7_fill_53178, tw_39, tw_40, tw_4, tw_41⟩
theorem kv_X6_44 : KV RX6 44 6 yX6_putGroup cX6_putGroup 4 none 2 := ⟨_, rfl, by decide, rfl, ok_X6_putGroup, tw_42, tw_43, tw_44, tw_3, tw_45⟩
theorem kv_X6_61 : KV RX6 61 6 yX6_addStock cX6_addStock 3 none 2 := ⟨_, rfl, by decide, rfl, ok_X6_addStock, tw_421, tw_422, tw_423, tw_3, tw_424⟩
theorem kv_X6_74 : KV RX6 74 6 yX6_addTotal cX6_addTotal 5 none 2 := ⟨_, rfl, by decide, rfl, ok_X6_addTotal, tw_425, tw_426, tw_427, tw_3, tw_428⟩
theorem kv_X6_77 : KV RX6 77 6 yX6_bitsBelow cX6_bitsBelow 4 (some .int) 1 := ⟨_, rfl, by decide, rfl, ok_X6_bitsBelow, tw_456, tw_409, tw_410, tw_3, tw_411⟩
