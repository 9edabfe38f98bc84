theorem lt_1 {w : Cond} (h : w ∈ tables_1_1) : w ∈ lw_tbl := List.mem_append_right _ (List.mem_append_left _ h)
theorem lt_2 {w : Cond} (h : w ∈ tables_1_2) : w ∈ lw_tbl := List.mem_append_right _ (List.mem_append_right _ (List.mem_append_left _ h))
theorem lt_3 {w : Cond} (h : w ∈ tables_1_3) : w ∈ lw_tbl := List.mem_append_right _ (List.mem_append_right _ (List.mem_append_right _ (List.mem_append_left _ h)))
theorem lt_4 {w : Cond} (h : w ∈ tables_1_4) : w ∈ lw_tbl := List.mem_append_right _ (List.mem_append_right _ (List.mem_append_right _ (List.mem_append_right _ (List.mem_append_left _ h))))
theorem lt_5 {w : Cond} (h : w ∈ tables_1_5) : w ∈ lw_tbl := List.mem_append_right _ (List.mem_append_right _ (List.mem_append_right _ (List.mem_append_right _ (List.mem_append_right _ (List.mem_append_left _ h)))))
theorem lt_6 {w : Cond} (h : w ∈ tables_1_6) : w ∈ lw_tbl := List.mem_append_right _ (List.mem_append_right _ (List.mem_append_right _ (List.mem_append_right _ (List.mem_append_right _ (List.mem_append_right _ (List.mem_append_left _ h))))))
theorem lt_7 {w : Cond} (h : w ∈ tables_1_7) : w ∈ lw_tbl := List.mem_append_right _ (List.mem_append_right _ (List.mem_append_right _ (List.mem_append_right _ (List.mem_append_right _ (List.mem_append_right _ (List.mem_append_right _ (h)))))))
theorem gw_in {w : Cond} (h : w ∈ lw_tbl) (g : goodWord w = true) : w ∈ GW := List.mem_filter.mpr ⟨h, g⟩
set_option maxRecDepth 20000 in
theorem uk_0 : ∀ k, k < 7 → u_lay RX0 TX0 k ∈ GW
  | 0, _ => gw_in (lt_1 (List.mem_of_getElem? (i := 143) rfl)) rfl
  | 1, _ => gw_in (lt_1 (List.mem_of_getElem? (i := 145) rfl)) rfl
  | 2, _ => gw_in (lt_1 (List.mem_of_getElem? (i := 147) rfl)) rfl
  | 3, _ => gw_in (lt_1 (List.mem_of_getElem? (i := 149) rfl)) rfl
  | 4, _ => gw_in (lt_1 (List.mem_of_getElem? (i := 151) rfl)) rfl
  | 5, _ => gw_in (lt_1 (List.mem_of_getElem? (i := 153) rfl)) rfl
  | 6, _ => gw_in (lt_1 (List.mem_of_getElem? (i := 155) rfl)) rfl
  | k + 7, hk => absurd hk (by omega)
theorem uw_0 : ∀ w ∈ u_ws RX0 TX0 7, w ∈ GW := fun w hw => by
  obtain ⟨k, hk, rfl⟩ := List.mem_map.mp hw
  exact uk_0 k (List.mem_range.mp hk)
theorem kdk_0 : ∀ k, k < 7 → (kd 0)[k]? = some (decide (tyX0 k = .int)) := by decide +kernel
theorem kdv_0 : ∀ k, k < 7 → defaultValue (tyX0 k) = if tyX0 k = .int then .int 0 else .null := by decide +kernel
set_option maxRecDepth 20000 in
theorem uk_1 : ∀ k, k < 3 → u_lay RX1 TX1 k ∈ GW
  | 0, _ => gw_in (lt_1 (List.mem_of_getElem? (i := 172) rfl)) rfl
  | 1, _ => gw_in (lt_1 (List.mem_of_getElem? (i := 174) rfl)) rfl
  | 2, _ => gw_in (lt_1 (List.mem_of_getElem? (i := 176) rfl)) rfl
  | k + 3, hk => absurd hk (by omega)
theorem uw_1 : ∀ w ∈ u_ws RX1 TX1 3, w ∈ GW := fun w hw => by
  obtain ⟨k, hk, rfl⟩ := List.mem_map.mp hw
  exact uk_1 k (List.mem_range.mp hk)
theorem kdk_1 : ∀ k, k < 3 → (kd 1)[k]? = some (decide (tyX1 k = .int)) := by decide +kernel
theorem kdv_1 : ∀ k, k < 3 → defaultValue (tyX1 k) = if tyX1 k = .int then .int 0 else .null := by decide +kernel
set_option maxRecDepth 20000 in
theorem uk_2 : ∀ k, k < 2 → u_lay RX2 TX2 k ∈ GW
  | 0, _ => gw_in (lt_2 (List.mem_of_getElem? (i := 74) rfl)) rfl
  | 1, _ => gw_in (lt_2 (List.mem_of_getElem? (i := 76) rfl)) rfl
  | k + 2, hk => absurd hk (by omega)
theorem uw_2 : ∀ w ∈ u_ws RX2 TX2 2, w ∈ GW := fun w hw => by
  obtain ⟨k, hk, rfl⟩ := List.mem_map.mp hw
  exact uk_2 k (List.mem_range.mp hk)
theorem kdk_2 : ∀ k, k < 2 → (kd 2)[k]? = some (decide (tyX2 k = .int)) := by decide +kernel
theorem kdv_2 : ∀ k, k < 2 → defaultValue (tyX2 k) = if tyX2 k = .int then .int 0 else .null := by decide +kernel
set_option maxRecDepth 20000 in
theorem uk_3 : ∀ k, k < 1 → u_lay RX3 TX3 k ∈ GW
  | 0, _ => gw_in (lt_2 (List.mem_of_getElem? (i := 62) rfl)) rfl
  | k + 1, hk => absurd hk (by omega)
theorem uw_3 : ∀ w ∈ u_ws RX3 TX3 1, w ∈ GW := fun w hw => by
  obtain ⟨k, hk, rfl⟩ := List.mem_map.mp hw
  exact uk_3 k (List.mem_range.mp hk)
theorem kdk_3 : ∀ k, k < 1 → (kd 3)[k]? = some (decide (tyX3 k = .int)) := by decide +kernel
theorem kdv_3 : ∀ k, k < 1 → defaultValue (tyX3 k) = if tyX3 k = .int then .int 0 else .null := by decide +kernel
set_option maxRecDepth 20000 in
theorem uk_4 : ∀ k, k < 3 → u_lay RX4 TX4 k ∈ GW
  | 0, _ => gw_in (lt_2 (List.mem_of_getElem? (i := 21) rfl)) rfl
  | 1, _ => gw_in (lt_2 (List.mem_of_getElem? (i := 23) rfl)) rfl
  | 2, _ => gw_in (lt_2 (List.mem_of_getElem? (i := 25) rfl)) rfl
  | k + 3, hk => absurd hk (by omega)
theorem uw_4 : ∀ w ∈ u_ws RX4 TX4 3, w ∈ GW := fun w hw => by
  obtain ⟨k, hk, rfl⟩ := List.mem_map.mp hw
  exact uk_4 k (List.mem_range.mp hk)
theorem kdk_4 : ∀ k, k < 3 → (kd 4)[k]? = some (decide (tyX4 k = .int)) := by decide +kernel
theorem kdv_4 : ∀ k, k < 3 → defaultValue (tyX4 k) = if tyX4 k = .int then .int 0 else .null := by decide +kernel
set_option maxRecDepth 20000 in
theorem uk_5 : ∀ k, k < 6 → u_lay RX5 TX5 k ∈ GW
  | 0, _ => gw_in (lt_2 (List.mem_of_getElem? (i := 42) rfl)) rfl
  | 1, _ => gw_in (lt_2 (List.mem_of_getElem? (i := 44) rfl)) rfl
  | 2, _ => gw_in (lt_2 (List.mem_of_getElem? (i := 46) rfl)) rfl
  | 3, _ => gw_in (lt_2 (List.mem_of_getElem? (i := 48) rfl)) rfl
  | 4, _ => gw_in (lt_2 (List.mem_of_getElem? (i := 50) rfl)) rfl
  | 5, _ => gw_in (lt_2 (List.mem_of_getElem? (i := 52) rfl)) rfl
  | k + 6, hk => absurd hk (by omega)
theorem uw_5 : ∀ w ∈ u_ws RX5 TX5 6, w ∈ GW := fun w hw => by
  obtain ⟨k, hk, rfl⟩ := List.mem_map.mp hw
  exact uk_5 k (List.mem_range.mp hk)
theorem kdk_5 : ∀ k, k < 6 → (kd 5)[k]? = some (decide (tyX5 k = .int)) := by decide +kernel
theorem kdv_5 : ∀ k, k < 6 → defaultValue (tyX5 k) = if tyX5 k = .int then .int 0 else .null := by decide +kernel
set_option maxRecDepth 20000 in
theorem uk_6 : ∀ k, k < 9 → u_lay RX6 TX6 k ∈ GW
  | 0, _ => gw_in (lt_1 (List.mem_of_getElem? (i := 88) rfl)) rfl
  | 1, _ => gw_in (lt_1 (List.mem_of_getElem? (i := 90) rfl)) rfl
  | 2, _ => gw_in (lt_1 (List.mem_of_getElem? (i := 92) rfl)) rfl
  | 3, _ => gw_in (lt_1 (List.mem_of_getElem? (i := 94) rfl)) rfl
  | 4, _ => gw_in (lt_1 (List.mem_of_getElem? (i := 96) rfl)) rfl
  | 5, _ => gw_in (lt_1 (List.mem_of_getElem? (i := 98) rfl)) rfl
  | 6, _ => gw_in (lt_1 (List.mem_of_getElem? (i := 100) rfl)) rfl
  | 7, _ => gw_in (lt_1 (List.mem_of_getElem? (i := 102) rfl)) rfl
  | 8, _ => gw_in (lt_1 (List.mem_of_getElem? (i := 104) rfl)) rfl
  | k + 9, hk => absurd hk (by omega)
theorem uw_6 : ∀ w ∈ u_ws RX6 TX6 9, w ∈ GW := fun w hw => by
  obtain ⟨k, hk, rfl⟩ := List.mem_map.mp hw
  exact uk_6 k (List.mem_range.mp hk)
theorem kdk_6 : ∀ k, k < 9 → (kd 6)[k]? = some (decide (tyX6 k = .int)) := by decide +kernel
theorem kdv_6 : ∀ k, k < 9 → defaultValue (tyX6 k) = if tyX6 k = .int then .int 0 else .null := by decide +kernel
set_option maxRecDepth 20000 in
theorem uk_7 : ∀ k, k < 5 → u_lay RX7 TX7 k ∈ GW
  | 0, _ => gw_in (lt_1 (List.mem_of_getElem? (i := 194) rfl)) rfl
  | 1, _ => gw_in (lt_1 (List.mem_of_getElem? (i := 196) rfl)) rfl
  | 2, _ => gw_in (lt_1 (List.mem_of_getElem? (i := 198) rfl)) rfl
  | 3, _ => gw_in (lt_1 (List.mem_of_getElem? (i := 200) rfl)) rfl
  | 4, _ => gw_in (lt_1 (List.mem_of_getElem? (i := 202) rfl)) rfl
  | k + 5, hk => absurd hk (by omega)
theorem uw_7 : ∀ w ∈ u_ws RX7 TX7 5, w ∈ GW := fun w hw => by
  obtain ⟨k, hk, rfl⟩ := List.mem_map.mp hw
  exact uk_7 k (List.mem_range.mp hk)
theorem kdk_7 : ∀ k, k < 5 → (kd 7)[k]? = some (decide (tyX7 k = .int)) := by decide +kernel
theorem kdv_7 : ∀ k, k < 5 → defaultValue (tyX7 k) = if tyX7 k = .int then .int 0 else .null := by decide +kernel
set_option maxRecDepth 20000 in
theorem uk_8 : ∀ k, k < 8 → u_lay RX8 TX8 k ∈ GW
  | 0, _ => gw_in (lt_1 (List.mem_of_getElem? (i := 231) rfl)) rfl
  | 1, _ => gw_in (lt_1 (List.mem_of_getElem? (i := 233) rfl)) rfl
  | 2, _ => gw_in (lt_1 (List.mem_of_getElem? (i := 235) rfl)) rfl
  | 3, _ => gw_in (lt_1 (List.mem_of_getElem? (i := 237) rfl)) rfl
  | 4, _ => gw_in (lt_1 (List.mem_of_getElem? (i := 239) rfl)) rfl
  | 5, _ => gw_in (lt_2 (List.mem_of_getElem? (i := 1) rfl)) rfl
  | 6, _ => gw_in (lt_2 (List.mem_of_getElem? (i := 3) rfl)) rfl
  | 7, _ => gw_in (lt_2 (List.mem_of_getElem? (i := 5) rfl)) rfl
  | k + 8, hk => absurd hk (by omega)
theorem uw_8 : ∀ w ∈ u_ws RX8 TX8 8, w ∈ GW := fun w hw => by
  obtain ⟨k, hk, rfl⟩ := List.mem_map.mp hw
  exact uk_8 k (List.mem_range.mp hk)
theorem kdk_8 : ∀ k, k < 8 → (kd 8)[k]? = some (decide (tyX8 k = .int)) := by decide +kernel
theorem kdv_8 : ∀ k, k < 8 → defaultValue (tyX8 k) = if tyX8 k = .int then .int 0 else .null := by decide +kernel
set_option maxRecDepth 20000 in
theorem uk_9 : ∀ k, k < 7 → u_lay RX9 TX9 k ∈ GW
  | 0, _ => gw_in (lt_2 (List.mem_of_getElem? (i := 86) rfl)) rfl
  | 1, _ => gw_in (lt_2 (List.mem_of_getElem? (i := 88) rfl)) rfl
  | 2, _ => gw_in (lt_2 (List.mem_of_getElem? (i := 90) rfl)) rfl
  | 3, _ => gw_in (lt_2 (List.mem_of_getElem? (i := 92) rfl)) rfl
  | 4, _ => gw_in (lt_2 (List.mem_of_getElem? (i := 94) rfl)) rfl
  | 5, _ => gw_in (lt_2 (List.mem_of_getElem? (i := 96) rfl)) rfl
  | 6, _ => gw_in (lt_2 (List.mem_of_getElem? (i := 98) rfl)) rfl
  | k + 7, hk => absurd hk (by omega)
theorem uw_9 : ∀ w ∈ u_ws RX9 TX9 7, w ∈ GW := fun w hw => by
  obtain ⟨k, hk, rfl⟩ := List.mem_map.mp hw
  exact uk_9 k (List.mem_range.mp hk)
theorem kdk_9 : ∀ k, k < 7 → (kd 9)[k]? = some (decide (tyX9 k = .int)) := by decide +kernel
theorem kdv_9 : ∀ k, k < 7 → defaultValue (tyX9 k) = if tyX9 k = .int then .int 0 else .null := by decide +kernel
set_option maxRecDepth 20000 in
theorem uk_10 : ∀ k, k < 21 → u_lay RX10 TX10 k ∈ GW
  | 0, _ => gw_in (lt_5 (List.mem_of_getElem? (i := 23) rfl)) rfl
  | 1, _ => gw_in (lt_5 (List.mem_of_getElem? (i := 25) rfl)) rfl
  | 2, _ => gw_in (lt_5 (List.mem_of_getElem? (i := 27) rfl)) rfl
  | 3, _ => gw_in (lt_5 (List.mem_of_getElem? (i := 29) rfl)) rfl
  | 4, _ => gw_in (lt_5 (List.mem_of_getElem? (i := 31) rfl)) rfl
  | 5, _ => gw_in (lt_5 (List.mem_of_getElem? (i := 33) rfl)) rfl
  | 6, _ => gw_in (lt_5 (List.mem_of_getElem? (i := 35) rfl)) rfl
  | 7, _ => gw_in (lt_5 (List.mem_of_getElem? (i := 37) rfl)) rfl
  | 8, _ => gw_in (lt_5 (List.mem_of_getElem? (i := 39) rfl)) rfl
  | 9, _ => gw_in (lt_5 (List.mem_of_getElem? (i := 41) rfl)) rfl
  | 10, _ => gw_in (lt_5 (List.mem_of_getElem? (i := 43) rfl)) rfl
  | 11, _ => gw_in (lt_5 (List.mem_of_getElem? (i := 45) rfl)) rfl
  | 12, _ => gw_in (lt_5 (List.mem_of_getElem? (i := 47) rfl)) rfl
  | 13, _ => gw_in (lt_5 (List.mem_of_getElem? (i := 49) rfl)) rfl
  | 14, _ => gw_in (lt_5 (List.mem_of_getElem? (i := 51) rfl)) rfl
  | 15, _ => gw_in (lt_5 (List.mem_of_getElem? (i := 53) rfl)) rfl
  | 16, _ => gw_in (lt_5 (List.mem_of_getElem? (i := 55) rfl)) rfl
  | 17, _ => gw_in (lt_5 (List.mem_of_getElem? (i := 57) rfl)) rfl
  | 18, _ => gw_in (lt_5 (List.mem_of_getElem? (i := 59) rfl)) rfl
  | 19, _ => gw_in (lt_5 (List.mem_of_getElem? (i := 61) rfl)) rfl
  | 20, _ => gw_in (lt_5 (List.mem_of_getElem? (i := 63) rfl)) rfl
  | k + 21, hk => absurd hk (by omega)
theorem uw_10 : ∀ w ∈ u_ws RX10 TX10 21, w ∈ GW := fun w hw => by
  obtain ⟨k, hk, rfl⟩ := List.mem_map.mp hw
  exact uk_10 k (List.mem_range.mp hk)
theorem kdk_10 : ∀ k, k < 21 → (kd 10)[k]? = some (decide (tyX10 k = .int)) := by decide +kernel
theorem kdv_10 : ∀ k, k < 21 → defaultValue (tyX10 k) = if tyX10 k = .int then .int 0 else .null := by decide +kernel
set_option maxRecDepth 20000 in
theorem tw_p0 : Cond.selects RX4 yX4_slot yX4_slot ∈ GW := gw_mem 0 rfl rfl
set_option maxRecDepth 20000 in
theorem tw_p1 : Cond.selects RX9 yX9_settle yX9_settle ∈ GW := gw_mem 1 rfl rfl
set_option maxRecDepth 20000 in
theorem tw_p2 : Cond.selects RX5 yX5_measureSwap yX5_measureSwap ∈ GW := gw_mem 2 rfl rfl
set_option maxRecDepth 20000 in
theorem tw_p3 : Cond.selects RX5 yX5_takeStep yX5_takeStep ∈ GW := gw_mem 3 rfl rfl
set_option maxRecDepth 20000 in
theorem tw_p4 : Cond.selects RX9 yX9_startProcess yX9_startProcess ∈ GW := gw_mem 4 rfl rfl
set_option maxRecDepth 20000 in
theorem tw_p5 : Cond.selects RX9 yX9_wrongCharge yX9_wrongCharge ∈ GW := gw_mem 5 rfl rfl
set_option maxRecDepth 20000 in
theorem tw_p6 : Cond.selects RX3 yX3_makeRoom yX3_makeRoom ∈ GW := gw_mem 6 rfl rfl
set_option maxRecDepth 20000 in
theorem tw_p7 : Cond.selects RX3 yX3_fitsUnderMax yX3_fitsUnderMax ∈ GW := gw_mem 7 rfl rfl
set_option maxRecDepth 20000 in
theorem tw_p8 : Cond.selects RX3 yX3_mayNotJoin yX3_mayNotJoin ∈ GW := gw_mem 8 rfl rfl
set_option maxRecDepth 20000 in
theorem tw_p9 : Cond.selects RX2 yX2_collectAsks yX2_collectAsks ∈ GW := gw_mem 9 rfl rfl
set_option maxRecDepth 20000 in
theorem tw_p10 : Cond.selects RX2 yX2_giveRound yX2_giveRound ∈ GW := gw_mem 10 rfl rfl
set_option maxRecDepth 20000 in
theorem tw_p11 : Cond.selects RX2 yX2_askingWeight yX2_askingWeight ∈ GW := gw_mem 11 rfl rfl
set_option maxRecDepth 20000 in
theorem tw_p12 : Cond.selects RX9 yX9_isBelow yX9_isBelow ∈ GW := gw_mem 12 rfl rfl
set_option maxRecDepth 20000 in
theorem tw_p13 : Cond.selects RX10 yX10_laysGroup yX10_laysGroup ∈ GW := gw_mem 13 rfl rfl
set_option maxRecDepth 20000 in
theorem tw_p14 : Cond.selects RX10 yX10_lays yX10_lays ∈ GW := gw_mem 14 rfl rfl
set_option maxRecDepth 20000 in
theorem tw_p15 : Cond.selects RX10 yX10_isGroup yX10_isGroup ∈ GW := gw_mem 15 rfl rfl
set_option maxRecDepth 20000 in
theorem tw_p16 : Cond.selects RX10 yX10_begins yX10_begins ∈ GW := gw_mem 16 rfl rfl
set_option maxRecDepth 20000 in
theorem tw_p17 : Cond.selects RX10 yX10_ends yX10_ends ∈ GW := gw_mem 17 rfl rfl
set_option maxRecDepth 20000 in
theorem tw_p18 : Cond.selects RX10 yX10_notes yX10_notes ∈ GW := gw_mem 18 rfl rfl
set_option maxRecDepth 20000 in
theorem tw_p19 : Cond.selects RX10 yX10_isInUse yX10_isInUse ∈ GW := gw_mem 19 rfl rfl
set_option maxRecDepth 20000 in
theorem tw_p20 : Cond.selects RX10 yX10_parentOf yX10_parentOf ∈ GW := gw_mem 20 rfl rfl
set_option maxRecDepth 20000 in
theorem tw_p21 : Cond.selects RX10 yX10_of yX10_of ∈ GW := gw_mem 21 rfl rfl
set_option maxRecDepth 20000 in
theorem tw_p22 : Cond.selects RX10 yX10_isProcess yX10_isProcess ∈ GW := gw_mem 22 rfl rfl
set_option maxRecDepth 20000 in
theorem tw_p23 : Cond.selects RX10 yX10_groupOf yX10_groupOf ∈ GW := gw_mem 23 rfl rfl
set_option maxRecDepth 20000 in
theorem tw_p24 : Cond.selects RX10 yX10_ofProcess yX10_ofProcess ∈ GW := gw_mem 24 rfl rfl
set_option maxRecDepth 20000 in
theorem tw_p25 : Cond.selects RX10 yX10_limits yX10_limits ∈ GW := gw_mem 25 rfl rfl
set_option maxRecDepth 20000 in
theorem tw_p26 : Cond.selects RX10 yX10_totalOf yX10_totalOf ∈ GW := gw_mem 26 rfl rfl
set_option maxRecDepth 20000 in
theorem tw_p27 : Cond.selects RX10 yX10_laysTotals yX10_laysTotals ∈ GW := gw_mem 27 rfl rfl
set_option maxRecDepth 20000 in
theorem tw_p28 : Cond.selects RX10 yX10_adds yX10_adds ∈ GW := gw_mem 28 rfl rfl
set_option maxRecDepth 20000 in
theorem tw_p29 : Cond.selects RX10 yX10_pagesOf yX10_pagesOf ∈ GW := gw_mem 29 rfl rfl
set_option maxRecDepth 20000 in
theorem tw_p30 : Cond.selects RX10 yX10_takes yX10_takes ∈ GW := gw_mem 30 rfl rfl
set_option maxRecDepth 20000 in
theorem tw_p31 : Cond.selects RX10 yX10_drains yX10_drains ∈ GW := gw_mem 31 rfl rfl
set_option maxRecDepth 20000 in
theorem tw_p32 : Cond.selects RX10 yX10_isBelow yX10_isBelow ∈ GW := gw_mem 32 rfl rfl
set_option maxRecDepth 20000 in
theorem tw_p33 : Cond.selects RX10 yX10_takesOf yX10_takesOf ∈ GW := gw_mem 33 rfl rfl
set_option maxRecDepth 20000 in
theorem tw_p34 : Cond.selects RX10 yX10_nextOf yX10_nextOf ∈ GW := gw_mem 34 rfl rfl
set_option maxRecDepth 20000 in
theorem tw_p35 : Cond.selects RX10 yX10_laysShares yX10_laysShares ∈ GW := gw_mem 35 rfl rfl
set_option maxRecDepth 20000 in
theorem tw_p36 : Cond.selects RX10 yX10_sharedOut yX10_sharedOut ∈ GW := gw_mem 36 rfl rfl
set_option maxRecDepth 20000 in
theorem tw_p37 : Cond.selects RX10 yX10_spareOf yX10_spareOf ∈ GW := gw_mem 37 rfl rfl
set_option maxRecDepth 20000 in
theorem tw_p38 : Cond.selects RX10 yX10_mostIn yX10_mostIn ∈ GW := gw_mem 38 rfl rfl
set_option maxRecDepth 20000 in
theorem tw_p39 : Cond.selects RX10 yX10_deathBelow yX10_deathBelow ∈ GW := gw_mem 39 rfl rfl
set_option maxRecDepth 20000 in
theorem tw_p40 : Cond.selects RX10 yX10_dyingBelow yX10_dyingBelow ∈ GW := gw_mem 40 rfl rfl
set_option maxRecDepth 20000 in
theorem tw_p41 : Cond.selects RX10 yX10_victimBelow yX10_victimBelow ∈ GW := gw_mem 41 rfl rfl
set_option maxRecDepth 20000 in
theorem tw_p42 : Cond.selects RX10 yX10_badnessOf yX10_badnessOf ∈ GW := gw_mem 42 rfl rfl
set_option maxRecDepth 20000 in
theorem tw_p43 : Cond.selects RX10 yX10_processesBelow yX10_processesBelow ∈ GW := gw_mem 43 rfl rfl
set_option maxRecDepth 20000 in
theorem tw_p44 : Cond.selects RX10 yX10_dies yX10_dies ∈ GW := gw_mem 44 rfl rfl
set_option maxRecDepth 20000 in
theorem tw_p45 : Cond.selects RX10 yX10_laysProcess yX10_laysProcess ∈ GW := gw_mem 45 rfl rfl
set_option maxRecDepth 20000 in
theorem tw_p46 : Cond.selects RX10 yX10_comes yX10_comes ∈ GW := gw_mem 46 rfl rfl
set_option maxRecDepth 20000 in
theorem tw_p47 : Cond.selects RX10 yX10_isFull yX10_isFull ∈ GW := gw_mem 47 rfl rfl
set_option maxRecDepth 20000 in
theorem tw_p48 : Cond.selects RX10 yX10_refusedBy yX10_refusedBy ∈ GW := gw_mem 48 rfl rfl
set_option maxRecDepth 20000 in
theorem tw_p49 : Cond.selects RX10 yX10_charges yX10_charges ∈ GW := gw_mem 49 rfl rfl
set_option maxRecDepth 20000 in
theorem tw_p50 : Cond.selects RX10 yX10_areWithin yX10_areWithin ∈ GW := gw_mem 50 rfl rfl
set_option maxRecDepth 20000 in
theorem tw_p51 : Cond.selects RX10 yX10_makesRoom yX10_makesRoom ∈ GW := gw_mem 51 rfl rfl
set_option maxRecDepth 20000 in
theorem tw_p52 : Cond.selects RX10 yX10_firstAbove yX10_firstAbove ∈ GW := gw_mem 52 rfl rfl
set_option maxRecDepth 20000 in
theorem tw_p53 : Cond.selects RX10 yX10_meetsHigh yX10_meetsHigh ∈ GW := gw_mem 53 rfl rfl
set_option maxRecDepth 20000 in
theorem tw_p54 : Cond.selects RX10 yX10_stallsMore yX10_stallsMore ∈ GW := gw_mem 54 rfl rfl
set_option maxRecDepth 20000 in
theorem tw_p55 : Cond.selects RX10 yX10_givesBack yX10_givesBack ∈ GW := gw_mem 55 rfl rfl
set_option maxRecDepth 20000 in
theorem tw_p56 : Cond.selects RX10 yX10_hasRoomFor yX10_hasRoomFor ∈ GW := gw_mem 56 rfl rfl
set_option maxRecDepth 20000 in
theorem tw_p57 : Cond.selects RX10 yX10_outOf yX10_outOf ∈ GW := gw_mem 57 rfl rfl
set_option maxRecDepth 20000 in
theorem tw_p58 : Cond.selects RX10 yX10_ticks yX10_ticks ∈ GW := gw_mem 58 rfl rfl
set_option maxRecDepth 20000 in
theorem tw_p59 : Cond.selects RX10 yX10_works yX10_works ∈ GW := gw_mem 59 rfl rfl
set_option maxRecDepth 20000 in
theorem tw_p60 : Cond.selects RX10 yX10_laysUnits yX10_laysUnits ∈ GW := gw_mem 60 rfl rfl
set_option maxRecDepth 20000 in
theorem tw_p61 : Cond.selects RX10 yX10_laysAsks yX10_laysAsks ∈ GW := gw_mem 61 rfl rfl
set_option maxRecDepth 20000 in
theorem tw_p62 : Cond.selects RX10 yX10_parts yX10_parts ∈ GW := gw_mem 62 rfl rfl
set_option maxRecDepth 20000 in
theorem tw_p63 : Cond.selects RX10 yX10_round yX10_round ∈ GW := gw_mem 63 rfl rfl
set_option maxRecDepth 20000 in
theorem tw_p64 : Cond.selects RX10 yX10_isOf yX10_isOf ∈ GW := gw_mem 64 rfl rfl
set_option maxRecDepth 20000 in
theorem tw_p65 : Cond.selects RX10 yX10_weightOf yX10_weightOf ∈ GW := gw_mem 65 rfl rfl
set_option maxRecDepth 20000 in
theorem tw_p66 : Cond.selects RX10 yX10_isOver yX10_isOver ∈ GW := gw_mem 66 rfl rfl
set_option maxRecDepth 20000 in
theorem tw_p67 : Cond.selects RX10 yX10_pressureOf yX10_pressureOf ∈ GW := gw_mem 67 rfl rfl
set_option maxRecDepth 20000 in
theorem tw_p68 : Cond.selects RX10 yX10_latestOf yX10_latestOf ∈ GW := gw_mem 68 rfl rfl
set_option maxRecDepth 20000 in
theorem tw_p69 : Cond.selects RX10 yX10_isStalled yX10_isStalled ∈ GW := gw_mem 69 rfl rfl
set_option maxRecDepth 20000 in
theorem tw_p70 : Cond.selects RX10 yX10_laysLatest yX10_laysLatest ∈ GW := gw_mem 70 rfl rfl
set_option maxRecDepth 20000 in
theorem tw_p71 : Cond.selects RX10 yX10_averages yX10_averages ∈ GW := gw_mem 71 rfl rfl
set_option maxRecDepth 20000 in
theorem tw_p72 : Cond.selects RX10 yX10_ownOf yX10_ownOf ∈ GW := gw_mem 72 rfl rfl
set_option maxRecDepth 20000 in
theorem tw_p73 : Cond.selects RX10 yX10_pagesIn yX10_pagesIn ∈ GW := gw_mem 73 rfl rfl
set_option maxRecDepth 20000 in
theorem tw_p74 : Cond.selects RX10 yX10_isPair yX10_isPair ∈ GW := gw_mem 74 rfl rfl
set_option maxRecDepth 20000 in
theorem tw_p75 : Cond.selects RX10 yX10_groupsBelow yX10_groupsBelow ∈ GW := gw_mem 75 rfl rfl
set_option maxRecDepth 20000 in
theorem tw_p76 : Cond.selects RX10 yX10_opensPaper yX10_opensPaper ∈ GW := gw_mem 76 rfl rfl
set_option maxRecDepth 20000 in
theorem tw_p77 : Cond.selects RX10 yX10_closesPaper yX10_closesPaper ∈ GW := gw_mem 77 rfl rfl
set_option maxRecDepth 20000 in
theorem tw_p78 : Cond.selects RX10 yX10_isIdle yX10_isIdle ∈ GW := gw_mem 78 rfl rfl
set_option maxRecDepth 20000 in
theorem tw_p79 : Cond.selects RX10 yX10_deathsBy yX10_deathsBy ∈ GW := gw_mem 79 rfl rfl
set_option maxRecDepth 20000 in
theorem tw_p80 : Cond.selects RX10 yX10_leastRoom yX10_leastRoom ∈ GW := gw_mem 80 rfl rfl
set_option maxRecDepth 20000 in
theorem tw_p81 : Cond.selects RX10 yX10_roomBehind yX10_roomBehind ∈ GW := gw_mem 81 rfl rfl
set_option maxRecDepth 20000 in
theorem tw_p82 : Cond.selects RX10 yX10_wouldTell yX10_wouldTell ∈ GW := gw_mem 82 rfl rfl
set_option maxRecDepth 20000 in
theorem tw_p83 : Cond.selects RX10 yX10_allOf yX10_allOf ∈ GW := gw_mem 83 rfl rfl
set_option maxRecDepth 20000 in
theorem tw_1 : Cond.initialized RX9 ∈ GW := gw_in (lt_1 (List.mem_of_getElem? (i := 1) rfl)) rfl
set_option maxRecDepth 20000 in
theorem tw_2 : Cond.initialized RX8 ∈ GW := gw_in (lt_1 (List.mem_of_getElem? (i := 2) rfl)) rfl
set_option maxRecDepth 20000 in
theorem tw_3 : Cond.initialized RX6 ∈ GW := gw_in (lt_1 (List.mem_of_getElem? (i := 3) rfl)) rfl
set_option maxRecDepth 20000 in
theorem tw_4 : Cond.initialized RJ7 ∈ GW := gw_in (lt_1 (List.mem_of_getElem? (i := 4) rfl)) rfl
set_option maxRecDepth 20000 in
theorem tw_5 : Cond.initialized RX0 ∈ GW := gw_in (lt_1 (List.mem_of_getElem? (i := 5) rfl)) rfl
set_option maxRecDepth 20000 in
theorem tw_6 : Cond.initialized RX1 ∈ GW := gw_in (lt_1 (List.mem_of_getElem? (i := 6) rfl)) rfl
set_option maxRecDepth 20000 in
theorem tw_7 : Cond.initialized RX7 ∈ GW := gw_in (lt_1 (List.mem_of_getElem? (i := 7) rfl)) rfl
set_option maxRecDepth 20000 in
theorem tw_8 : Cond.initialized RX4 ∈ GW := gw_in (lt_1 (List.mem_of_getElem? (i := 8) rfl)) rfl
set_option maxRecDepth 20000 in
theorem tw_9 : Cond.initialized RX5 ∈ GW := gw_in (lt_1 (List.mem_of_getElem? (i := 9) rfl)) rfl
set_option maxRecDepth 20000 in
theorem tw_10 : Cond.initialized RX3 ∈ GW := gw_in (lt_1 (List.mem_of_getElem? (i := 10) rfl)) rfl
set_option maxRecDepth 20000 in
theorem tw_11 : Cond.initialized RX2 ∈ GW := gw_in (lt_1 (List.mem_of_getElem? (i := 11) rfl)) rfl
set_option maxRecDepth 20000 in
theorem tw_12 : Cond.initialized RX10 ∈ GW := gw_in (lt_1 (List.mem_of_getElem? (i := 12) rfl)) rfl
set_option maxRecDepth 20000 in
theorem tw_13 : Cond.initialized "java/lang/System" ∈ GW := gw_in (lt_1 (List.mem_of_getElem? (i := 13) rfl)) rfl
set_option maxRecDepth 20000 in
theorem tw_14 : Cond.initialized "java/lang/Math" ∈ GW := gw_in (lt_1 (List.mem_of_getElem? (i := 14) rfl)) rfl
set_option maxRecDepth 20000 in
theorem tw_15 : Cond.initialized RJ6 ∈ GW := gw_in (lt_1 (List.mem_of_getElem? (i := 15) rfl)) rfl
set_option maxRecDepth 20000 in
theorem tw_16 : Cond.initialized RJ13 ∈ GW := gw_in (lt_1 (List.mem_of_getElem? (i := 16) rfl)) rfl
set_option maxRecDepth 20000 in
theorem tw_17 : Cond.classLink RL 7 RX9 ∈ GW := gw_in (lt_1 (List.mem_of_getElem? (i := 17) rfl)) rfl
set_option maxRecDepth 20000 in
theorem tw_18 : Cond.instantiable RX9 7 ∈ GW := gw_in (lt_1 (List.mem_of_getElem? (i := 18) rfl)) rfl
set_option maxRecDepth 20000 in
theorem tw_19 : Cond.methodLink RL 9 yX9_init ∈ GW := gw_in (lt_1 (List.mem_of_getElem? (i := 19) rfl)) rfl
set_option maxRecDepth 20000 in
theorem tw_20 : Cond.instanceMethod yX9_init ∈ GW := gw_in (lt_1 (List.mem_of_getElem? (i := 20) rfl)) rfl
set_option maxRecDepth 20000 in
theorem tw_21 : Cond.code yX9_init cX9_init 1 none ∈ GW := gw_in (lt_1 (List.mem_of_getElem? (i := 21) rfl)) rfl
set_option maxRecDepth 20000 in
theorem tw_22 : Cond.methodLink RX9 1 Lib.objectInit ∈ GW := gw_in (lt_1 (List.mem_of_getElem? (i := 22) rfl)) rfl
set_option maxRecDepth 20000 in
theorem tw_23 : Cond.instanceMethod Lib.objectInit ∈ GW := gw_in (lt_1 (List.mem_of_getElem? (i := 23) rfl)) rfl
set_option maxRecDepth 20000 in
theorem tw_24 : Cond.code Lib.objectInit ⟨#[0xb1]⟩ 1 none ∈ GW := gw_in (lt_1 (List.mem_of_getElem? (i := 24) rfl)) rfl
set_option maxRecDepth 20000 in
theorem tw_25 : Cond.classLink RX9 7 RX8 ∈ GW := gw_in (lt_1 (List.mem_of_getElem? (i := 25) rfl)) rfl
set_option maxRecDepth 20000 in
theorem tw_26 : Cond.instantiable RX8 8 ∈ GW := gw_in (lt_1 (List.mem_of_getElem? (i := 26) rfl)) rfl
set_option maxRecDepth 20000 in
theorem tw_28 : Cond.instanceMethod yX8_init ∈ GW := gw_in (lt_1 (List.mem_of_getElem? (i := 28) rfl)) rfl
set_option maxRecDepth 20000 in
theorem tw_29 : Cond.code yX8_init cX8_init 1 none ∈ GW := gw_in (lt_1 (List.mem_of_getElem? (i := 29) rfl)) rfl
set_option maxRecDepth 20000 in
theorem tw_30 : Cond.methodLink RX8 3 Lib.objectInit ∈ GW := gw_in (lt_1 (List.mem_of_getElem? (i := 30) rfl)) rfl
set_option maxRecDepth 20000 in
theorem tw_31 : Cond.classLink RX8 9 RX6 ∈ GW := gw_in (lt_1 (List.mem_of_getElem? (i := 31) rfl)) rfl
set_option maxRecDepth 20000 in
theorem tw_32 : Cond.instantiable RX6 9 ∈ GW := gw_in (lt_1 (List.mem_of_getElem? (i := 32) rfl)) rfl
set_option maxRecDepth 20000 in
theorem tw_33 : Cond.methodLink RX8 11 yX6_init ∈ GW := gw_in (lt_1 (List.mem_of_getElem? (i := 33) rfl)) rfl
set_option maxRecDepth 20000 in
theorem tw_34 : Cond.instanceMethod yX6_init ∈ GW := gw_in (lt_1 (List.mem_of_getElem? (i := 34) rfl)) rfl
set_option maxRecDepth 20000 in
theorem tw_35 : Cond.code yX6_init cX6_init 1 none ∈ GW := gw_in (lt_1 (List.mem_of_getElem? (i := 35) rfl)) rfl
set_option maxRecDepth 20000 in
theorem tw_36 : Cond.methodLink RX6 3 Lib.objectInit ∈ GW := gw_in (lt_1 (List.mem_of_getElem? (i := 36) rfl)) rfl
set_option maxRecDepth 20000 in
theorem tw_37 : Cond.classLink RX6 18 ("[" ++ (FieldType.array .int).toString) ∈ GW := gw_in (lt_1 (List.mem_of_getElem? (i := 37) rfl)) rfl
set_option maxRecDepth 20000 in
theorem tw_39 : Cond.methodLink RX6 38 yJ7_fill_53178 ∈ GW := gw_in (lt_1 (List.mem_of_getElem? (i := 39) rfl)) rfl
set_option maxRecDepth 20000 in
theorem tw_40 : Cond.static yJ7_fill_53178 ∈ GW := gw_in (lt_1 (List.mem_of_getElem? (i := 40) rfl)) rfl
set_option maxRecDepth 20000 in
theorem tw_41 : Cond.code yJ7_fill_53178 cJ7_fill_53178 4 none ∈ GW := gw_in (lt_1 (List.mem_of_getElem? (i := 41) rfl)) rfl
set_option maxRecDepth 20000 in
theorem tw_42 : Cond.methodLink RX6 44 yX6_putGroup ∈ GW := gw_in (lt_1 (List.mem_of_getElem? (i := 42) rfl)) rfl
set_option maxRecDepth 20000 in
theorem tw_43 : Cond.instanceMethod yX6_putGroup ∈ GW := gw_in (lt_1 (List.mem_of_getElem? (i := 43) rfl)) rfl
set_option maxRecDepth 20000 in
theorem tw_44 : Cond.selects RX6 yX6_putGroup yX6_putGroup ∈ GW := gw_in (lt_1 (List.mem_of_getElem? (i := 44) rfl)) rfl
set_option maxRecDepth 20000 in
theorem tw_45 : Cond.code yX6_putGroup cX6_putGroup 4 none ∈ GW := gw_in (lt_1 (List.mem_of_getElem? (i := 45) rfl)) rfl
set_option maxRecDepth 20000 in
theorem tw_48 : Cond.fieldLink RX6 9 "GroupLimits$Tree" "parent" "[I" ∈ GW := gw_in (lt_1 (List.mem_of_getElem? (i := 48) rfl)) rfl
set_option maxRecDepth 20000 in
theorem tw_49 : Cond.fieldLink RX5 68 "GroupLimits$Tree" "parent" "[I" ∈ GW := gw_in (lt_1 (List.mem_of_getElem? (i := 49) rfl)) rfl
set_option maxRecDepth 20000 in
theorem tw_50 : Cond.fieldLink RX9 95 "GroupLimits$Tree" "parent" "[I" ∈ GW := gw_in (lt_1 (List.mem_of_getElem? (i := 50) rfl)) rfl
set_option maxRecDepth 20000 in
theorem tw_51 : Cond.fieldLink RX8 85 "GroupLimits$Tree" "parent" "[I" ∈ GW := gw_in (lt_1 (List.mem_of_getElem? (i := 51) rfl)) rfl
set_option maxRecDepth 20000 in
theorem tw_52 : Cond.fieldLink RX2 87 "GroupLimits$Tree" "parent" "[I" ∈ GW := gw_in (lt_1 (List.mem_of_getElem? (i := 52) rfl)) rfl
set_option maxRecDepth 20000 in
theorem tw_53 : Cond.fieldLink RX3 94 "GroupLimits$Tree" "parent" "[I" ∈ GW := gw_in (lt_1 (List.mem_of_getElem? (i := 53) rfl)) rfl
set_option maxRecDepth 20000 in
theorem tw_54 : Cond.fieldLink RX6 15 "GroupLimits$Tree" "order" "[I" ∈ GW := gw_in (lt_1 (List.mem_of_getElem? (i := 54) rfl)) rfl
set_option maxRecDepth 20000 in
theorem tw_55 : Cond.fieldLink RX2 49 "GroupLimits$Tree" "order" "[I" ∈ GW := gw_in (lt_1 (List.mem_of_getElem? (i := 55) rfl)) rfl
set_option maxRecDepth 20000 in
theorem tw_56 : Cond.fieldLink RX5 56 "GroupLimits$Tree" "order" "[I" ∈ GW := gw_in (lt_1 (List.mem_of_getElem? (i := 56) rfl)) rfl
set_option maxRecDepth 20000 in
theorem tw_57 : Cond.fieldLink RX8 151 "GroupLimits$Tree" "order" "[I" ∈ GW := gw_in (lt_1 (List.mem_of_getElem? (i := 57) rfl)) rfl
set_option maxRecDepth 20000 in
theorem tw_58 : Cond.fieldLink RX6 54 "GroupLimits$Tree" "size" "I" ∈ GW := gw_in (lt_1 (List.mem_of_getElem? (i := 58) rfl)) rfl
set_option maxRecDepth 20000 in
theorem tw_59 : Cond.fieldLink RX2 44 "GroupLimits$Tree" "size" "I" ∈ GW := gw_in (lt_1 (List.mem_of_getElem? (i := 59) rfl)) rfl
set_option maxRecDepth 20000 in
theorem tw_60 : Cond.fieldLink RX5 52 "GroupLimits$Tree" "size" "I" ∈ GW := gw_in (lt_1 (List.mem_of_getElem? (i := 60) rfl)) rfl
set_option maxRecDepth 20000 in
theorem tw_61 : Cond.fieldLink RX8 148 "GroupLimits$Tree" "size" "I" ∈ GW := gw_in (lt_1 (List.mem_of_getElem? (i := 61) rfl)) rfl
set_option maxRecDepth 20000 in
theorem tw_62 : Cond.fieldLink RX6 20 "GroupLimits$Tree" "limits" "[[I" ∈ GW := gw_in (lt_1 (List.mem_of_getElem? (i := 62) rfl)) rfl
set_option maxRecDepth 20000 in
theorem tw_63 : Cond.fieldLink RX5 36 "GroupLimits$Tree" "limits" "[[I" ∈ GW := gw_in (lt_1 (List.mem_of_getElem? (i := 63) rfl)) rfl
set_option maxRecDepth 20000 in
theorem tw_64 : Cond.fieldLink RX3 73 "GroupLimits$Tree" "limits" "[[I" ∈ GW := gw_in (lt_1 (List.mem_of_getElem? (i := 64) rfl)) rfl
set_option maxRecDepth 20000 in
theorem tw_65 : Cond.fieldLink RX8 81 "GroupLimits$Tree" "limits" "[[I" ∈ GW := gw_in (lt_1 (List.mem_of_getElem? (i := 65) rfl)) rfl
set_option maxRecDepth 20000 in
theorem tw_66 : Cond.fieldLink RX2 90 "GroupLimits$Tree" "limits" "[[I" ∈ GW := gw_in (lt_1 (List.mem_of_getElem? (i := 66) rfl)) rfl
set_option maxRecDepth 20000 in
theorem tw_67 : Cond.fieldLink RX9 230 "GroupLimits$Tree" "limits" "[[I" ∈ GW := gw_in (lt_1 (List.mem_of_getElem? (i := 67) rfl)) rfl
set_option maxRecDepth 20000 in
theorem tw_68 : Cond.fieldLink RX6 23 "GroupLimits$Tree" "stock" "[I" ∈ GW := gw_in (lt_1 (List.mem_of_getElem? (i := 68) rfl)) rfl
set_option maxRecDepth 20000 in
theorem tw_69 : Cond.fieldLink RX3 31 "GroupLimits$Tree" "stock" "[I" ∈ GW := gw_in (lt_1 (List.mem_of_getElem? (i := 69) rfl)) rfl
set_option maxRecDepth 20000 in
theorem tw_70 : Cond.fieldLink RX8 108 "GroupLimits$Tree" "stock" "[I" ∈ GW := gw_in (lt_1 (List.mem_of_getElem? (i := 70) rfl)) rfl
set_option maxRecDepth 20000 in
theorem tw_71 : Cond.fieldLink RX9 236 "GroupLimits$Tree" "stock" "[I" ∈ GW := gw_in (lt_1 (List.mem_of_getElem? (i := 71) rfl)) rfl
set_option maxRecDepth 20000 in
theorem tw_72 : Cond.fieldLink RX6 26 "GroupLimits$Tree" "total" "[I" ∈ GW := gw_in (lt_1 (List.mem_of_getElem? (i := 72) rfl)) rfl
set_option maxRecDepth 20000 in
theorem tw_73 : Cond.fieldLink RX5 59 "GroupLimits$Tree" "total" "[I" ∈ GW := gw_in (lt_1 (List.mem_of_getElem? (i := 73) rfl)) rfl
set_option maxRecDepth 20000 in
theorem tw_74 : Cond.fieldLink RX3 80 "GroupLimits$Tree" "total" "[I" ∈ GW := gw_in (lt_1 (List.mem_of_getElem? (i := 74) rfl)) rfl
set_option maxRecDepth 20000 in
theorem tw_75 : Cond.fieldLink RX9 239 "GroupLimits$Tree" "total" "[I" ∈ GW := gw_in (lt_1 (List.mem_of_getElem? (i := 75) rfl)) rfl
set_option maxRecDepth 20000 in
theorem tw_76 : Cond.fieldLink RX6 29 "GroupLimits$Tree" "out" "[I" ∈ GW := gw_in (lt_1 (List.mem_of_getElem? (i := 76) rfl)) rfl
set_option maxRecDepth 20000 in
theorem tw_77 : Cond.fieldLink RX5 92 "GroupLimits$Tree" "out" "[I" ∈ GW := gw_in (lt_1 (List.mem_of_getElem? (i := 77) rfl)) rfl
set_option maxRecDepth 20000 in
theorem tw_78 : Cond.fieldLink RX3 117 "GroupLimits$Tree" "out" "[I" ∈ GW := gw_in (lt_1 (List.mem_of_getElem? (i := 78) rfl)) rfl
set_option maxRecDepth 20000 in
theorem tw_79 : Cond.fieldLink RX9 203 "GroupLimits$Tree" "out" "[I" ∈ GW := gw_in (lt_1 (List.mem_of_getElem? (i := 79) rfl)) rfl
set_option maxRecDepth 20000 in
theorem tw_80 : Cond.fieldLink RX6 32 "GroupLimits$Tree" "got" "[I" ∈ GW := gw_in (lt_1 (List.mem_of_getElem? (i := 80) rfl)) rfl
set_option maxRecDepth 20000 in
theorem tw_81 : Cond.fieldLink RX2 59 "GroupLimits$Tree" "got" "[I" ∈ GW := gw_in (lt_1 (List.mem_of_getElem? (i := 81) rfl)) rfl
set_option maxRecDepth 20000 in
theorem tw_82 : Cond.fieldLink RX9 245 "GroupLimits$Tree" "got" "[I" ∈ GW := gw_in (lt_1 (List.mem_of_getElem? (i := 82) rfl)) rfl
set_option maxRecDepth 20000 in
theorem tw_83 : Cond.fieldLink RX6 35 "GroupLimits$Tree" "events" "[[I" ∈ GW := gw_in (lt_1 (List.mem_of_getElem? (i := 83) rfl)) rfl
set_option maxRecDepth 20000 in
theorem tw_84 : Cond.fieldLink RX3 77 "GroupLimits$Tree" "events" "[[I" ∈ GW := gw_in (lt_1 (List.mem_of_getElem? (i := 84) rfl)) rfl
set_option maxRecDepth 20000 in
theorem tw_85 : Cond.fieldLink RX5 113 "GroupLimits$Tree" "events" "[[I" ∈ GW := gw_in (lt_1 (List.mem_of_getElem? (i := 85) rfl)) rfl
set_option maxRecDepth 20000 in
theorem tw_86 : Cond.fieldLink RX8 136 "GroupLimits$Tree" "events" "[[I" ∈ GW := gw_in (lt_1 (List.mem_of_getElem? (i := 86) rfl)) rfl
set_option maxRecDepth 20000 in
theorem tw_87 : Cond.fieldLink RX9 302 "GroupLimits$Tree" "events" "[[I" ∈ GW := gw_in (lt_1 (List.mem_of_getElem? (i := 87) rfl)) rfl
set_option maxRecDepth 20000 in
theorem tw_107 : Cond.arrayClass .int ∈ GW := gw_in (lt_1 (List.mem_of_getElem? (i := 107) rfl)) rfl
set_option maxRecDepth 20000 in
theorem tw_108 : Cond.classLink RX8 18 RX0 ∈ GW := gw_in (lt_1 (List.mem_of_getElem? (i := 108) rfl)) rfl
set_option maxRecDepth 20000 in
theorem tw_109 : Cond.instantiable RX0 7 ∈ GW := gw_in (lt_1 (List.mem_of_getElem? (i := 109) rfl)) rfl
set_option maxRecDepth 20000 in
theorem tw_110 : Cond.methodLink RX8 20 yX0_init ∈ GW := gw_in (lt_1 (List.mem_of_getElem? (i := 110) rfl)) rfl
set_option maxRecDepth 20000 in
theorem tw_111 : Cond.instanceMethod yX0_init ∈ GW := gw_in (lt_1 (List.mem_of_getElem? (i := 111) rfl)) rfl
set_option maxRecDepth 20000 in
theorem tw_112 : Cond.code yX0_init cX0_init 1 none ∈ GW := gw_in (lt_1 (List.mem_of_getElem? (i := 112) rfl)) rfl
set_option maxRecDepth 20000 in
theorem tw_113 : Cond.methodLink RX0 3 Lib.objectInit ∈ GW := gw_in (lt_1 (List.mem_of_getElem? (i := 113) rfl)) rfl
set_option maxRecDepth 20000 in
theorem tw_114 : Cond.classLink RX0 18 ("[" ++ (FieldType.array .int).toString) ∈ GW := gw_in (lt_1 (List.mem_of_getElem? (i := 114) rfl)) rfl
set_option maxRecDepth 20000 in
theorem tw_115 : Cond.methodLink RX0 35 yJ7_fill_53178 ∈ GW := gw_in (lt_1 (List.mem_of_getElem? (i := 115) rfl)) rfl
set_option maxRecDepth 20000 in
theorem tw_116 : Cond.fieldLink RX0 9 "GroupLimits$Crowd" "home" "[I" ∈ GW := gw_in (lt_1 (List.mem_of_getElem? (i := 116) rfl)) rfl
set_option maxRecDepth 20000 in
theorem tw_117 : Cond.fieldLink RX3 21 "GroupLimits$Crowd" "home" "[I" ∈ GW := gw_in (lt_1 (List.mem_of_getElem? (i := 117) rfl)) rfl
set_option maxRecDepth 20000 in
theorem tw_118 : Cond.fieldLink RX8 69 "GroupLimits$Crowd" "home" "[I" ∈ GW := gw_in (lt_1 (List.mem_of_getElem? (i := 118) rfl)) rfl
set_option maxRecDepth 20000 in
theorem tw_119 : Cond.fieldLink RX2 77 "GroupLimits$Crowd" "home" "[I" ∈ GW := gw_in (lt_1 (List.mem_of_getElem? (i := 119) rfl)) rfl
set_option maxRecDepth 20000 in
theorem tw_120 : Cond.fieldLink RX9 136 "GroupLimits$Crowd" "home" "[I" ∈ GW := gw_in (lt_1 (List.mem_of_getElem? (i := 120) rfl)) rfl
set_option maxRecDepth 20000 in
theorem tw_121 : Cond.fieldLink RX0 15 "GroupLimits$Crowd" "adj" "[I" ∈ GW := gw_in (lt_1 (List.mem_of_getElem? (i := 121) rfl)) rfl
set_option maxRecDepth 20000 in
theorem tw_122 : Cond.fieldLink RX9 139 "GroupLimits$Crowd" "adj" "[I" ∈ GW := gw_in (lt_1 (List.mem_of_getElem? (i := 122) rfl)) rfl
set_option maxRecDepth 20000 in
theorem tw_123 : Cond.fieldLink RX8 117 "GroupLimits$Crowd" "adj" "[I" ∈ GW := gw_in (lt_1 (List.mem_of_getElem? (i := 123) rfl)) rfl
set_option maxRecDepth 20000 in
theorem tw_124 : Cond.fieldLink RX0 20 "GroupLimits$Crowd" "pages" "[[I" ∈ GW := gw_in (lt_1 (List.mem_of_getElem? (i := 124) rfl)) rfl
set_option maxRecDepth 20000 in
theorem tw_125 : Cond.fieldLink RX8 88 "GroupLimits$Crowd" "pages" "[[I" ∈ GW := gw_in (lt_1 (List.mem_of_getElem? (i := 125) rfl)) rfl
set_option maxRecDepth 20000 in
theorem tw_126 : Cond.fieldLink RX5 119 "GroupLimits$Crowd" "pages" "[[I" ∈ GW := gw_in (lt_1 (List.mem_of_getElem? (i := 126) rfl)) rfl
set_option maxRecDepth 20000 in
theorem tw_127 : Cond.fieldLink RX9 153 "GroupLimits$Crowd" "pages" "[[I" ∈ GW := gw_in (lt_1 (List.mem_of_getElem? (i := 127) rfl)) rfl
set_option maxRecDepth 20000 in
theorem tw_128 : Cond.fieldLink RX0 23 "GroupLimits$Crowd" "swapped" "[I" ∈ GW := gw_in (lt_1 (List.mem_of_getElem? (i := 128) rfl)) rfl
set_option maxRecDepth 20000 in
theorem tw_129 : Cond.fieldLink RX8 95 "GroupLimits$Crowd" "swapped" "[I" ∈ GW := gw_in (lt_1 (List.mem_of_getElem? (i := 129) rfl)) rfl
set_option maxRecDepth 20000 in
theorem tw_130 : Cond.fieldLink RX3 114 "GroupLimits$Crowd" "swapped" "[I" ∈ GW := gw_in (lt_1 (List.mem_of_getElem? (i := 130) rfl)) rfl
set_option maxRecDepth 20000 in
theorem tw_131 : Cond.fieldLink RX9 161 "GroupLimits$Crowd" "swapped" "[I" ∈ GW := gw_in (lt_1 (List.mem_of_getElem? (i := 131) rfl)) rfl
set_option maxRecDepth 20000 in
theorem tw_132 : Cond.fieldLink RX0 26 "GroupLimits$Crowd" "stall" "[I" ∈ GW := gw_in (lt_1 (List.mem_of_getElem? (i := 132) rfl)) rfl
set_option maxRecDepth 20000 in
theorem tw_133 : Cond.fieldLink RX2 80 "GroupLimits$Crowd" "stall" "[I" ∈ GW := gw_in (lt_1 (List.mem_of_getElem? (i := 133) rfl)) rfl
set_option maxRecDepth 20000 in
theorem tw_134 : Cond.fieldLink RX8 142 "GroupLimits$Crowd" "stall" "[I" ∈ GW := gw_in (lt_1 (List.mem_of_getElem? (i := 134) rfl)) rfl
set_option maxRecDepth 20000 in
theorem tw_135 : Cond.fieldLink RX9 248 "GroupLimits$Crowd" "stall" "[I" ∈ GW := gw_in (lt_1 (List.mem_of_getElem? (i := 135) rfl)) rfl
set_option maxRecDepth 20000 in
theorem tw_136 : Cond.fieldLink RX0 29 "GroupLimits$Crowd" "todo" "[I" ∈ GW := gw_in (lt_1 (List.mem_of_getElem? (i := 136) rfl)) rfl
set_option maxRecDepth 20000 in
theorem tw_137 : Cond.fieldLink RX2 69 "GroupLimits$Crowd" "todo" "[I" ∈ GW := gw_in (lt_1 (List.mem_of_getElem? (i := 137) rfl)) rfl
set_option maxRecDepth 20000 in
theorem tw_138 : Cond.fieldLink RX9 176 "GroupLimits$Crowd" "todo" "[I" ∈ GW := gw_in (lt_1 (List.mem_of_getElem? (i := 138) rfl)) rfl
set_option maxRecDepth 20000 in
theorem tw_139 : Cond.fieldLink RX8 145 "GroupLimits$Crowd" "todo" "[I" ∈ GW := gw_in (lt_1 (List.mem_of_getElem? (i := 139) rfl)) rfl
set_option maxRecDepth 20000 in
theorem tw_140 : Cond.fieldLink RX0 32 "GroupLimits$Crowd" "done" "[I" ∈ GW := gw_in (lt_1 (List.mem_of_getElem? (i := 140) rfl)) rfl
set_option maxRecDepth 20000 in
theorem tw_141 : Cond.fieldLink RX2 74 "GroupLimits$Crowd" "done" "[I" ∈ GW := gw_in (lt_1 (List.mem_of_getElem? (i := 141) rfl)) rfl
set_option maxRecDepth 20000 in
theorem tw_142 : Cond.fieldLink RX9 254 "GroupLimits$Crowd" "done" "[I" ∈ GW := gw_in (lt_1 (List.mem_of_getElem? (i := 142) rfl)) rfl
set_option maxRecDepth 20000 in
theorem tw_158 : Cond.classLink RX8 25 RX1 ∈ GW := gw_in (lt_1 (List.mem_of_getElem? (i := 158) rfl)) rfl
set_option maxRecDepth 20000 in
theorem tw_159 : Cond.instantiable RX1 3 ∈ GW := gw_in (lt_1 (List.mem_of_getElem? (i := 159) rfl)) rfl
set_option maxRecDepth 20000 in
theorem tw_161 : Cond.instanceMethod yX1_init ∈ GW := gw_in (lt_1 (List.mem_of_getElem? (i := 161) rfl)) rfl
set_option maxRecDepth 20000 in
theorem tw_162 : Cond.code yX1_init cX1_init 1 none ∈ GW := gw_in (lt_1 (List.mem_of_getElem? (i := 162) rfl)) rfl
set_option maxRecDepth 20000 in
theorem tw_163 : Cond.methodLink RX1 3 Lib.objectInit ∈ GW := gw_in (lt_1 (List.mem_of_getElem? (i := 163) rfl)) rfl
set_option maxRecDepth 20000 in
theorem tw_164 : Cond.classLink RX1 9 ("[" ++ (FieldType.array .long).toString) ∈ GW := gw_in (lt_1 (List.mem_of_getElem? (i := 164) rfl)) rfl
set_option maxRecDepth 20000 in
theorem tw_166 : Cond.classLink RX1 16 ("[" ++ (FieldType.array .int).toString) ∈ GW := gw_in (lt_1 (List.mem_of_getElem? (i := 166) rfl)) rfl
set_option maxRecDepth 20000 in
theorem tw_167 : Cond.fieldLink RX1 11 "GroupLimits$Gauges" "history" "[[J" ∈ GW := gw_in (lt_1 (List.mem_of_getElem? (i := 167) rfl)) rfl
set_option maxRecDepth 20000 in
theorem tw_168 : Cond.fieldLink RX1 18 "GroupLimits$Gauges" "ever" "[[I" ∈ GW := gw_in (lt_1 (List.mem_of_getElem? (i := 168) rfl)) rfl
set_option maxRecDepth 20000 in
theorem tw_169 : Cond.fieldLink RX9 287 "GroupLimits$Gauges" "ever" "[[I" ∈ GW := gw_in (lt_1 (List.mem_of_getElem? (i := 169) rfl)) rfl
set_option maxRecDepth 20000 in
theorem tw_170 : Cond.fieldLink RX1 21 "GroupLimits$Gauges" "averages" "[[I" ∈ GW := gw_in (lt_1 (List.mem_of_getElem? (i := 170) rfl)) rfl
set_option maxRecDepth 20000 in
theorem tw_171 : Cond.fieldLink RX9 284 "GroupLimits$Gauges" "averages" "[[I" ∈ GW := gw_in (lt_1 (List.mem_of_getElem? (i := 171) rfl)) rfl
set_option maxRecDepth 20000 in
theorem tw_179 : Cond.arrayClass .long ∈ GW := gw_in (lt_1 (List.mem_of_getElem? (i := 179) rfl)) rfl
set_option maxRecDepth 20000 in
theorem tw_180 : Cond.classLink RX8 32 RX7 ∈ GW := gw_in (lt_1 (List.mem_of_getElem? (i := 180) rfl)) rfl
set_option maxRecDepth 20000 in
theorem tw_181 : Cond.instantiable RX7 5 ∈ GW := gw_in (lt_1 (List.mem_of_getElem? (i := 181) rfl)) rfl
set_option maxRecDepth 20000 in
theorem tw_183 : Cond.instanceMethod yX7_init ∈ GW := gw_in (lt_1 (List.mem_of_getElem? (i := 183) rfl)) rfl
set_option maxRecDepth 20000 in
theorem tw_184 : Cond.code yX7_init cX7_init 1 none ∈ GW := gw_in (lt_1 (List.mem_of_getElem? (i := 184) rfl)) rfl
set_option maxRecDepth 20000 in
theorem tw_185 : Cond.methodLink RX7 3 Lib.objectInit ∈ GW := gw_in (lt_1 (List.mem_of_getElem? (i := 185) rfl)) rfl
set_option maxRecDepth 20000 in
theorem tw_186 : Cond.fieldLink RX7 9 "GroupLimits$Triggers" "watched" "[I" ∈ GW := gw_in (lt_1 (List.mem_of_getElem? (i := 186) rfl)) rfl
set_option maxRecDepth 20000 in
theorem tw_187 : Cond.fieldLink RX9 299 "GroupLimits$Triggers" "watched" "[I" ∈ GW := gw_in (lt_1 (List.mem_of_getElem? (i := 187) rfl)) rfl
set_option maxRecDepth 20000 in
theorem tw_188 : Cond.fieldLink RX7 15 "GroupLimits$Triggers" "window" "[I" ∈ GW := gw_in (lt_1 (List.mem_of_getElem? (i := 188) rfl)) rfl
set_option maxRecDepth 20000 in
theorem tw_189 : Cond.fieldLink RX7 18 "GroupLimits$Triggers" "need" "[I" ∈ GW := gw_in (lt_1 (List.mem_of_getElem? (i := 189) rfl)) rfl
set_option maxRecDepth 20000 in
theorem tw_190 : Cond.fieldLink RX7 21 "GroupLimits$Triggers" "times" "[I" ∈ GW := gw_in (lt_1 (List.mem_of_getElem? (i := 190) rfl)) rfl
set_option maxRecDepth 20000 in
theorem tw_191 : Cond.fieldLink RX9 296 "GroupLimits$Triggers" "times" "[I" ∈ GW := gw_in (lt_1 (List.mem_of_getElem? (i := 191) rfl)) rfl
set_option maxRecDepth 20000 in
theorem tw_192 : Cond.fieldLink RX7 30 "GroupLimits$Triggers" "size" "I" ∈ GW := gw_in (lt_1 (List.mem_of_getElem? (i := 192) rfl)) rfl
set_option maxRecDepth 20000 in
theorem tw_193 : Cond.fieldLink RX9 224 "GroupLimits$Triggers" "size" "I" ∈ GW := gw_in (lt_1 (List.mem_of_getElem? (i := 193) rfl)) rfl
set_option maxRecDepth 20000 in
theorem tw_205 : Cond.fieldLink RX8 12 "GroupLimits$World" "tree" "LGroupLimits$Tree;" ∈ GW := gw_in (lt_1 (List.mem_of_getElem? (i := 205) rfl)) rfl
set_option maxRecDepth 20000 in
theorem tw_206 : Cond.fieldLink RX5 30 "GroupLimits$World" "tree" "LGroupLimits$Tree;" ∈ GW := gw_in (lt_1 (List.mem_of_getElem? (i := 206) rfl)) rfl
set_option maxRecDepth 20000 in
theorem tw_207 : Cond.fieldLink RX9 53 "GroupLimits$World" "tree" "LGroupLimits$Tree;" ∈ GW := gw_in (lt_1 (List.mem_of_getElem? (i := 207) rfl)) rfl
set_option maxRecDepth 20000 in
theorem tw_208 : Cond.fieldLink RX3 27 "GroupLimits$World" "tree" "LGroupLimits$Tree;" ∈ GW := gw_in (lt_1 (List.mem_of_getElem? (i := 208) rfl)) rfl
set_option maxRecDepth 20000 in
theorem tw_209 : Cond.fieldLink RX2 40 "GroupLimits$World" "tree" "LGroupLimits$Tree;" ∈ GW := gw_in (lt_1 (List.mem_of_getElem? (i := 209) rfl)) rfl
set_option maxRecDepth 20000 in
theorem tw_210 : Cond.fieldLink RX8 21 "GroupLimits$World" "crowd" "LGroupLimits$Crowd;" ∈ GW := gw_in (lt_1 (List.mem_of_getElem? (i := 210) rfl)) rfl
set_option maxRecDepth 20000 in
theorem tw_211 : Cond.fieldLink RX3 15 "GroupLimits$World" "crowd" "LGroupLimits$Crowd;" ∈ GW := gw_in (lt_1 (List.mem_of_getElem? (i := 211) rfl)) rfl
set_option maxRecDepth 20000 in
theorem tw_212 : Cond.fieldLink RX5 79 "GroupLimits$World" "crowd" "LGroupLimits$Crowd;" ∈ GW := gw_in (lt_1 (List.mem_of_getElem? (i := 212) rfl)) rfl
set_option maxRecDepth 20000 in
theorem tw_213 : Cond.fieldLink RX2 65 "GroupLimits$World" "crowd" "LGroupLimits$Crowd;" ∈ GW := gw_in (lt_1 (List.mem_of_getElem? (i := 213) rfl)) rfl
set_option maxRecDepth 20000 in
theorem tw_214 : Cond.fieldLink RX9 129 "GroupLimits$World" "crowd" "LGroupLimits$Crowd;" ∈ GW := gw_in (lt_1 (List.mem_of_getElem? (i := 214) rfl)) rfl
set_option maxRecDepth 20000 in
theorem tw_215 : Cond.fieldLink RX8 28 "GroupLimits$World" "gauges" "LGroupLimits$Gauges;" ∈ GW := gw_in (lt_1 (List.mem_of_getElem? (i := 215) rfl)) rfl
set_option maxRecDepth 20000 in
theorem tw_216 : Cond.fieldLink RX9 75 "GroupLimits$World" "gauges" "LGroupLimits$Gauges;" ∈ GW := gw_in (lt_1 (List.mem_of_getElem? (i := 216) rfl)) rfl
set_option maxRecDepth 20000 in
theorem tw_217 : Cond.fieldLink RX8 35 "GroupLimits$World" "triggers" "LGroupLimits$Triggers;" ∈ GW := gw_in (lt_1 (List.mem_of_getElem? (i := 217) rfl)) rfl
set_option maxRecDepth 20000 in
theorem tw_218 : Cond.fieldLink RX9 102 "GroupLimits$World" "triggers" "LGroupLimits$Triggers;" ∈ GW := gw_in (lt_1 (List.mem_of_getElem? (i := 218) rfl)) rfl
set_option maxRecDepth 20000 in
theorem tw_219 : Cond.fieldLink RX8 39 "GroupLimits$World" "batch" "I" ∈ GW := gw_in (lt_1 (List.mem_of_getElem? (i := 219) rfl)) rfl
set_option maxRecDepth 20000 in
theorem tw_220 : Cond.fieldLink RX3 44 "GroupLimits$World" "batch" "I" ∈ GW := gw_in (lt_1 (List.mem_of_getElem? (i := 220) rfl)) rfl
set_option maxRecDepth 20000 in
theorem tw_221 : Cond.fieldLink RX9 199 "GroupLimits$World" "batch" "I" ∈ GW := gw_in (lt_1 (List.mem_of_getElem? (i := 221) rfl)) rfl
set_option maxRecDepth 20000 in
theorem tw_222 : Cond.fieldLink RX8 43 "GroupLimits$World" "swap" "I" ∈ GW := gw_in (lt_1 (List.mem_of_getElem? (i := 222) rfl)) rfl
set_option maxRecDepth 20000 in
theorem tw_223 : Cond.fieldLink RX5 89 "GroupLimits$World" "swap" "I" ∈ GW := gw_in (lt_1 (List.mem_of_getElem? (i := 223) rfl)) rfl
set_option maxRecDepth 20000 in
theorem tw_224 : Cond.fieldLink RX9 206 "GroupLimits$World" "swap" "I" ∈ GW := gw_in (lt_1 (List.mem_of_getElem? (i := 224) rfl)) rfl
set_option maxRecDepth 20000 in
theorem tw_225 : Cond.fieldLink RX8 46 "GroupLimits$World" "cap" "I" ∈ GW := gw_in (lt_1 (List.mem_of_getElem? (i := 225) rfl)) rfl
set_option maxRecDepth 20000 in
theorem tw_226 : Cond.fieldLink RX2 28 "GroupLimits$World" "cap" "I" ∈ GW := gw_in (lt_1 (List.mem_of_getElem? (i := 226) rfl)) rfl
set_option maxRecDepth 20000 in
theorem tw_227 : Cond.fieldLink RX9 209 "GroupLimits$World" "cap" "I" ∈ GW := gw_in (lt_1 (List.mem_of_getElem? (i := 227) rfl)) rfl
set_option maxRecDepth 20000 in
theorem tw_228 : Cond.fieldLink RX8 49 "GroupLimits$World" "ticks" "I" ∈ GW := gw_in (lt_1 (List.mem_of_getElem? (i := 228) rfl)) rfl
set_option maxRecDepth 20000 in
theorem tw_229 : Cond.fieldLink RX2 56 "GroupLimits$World" "ticks" "I" ∈ GW := gw_in (lt_1 (List.mem_of_getElem? (i := 229) rfl)) rfl
set_option maxRecDepth 20000 in
theorem tw_230 : Cond.fieldLink RX9 221 "GroupLimits$World" "ticks" "I" ∈ GW := gw_in (lt_1 (List.mem_of_getElem? (i := 230) rfl)) rfl
set_option maxRecDepth 20000 in
theorem tw_248 : Cond.classLink RX9 19 RX4 ∈ GW := gw_in (lt_2 (List.mem_of_getElem? (i := 8) rfl)) rfl
set_option maxRecDepth 20000 in
theorem tw_249 : Cond.instantiable RX4 3 ∈ GW := gw_in (lt_2 (List.mem_of_getElem? (i := 9) rfl)) rfl
set_option maxRecDepth 20000 in
theorem tw_250 : Cond.methodLink RX9 21 yX4_init ∈ GW := gw_in (lt_2 (List.mem_of_getElem? (i := 10) rfl)) rfl
set_option maxRecDepth 20000 in
theorem tw_251 : Cond.instanceMethod yX4_init ∈ GW := gw_in (lt_2 (List.mem_of_getElem? (i := 11) rfl)) rfl
set_option maxRecDepth 20000 in
theorem tw_252 : Cond.code yX4_init cX4_init 2 none ∈ GW := gw_in (lt_2 (List.mem_of_getElem? (i := 12) rfl)) rfl
set_option maxRecDepth 20000 in
theorem tw_253 : Cond.methodLink RX4 3 Lib.objectInit ∈ GW := gw_in (lt_2 (List.mem_of_getElem? (i := 13) rfl)) rfl
set_option maxRecDepth 20000 in
theorem tw_254 : Cond.classLink RX4 11 RX8 ∈ GW := gw_in (lt_2 (List.mem_of_getElem? (i := 14) rfl)) rfl
set_option maxRecDepth 20000 in
theorem tw_257 : Cond.fieldLink RX4 22 "GroupLimits$Past" "size" "I" ∈ GW := gw_in (lt_2 (List.mem_of_getElem? (i := 17) rfl)) rfl
set_option maxRecDepth 20000 in
theorem tw_258 : Cond.fieldLink RX9 330 "GroupLimits$Past" "size" "I" ∈ GW := gw_in (lt_2 (List.mem_of_getElem? (i := 18) rfl)) rfl
set_option maxRecDepth 20000 in
theorem tw_259 : Cond.fieldLink RX4 18 "GroupLimits$Past" "eldest" "I" ∈ GW := gw_in (lt_2 (List.mem_of_getElem? (i := 19) rfl)) rfl
set_option maxRecDepth 20000 in
theorem tw_260 : Cond.fieldLink RX4 13 "GroupLimits$Past" "kept" "[LGroupLimits$World;" ∈ GW := gw_in (lt_2 (List.mem_of_getElem? (i := 20) rfl)) rfl
set_option maxRecDepth 20000 in
theorem tw_268 : Cond.classLink RX9 30 RX5 ∈ GW := gw_in (lt_2 (List.mem_of_getElem? (i := 28) rfl)) rfl
set_option maxRecDepth 20000 in
theorem tw_269 : Cond.instantiable RX5 6 ∈ GW := gw_in (lt_2 (List.mem_of_getElem? (i := 29) rfl)) rfl
set_option maxRecDepth 20000 in
theorem tw_271 : Cond.instanceMethod yX5_init ∈ GW := gw_in (lt_2 (List.mem_of_getElem? (i := 31) rfl)) rfl
set_option maxRecDepth 20000 in
theorem tw_272 : Cond.code yX5_init cX5_init 1 none ∈ GW := gw_in (lt_2 (List.mem_of_getElem? (i := 32) rfl)) rfl
set_option maxRecDepth 20000 in
theorem tw_273 : Cond.methodLink RX5 3 Lib.objectInit ∈ GW := gw_in (lt_2 (List.mem_of_getElem? (i := 33) rfl)) rfl
set_option maxRecDepth 20000 in
theorem tw_274 : Cond.fieldLink RX5 9 "GroupLimits$Reclaim" "shares" "[I" ∈ GW := gw_in (lt_2 (List.mem_of_getElem? (i := 34) rfl)) rfl
set_option maxRecDepth 20000 in
theorem tw_275 : Cond.fieldLink RX9 265 "GroupLimits$Reclaim" "shares" "[I" ∈ GW := gw_in (lt_2 (List.mem_of_getElem? (i := 35) rfl)) rfl
set_option maxRecDepth 20000 in
theorem tw_276 : Cond.fieldLink RX5 15 "GroupLimits$Reclaim" "spares" "[I" ∈ GW := gw_in (lt_2 (List.mem_of_getElem? (i := 36) rfl)) rfl
set_option maxRecDepth 20000 in
theorem tw_277 : Cond.fieldLink RX9 272 "GroupLimits$Reclaim" "spares" "[I" ∈ GW := gw_in (lt_2 (List.mem_of_getElem? (i := 37) rfl)) rfl
set_option maxRecDepth 20000 in
theorem tw_278 : Cond.fieldLink RX5 18 "GroupLimits$Reclaim" "claims" "[I" ∈ GW := gw_in (lt_2 (List.mem_of_getElem? (i := 38) rfl)) rfl
set_option maxRecDepth 20000 in
theorem tw_279 : Cond.fieldLink RX5 21 "GroupLimits$Reclaim" "claimsBelow" "[I" ∈ GW := gw_in (lt_2 (List.mem_of_getElem? (i := 39) rfl)) rfl
set_option maxRecDepth 20000 in
theorem tw_280 : Cond.fieldLink RX5 24 "GroupLimits$Reclaim" "unprotected" "[I" ∈ GW := gw_in (lt_2 (List.mem_of_getElem? (i := 40) rfl)) rfl
set_option maxRecDepth 20000 in
theorem tw_281 : Cond.fieldLink RX5 27 "GroupLimits$Reclaim" "swapLeft" "[I" ∈ GW := gw_in (lt_2 (List.mem_of_getElem? (i := 41) rfl)) rfl
set_option maxRecDepth 20000 in
theorem tw_295 : Cond.classLink RX9 37 RX3 ∈ GW := gw_in (lt_2 (List.mem_of_getElem? (i := 55) rfl)) rfl
set_option maxRecDepth 20000 in
theorem tw_296 : Cond.instantiable RX3 1 ∈ GW := gw_in (lt_2 (List.mem_of_getElem? (i := 56) rfl)) rfl
set_option maxRecDepth 20000 in
theorem tw_297 : Cond.methodLink RX9 39 yX3_init ∈ GW := gw_in (lt_2 (List.mem_of_getElem? (i := 57) rfl)) rfl
set_option maxRecDepth 20000 in
theorem tw_298 : Cond.instanceMethod yX3_init ∈ GW := gw_in (lt_2 (List.mem_of_getElem? (i := 58) rfl)) rfl
set_option maxRecDepth 20000 in
theorem tw_299 : Cond.code yX3_init cX3_init 2 none ∈ GW := gw_in (lt_2 (List.mem_of_getElem? (i := 59) rfl)) rfl
set_option maxRecDepth 20000 in
theorem tw_300 : Cond.methodLink RX3 3 Lib.objectInit ∈ GW := gw_in (lt_2 (List.mem_of_getElem? (i := 60) rfl)) rfl
set_option maxRecDepth 20000 in
theorem tw_301 : Cond.fieldLink RX3 9 "GroupLimits$Memory" "reclaim" "LGroupLimits$Reclaim;" ∈ GW := gw_in (lt_2 (List.mem_of_getElem? (i := 61) rfl)) rfl
set_option maxRecDepth 20000 in
theorem tw_305 : Cond.classLink RX9 46 RX2 ∈ GW := gw_in (lt_2 (List.mem_of_getElem? (i := 65) rfl)) rfl
set_option maxRecDepth 20000 in
theorem tw_306 : Cond.instantiable RX2 2 ∈ GW := gw_in (lt_2 (List.mem_of_getElem? (i := 66) rfl)) rfl
set_option maxRecDepth 20000 in
theorem tw_308 : Cond.instanceMethod yX2_init ∈ GW := gw_in (lt_2 (List.mem_of_getElem? (i := 68) rfl)) rfl
set_option maxRecDepth 20000 in
theorem tw_309 : Cond.code yX2_init cX2_init 1 none ∈ GW := gw_in (lt_2 (List.mem_of_getElem? (i := 69) rfl)) rfl
set_option maxRecDepth 20000 in
theorem tw_310 : Cond.methodLink RX2 3 Lib.objectInit ∈ GW := gw_in (lt_2 (List.mem_of_getElem? (i := 70) rfl)) rfl
set_option maxRecDepth 20000 in
theorem tw_311 : Cond.fieldLink RX2 11 "GroupLimits$Labour" "gets" "[I" ∈ GW := gw_in (lt_2 (List.mem_of_getElem? (i := 71) rfl)) rfl
set_option maxRecDepth 20000 in
theorem tw_312 : Cond.fieldLink RX9 293 "GroupLimits$Labour" "gets" "[I" ∈ GW := gw_in (lt_2 (List.mem_of_getElem? (i := 72) rfl)) rfl
set_option maxRecDepth 20000 in
theorem tw_313 : Cond.fieldLink RX2 15 "GroupLimits$Labour" "asks" "[I" ∈ GW := gw_in (lt_2 (List.mem_of_getElem? (i := 73) rfl)) rfl
set_option maxRecDepth 20000 in
theorem tw_319 : Cond.fieldLink RX9 10 "GroupLimits" "live" "LGroupLimits$World;" ∈ GW := gw_in (lt_2 (List.mem_of_getElem? (i := 79) rfl)) rfl
set_option maxRecDepth 20000 in
theorem tw_320 : Cond.fieldLink RX9 16 "GroupLimits" "paper" "LGroupLimits$World;" ∈ GW := gw_in (lt_2 (List.mem_of_getElem? (i := 80) rfl)) rfl
set_option maxRecDepth 20000 in
theorem tw_321 : Cond.fieldLink RX9 22 "GroupLimits" "past" "LGroupLimits$Past;" ∈ GW := gw_in (lt_2 (List.mem_of_getElem? (i := 81) rfl)) rfl
set_option maxRecDepth 20000 in
theorem tw_322 : Cond.fieldLink RX9 26 "GroupLimits" "images" "[LGroupLimits$World;" ∈ GW := gw_in (lt_2 (List.mem_of_getElem? (i := 82) rfl)) rfl
set_option maxRecDepth 20000 in
theorem tw_323 : Cond.fieldLink RX9 33 "GroupLimits" "reclaim" "LGroupLimits$Reclaim;" ∈ GW := gw_in (lt_2 (List.mem_of_getElem? (i := 83) rfl)) rfl
set_option maxRecDepth 20000 in
theorem tw_324 : Cond.fieldLink RX9 42 "GroupLimits" "memory" "LGroupLimits$Memory;" ∈ GW := gw_in (lt_2 (List.mem_of_getElem? (i := 84) rfl)) rfl
set_option maxRecDepth 20000 in
theorem tw_325 : Cond.fieldLink RX9 49 "GroupLimits" "labour" "LGroupLimits$Labour;" ∈ GW := gw_in (lt_2 (List.mem_of_getElem? (i := 85) rfl)) rfl
set_option maxRecDepth 20000 in
theorem tw_341 : Cond.methodLink RL 13 yX9_group ∈ GW := gw_in (lt_2 (List.mem_of_getElem? (i := 101) rfl)) rfl
set_option maxRecDepth 20000 in
theorem tw_342 : Cond.instanceMethod yX9_group ∈ GW := gw_in (lt_2 (List.mem_of_getElem? (i := 102) rfl)) rfl
set_option maxRecDepth 20000 in
theorem tw_343 : Cond.selects RX9 yX9_group yX9_group ∈ GW := gw_in (lt_2 (List.mem_of_getElem? (i := 103) rfl)) rfl
set_option maxRecDepth 20000 in
theorem tw_344 : Cond.code yX9_group cX9_group 3 (some .int) ∈ GW := gw_in (lt_2 (List.mem_of_getElem? (i := 104) rfl)) rfl
set_option maxRecDepth 20000 in
theorem tw_345 : Cond.methodLink RX9 57 yX6_has ∈ GW := gw_in (lt_2 (List.mem_of_getElem? (i := 105) rfl)) rfl
set_option maxRecDepth 20000 in
theorem tw_346 : Cond.instanceMethod yX6_has ∈ GW := gw_in (lt_2 (List.mem_of_getElem? (i := 106) rfl)) rfl
set_option maxRecDepth 20000 in
theorem tw_347 : Cond.selects RX6 yX6_has yX6_has ∈ GW := gw_in (lt_2 (List.mem_of_getElem? (i := 107) rfl)) rfl
set_option maxRecDepth 20000 in
theorem tw_348 : Cond.code yX6_has cX6_has 2 (some .boolean) ∈ GW := gw_in (lt_2 (List.mem_of_getElem? (i := 108) rfl)) rfl
set_option maxRecDepth 20000 in
theorem tw_349 : Cond.methodLink RX9 63 yX6_firstFree ∈ GW := gw_in (lt_2 (List.mem_of_getElem? (i := 109) rfl)) rfl
set_option maxRecDepth 20000 in
theorem tw_350 : Cond.instanceMethod yX6_firstFree ∈ GW := gw_in (lt_2 (List.mem_of_getElem? (i := 110) rfl)) rfl
set_option maxRecDepth 20000 in
theorem tw_351 : Cond.selects RX6 yX6_firstFree yX6_firstFree ∈ GW := gw_in (lt_2 (List.mem_of_getElem? (i := 111) rfl)) rfl
set_option maxRecDepth 20000 in
theorem tw_352 : Cond.code yX6_firstFree cX6_firstFree 2 (some .int) ∈ GW := gw_in (lt_2 (List.mem_of_getElem? (i := 112) rfl)) rfl
set_option maxRecDepth 20000 in
theorem tw_353 : Cond.methodLink RX9 67 yX4_keep ∈ GW := gw_in (lt_2 (List.mem_of_getElem? (i := 113) rfl)) rfl
set_option maxRecDepth 20000 in
theorem tw_354 : Cond.instanceMethod yX4_keep ∈ GW := gw_in (lt_2 (List.mem_of_getElem? (i := 114) rfl)) rfl
set_option maxRecDepth 20000 in
theorem tw_355 : Cond.selects RX4 yX4_keep yX4_keep ∈ GW := gw_in (lt_2 (List.mem_of_getElem? (i := 115) rfl)) rfl
set_option maxRecDepth 20000 in
theorem tw_356 : Cond.code yX4_keep cX4_keep 2 none ∈ GW := gw_in (lt_2 (List.mem_of_getElem? (i := 116) rfl)) rfl
set_option maxRecDepth 20000 in
theorem tw_357 : Cond.methodLink RX4 25 yX4_slot ∈ GW := gw_in (lt_2 (List.mem_of_getElem? (i := 117) rfl)) rfl
set_option maxRecDepth 20000 in
theorem tw_359 : Cond.instanceMethod yX4_slot ∈ GW := gw_in (lt_2 (List.mem_of_getElem? (i := 119) rfl)) rfl
set_option maxRecDepth 20000 in
theorem tw_360 : Cond.code yX4_slot cX4_slot 2 (some (.object "GroupLimits$World")) ∈ GW := gw_in (lt_2 (List.mem_of_getElem? (i := 120) rfl)) rfl
set_option maxRecDepth 20000 in
theorem tw_361 : Cond.methodLink RX4 29 yX8_copyFrom ∈ GW := gw_in (lt_2 (List.mem_of_getElem? (i := 121) rfl)) rfl
set_option maxRecDepth 20000 in
theorem tw_362 : Cond.instanceMethod yX8_copyFrom ∈ GW := gw_in (lt_2 (List.mem_of_getElem? (i := 122) rfl)) rfl
set_option maxRecDepth 20000 in
theorem tw_363 : Cond.selects RX8 yX8_copyFrom yX8_copyFrom ∈ GW := gw_in (lt_2 (List.mem_of_getElem? (i := 123) rfl)) rfl
set_option maxRecDepth 20000 in
theorem tw_364 : Cond.code yX8_copyFrom cX8_copyFrom 2 none ∈ GW := gw_in (lt_2 (List.mem_of_getElem? (i := 124) rfl)) rfl
set_option maxRecDepth 20000 in
theorem tw_365 : Cond.methodLink RX8 52 yX6_copyFrom ∈ GW := gw_in (lt_2 (List.mem_of_getElem? (i := 125) rfl)) rfl
set_option maxRecDepth 20000 in
theorem tw_366 : Cond.instanceMethod yX6_copyFrom ∈ GW := gw_in (lt_2 (List.mem_of_getElem? (i := 126) rfl)) rfl
set_option maxRecDepth 20000 in
theorem tw_367 : Cond.selects RX6 yX6_copyFrom yX6_copyFrom ∈ GW := gw_in (lt_2 (List.mem_of_getElem? (i := 127) rfl)) rfl
set_option maxRecDepth 20000 in
theorem tw_368 : Cond.code yX6_copyFrom cX6_copyFrom 3 none ∈ GW := gw_in (lt_2 (List.mem_of_getElem? (i := 128) rfl)) rfl
set_option maxRecDepth 20000 in
theorem tw_369 : Cond.methodLink RX6 48 arraycopyName ∈ GW := gw_in (lt_2 (List.mem_of_getElem? (i := 129) rfl)) rfl
set_option maxRecDepth 20000 in
theorem tw_370 : Cond.static arraycopyName ∈ GW := gw_in (lt_2 (List.mem_of_getElem? (i := 130) rfl)) rfl
set_option maxRecDepth 20000 in
theorem tw_371 : Cond.native arraycopyName ∈ GW := gw_in (lt_2 (List.mem_of_getElem? (i := 131) rfl)) rfl
set_option maxRecDepth 20000 in
theorem tw_372 : Cond.methodLink RX8 56 yX0_copyFrom ∈ GW := gw_in (lt_2 (List.mem_of_getElem? (i := 132) rfl)) rfl
set_option maxRecDepth 20000 in
theorem tw_373 : Cond.instanceMethod yX0_copyFrom ∈ GW := gw_in (lt_2 (List.mem_of_getElem? (i := 133) rfl)) rfl
set_option maxRecDepth 20000 in
theorem tw_374 : Cond.selects RX0 yX0_copyFrom yX0_copyFrom ∈ GW := gw_in (lt_2 (List.mem_of_getElem? (i := 134) rfl)) rfl
set_option maxRecDepth 20000 in
theorem tw_375 : Cond.code yX0_copyFrom cX0_copyFrom 2 none ∈ GW := gw_in (lt_2 (List.mem_of_getElem? (i := 135) rfl)) rfl
set_option maxRecDepth 20000 in
theorem tw_376 : Cond.methodLink RX0 41 arraycopyName ∈ GW := gw_in (lt_2 (List.mem_of_getElem? (i := 136) rfl)) rfl
set_option maxRecDepth 20000 in
theorem tw_377 : Cond.methodLink RX8 59 yX1_copyFrom ∈ GW := gw_in (lt_2 (List.mem_of_getElem? (i := 137) rfl)) rfl
set_option maxRecDepth 20000 in
theorem tw_378 : Cond.instanceMethod yX1_copyFrom ∈ GW := gw_in (lt_2 (List.mem_of_getElem? (i := 138) rfl)) rfl
set_option maxRecDepth 20000 in
theorem tw_379 : Cond.selects RX1 yX1_copyFrom yX1_copyFrom ∈ GW := gw_in (lt_2 (List.mem_of_getElem? (i := 139) rfl)) rfl
set_option maxRecDepth 20000 in
theorem tw_380 : Cond.code yX1_copyFrom cX1_copyFrom 3 none ∈ GW := gw_in (lt_2 (List.mem_of_getElem? (i := 140) rfl)) rfl
set_option maxRecDepth 20000 in
theorem tw_381 : Cond.methodLink RX1 24 arraycopyName ∈ GW := gw_in (lt_2 (List.mem_of_getElem? (i := 141) rfl)) rfl
set_option maxRecDepth 20000 in
theorem tw_382 : Cond.methodLink RX8 62 yX7_copyFrom ∈ GW := gw_in (lt_2 (List.mem_of_getElem? (i := 142) rfl)) rfl
set_option maxRecDepth 20000 in
theorem tw_383 : Cond.instanceMethod yX7_copyFrom ∈ GW := gw_in (lt_2 (List.mem_of_getElem? (i := 143) rfl)) rfl
set_option maxRecDepth 20000 in
theorem tw_384 : Cond.selects RX7 yX7_copyFrom yX7_copyFrom ∈ GW := gw_in (lt_2 (List.mem_of_getElem? (i := 144) rfl)) rfl
set_option maxRecDepth 20000 in
theorem tw_385 : Cond.code yX7_copyFrom cX7_copyFrom 2 none ∈ GW := gw_in (lt_2 (List.mem_of_getElem? (i := 145) rfl)) rfl
set_option maxRecDepth 20000 in
theorem tw_386 : Cond.methodLink RX7 24 arraycopyName ∈ GW := gw_in (lt_2 (List.mem_of_getElem? (i := 146) rfl)) rfl
set_option maxRecDepth 20000 in
theorem tw_387 : Cond.methodLink RX9 71 yX6_putGroup ∈ GW := gw_in (lt_2 (List.mem_of_getElem? (i := 147) rfl)) rfl
set_option maxRecDepth 20000 in
theorem tw_388 : Cond.methodLink RX9 79 yX1_clearGroup ∈ GW := gw_in (lt_2 (List.mem_of_getElem? (i := 148) rfl)) rfl
set_option maxRecDepth 20000 in
theorem tw_389 : Cond.instanceMethod yX1_clearGroup ∈ GW := gw_in (lt_2 (List.mem_of_getElem? (i := 149) rfl)) rfl
set_option maxRecDepth 20000 in
theorem tw_390 : Cond.selects RX1 yX1_clearGroup yX1_clearGroup ∈ GW := gw_in (lt_2 (List.mem_of_getElem? (i := 150) rfl)) rfl
set_option maxRecDepth 20000 in
theorem tw_391 : Cond.code yX1_clearGroup cX1_clearGroup 3 none ∈ GW := gw_in (lt_2 (List.mem_of_getElem? (i := 151) rfl)) rfl
set_option maxRecDepth 20000 in
theorem tw_392 : Cond.methodLink RX9 85 yX9_settle ∈ GW := gw_in (lt_2 (List.mem_of_getElem? (i := 152) rfl)) rfl
set_option maxRecDepth 20000 in
theorem tw_394 : Cond.instanceMethod yX9_settle ∈ GW := gw_in (lt_2 (List.mem_of_getElem? (i := 154) rfl)) rfl
set_option maxRecDepth 20000 in
theorem tw_395 : Cond.code yX9_settle cX9_settle 2 (some .int) ∈ GW := gw_in (lt_2 (List.mem_of_getElem? (i := 155) rfl)) rfl
set_option maxRecDepth 20000 in
theorem tw_396 : Cond.methodLink RX9 345 yX4_dropTry ∈ GW := gw_in (lt_2 (List.mem_of_getElem? (i := 156) rfl)) rfl
set_option maxRecDepth 20000 in
theorem tw_397 : Cond.instanceMethod yX4_dropTry ∈ GW := gw_in (lt_2 (List.mem_of_getElem? (i := 157) rfl)) rfl
set_option maxRecDepth 20000 in
theorem tw_398 : Cond.selects RX4 yX4_dropTry yX4_dropTry ∈ GW := gw_in (lt_2 (List.mem_of_getElem? (i := 158) rfl)) rfl
set_option maxRecDepth 20000 in
theorem tw_399 : Cond.code yX4_dropTry cX4_dropTry 2 none ∈ GW := gw_in (lt_2 (List.mem_of_getElem? (i := 159) rfl)) rfl
set_option maxRecDepth 20000 in
theorem tw_400 : Cond.methodLink RX9 348 yX4_countKept ∈ GW := gw_in (lt_2 (List.mem_of_getElem? (i := 160) rfl)) rfl
set_option maxRecDepth 20000 in
theorem tw_401 : Cond.instanceMethod yX4_countKept ∈ GW := gw_in (lt_2 (List.mem_of_getElem? (i := 161) rfl)) rfl
set_option maxRecDepth 20000 in
theorem tw_402 : Cond.selects RX4 yX4_countKept yX4_countKept ∈ GW := gw_in (lt_2 (List.mem_of_getElem? (i := 162) rfl)) rfl
set_option maxRecDepth 20000 in
theorem tw_403 : Cond.code yX4_countKept cX4_countKept 1 none ∈ GW := gw_in (lt_2 (List.mem_of_getElem? (i := 163) rfl)) rfl
set_option maxRecDepth 20000 in
theorem tw_404 : Cond.methodLink RL 18 yX9_remove ∈ GW := gw_in (lt_2 (List.mem_of_getElem? (i := 164) rfl)) rfl
set_option maxRecDepth 20000 in
theorem tw_405 : Cond.instanceMethod yX9_remove ∈ GW := gw_in (lt_2 (List.mem_of_getElem? (i := 165) rfl)) rfl
set_option maxRecDepth 20000 in
theorem tw_406 : Cond.selects RX9 yX9_remove yX9_remove ∈ GW := gw_in (lt_2 (List.mem_of_getElem? (i := 166) rfl)) rfl
set_option maxRecDepth 20000 in
theorem tw_407 : Cond.code yX9_remove cX9_remove 4 (some .int) ∈ GW := gw_in (lt_2 (List.mem_of_getElem? (i := 167) rfl)) rfl
set_option maxRecDepth 20000 in
theorem tw_408 : Cond.methodLink RX9 89 yX6_bitsBelow ∈ GW := gw_in (lt_2 (List.mem_of_getElem? (i := 168) rfl)) rfl
set_option maxRecDepth 20000 in
theorem tw_409 : Cond.instanceMethod yX6_bitsBelow ∈ GW := gw_in (lt_2 (List.mem_of_getElem? (i := 169) rfl)) rfl
set_option maxRecDepth 20000 in
theorem tw_410 : Cond.selects RX6 yX6_bitsBelow yX6_bitsBelow ∈ GW := gw_in (lt_2 (List.mem_of_getElem? (i := 170) rfl)) rfl
set_option maxRecDepth 20000 in
theorem tw_411 : Cond.code yX6_bitsBelow cX6_bitsBelow 4 (some .int) ∈ GW := gw_in (lt_2 (List.mem_of_getElem? (i := 171) rfl)) rfl
set_option maxRecDepth 20000 in
theorem tw_412 : Cond.methodLink RX9 92 yX8_bitsOfProcesses ∈ GW := gw_in (lt_2 (List.mem_of_getElem? (i := 172) rfl)) rfl
set_option maxRecDepth 20000 in
theorem tw_413 : Cond.instanceMethod yX8_bitsOfProcesses ∈ GW := gw_in (lt_2 (List.mem_of_getElem? (i := 173) rfl)) rfl
set_option maxRecDepth 20000 in
theorem tw_414 : Cond.selects RX8 yX8_bitsOfProcesses yX8_bitsOfProcesses ∈ GW := gw_in (lt_2 (List.mem_of_getElem? (i := 174) rfl)) rfl
set_option maxRecDepth 20000 in
theorem tw_415 : Cond.code yX8_bitsOfProcesses cX8_bitsOfProcesses 5 (some .int) ∈ GW := gw_in (lt_2 (List.mem_of_getElem? (i := 175) rfl)) rfl
set_option maxRecDepth 20000 in
theorem tw_416 : Cond.methodLink RX8 65 yX6_bitsBelow ∈ GW := gw_in (lt_2 (List.mem_of_getElem? (i := 176) rfl)) rfl
set_option maxRecDepth 20000 in
theorem tw_417 : Cond.methodLink RX9 99 yX6_dropGroup ∈ GW := gw_in (lt_2 (List.mem_of_getElem? (i := 177) rfl)) rfl
set_option maxRecDepth 20000 in
theorem tw_418 : Cond.instanceMethod yX6_dropGroup ∈ GW := gw_in (lt_2 (List.mem_of_getElem? (i := 178) rfl)) rfl
set_option maxRecDepth 20000 in
theorem tw_419 : Cond.selects RX6 yX6_dropGroup yX6_dropGroup ∈ GW := gw_in (lt_2 (List.mem_of_getElem? (i := 179) rfl)) rfl
set_option maxRecDepth 20000 in
theorem tw_420 : Cond.code yX6_dropGroup cX6_dropGroup 4 none ∈ GW := gw_in (lt_2 (List.mem_of_getElem? (i := 180) rfl)) rfl
set_option maxRecDepth 20000 in
theorem tw_421 : Cond.methodLink RX6 61 yX6_addStock ∈ GW := gw_in (lt_2 (List.mem_of_getElem? (i := 181) rfl)) rfl
set_option maxRecDepth 20000 in
theorem tw_422 : Cond.instanceMethod yX6_addStock ∈ GW := gw_in (lt_2 (List.mem_of_getElem? (i := 182) rfl)) rfl
set_option maxRecDepth 20000 in
theorem tw_423 : Cond.selects RX6 yX6_addStock yX6_addStock ∈ GW := gw_in (lt_2 (List.mem_of_getElem? (i := 183) rfl)) rfl
set_option maxRecDepth 20000 in
theorem tw_424 : Cond.code yX6_addStock cX6_addStock 3 none ∈ GW := gw_in (lt_2 (List.mem_of_getElem? (i := 184) rfl)) rfl
set_option maxRecDepth 20000 in
theorem tw_425 : Cond.methodLink RX6 74 yX6_addTotal ∈ GW := gw_in (lt_2 (List.mem_of_getElem? (i := 185) rfl)) rfl
set_option maxRecDepth 20000 in
theorem tw_426 : Cond.instanceMethod yX6_addTotal ∈ GW := gw_in (lt_2 (List.mem_of_getElem? (i := 186) rfl)) rfl
set_option maxRecDepth 20000 in
theorem tw_427 : Cond.selects RX6 yX6_addTotal yX6_addTotal ∈ GW := gw_in (lt_2 (List.mem_of_getElem? (i := 187) rfl)) rfl
set_option maxRecDepth 20000 in
theorem tw_428 : Cond.code yX6_addTotal cX6_addTotal 5 none ∈ GW := gw_in (lt_2 (List.mem_of_getElem? (i := 188) rfl)) rfl
set_option maxRecDepth 20000 in
theorem tw_429 : Cond.methodLink RX9 106 yX7_dropOf ∈ GW := gw_in (lt_2 (List.mem_of_getElem? (i := 189) rfl)) rfl
set_option maxRecDepth 20000 in
theorem tw_430 : Cond.instanceMethod yX7_dropOf ∈ GW := gw_in (lt_2 (List.mem_of_getElem? (i := 190) rfl)) rfl
set_option maxRecDepth 20000 in
theorem tw_431 : Cond.selects RX7 yX7_dropOf yX7_dropOf ∈ GW := gw_in (lt_2 (List.mem_of_getElem? (i := 191) rfl)) rfl
set_option maxRecDepth 20000 in
theorem tw_432 : Cond.code yX7_dropOf cX7_dropOf 4 none ∈ GW := gw_in (lt_2 (List.mem_of_getElem? (i := 192) rfl)) rfl
set_option maxRecDepth 20000 in
theorem tw_433 : Cond.methodLink RL 22 yX9_limit ∈ GW := gw_in (lt_2 (List.mem_of_getElem? (i := 193) rfl)) rfl
set_option maxRecDepth 20000 in
theorem tw_434 : Cond.instanceMethod yX9_limit ∈ GW := gw_in (lt_2 (List.mem_of_getElem? (i := 194) rfl)) rfl
set_option maxRecDepth 20000 in
theorem tw_435 : Cond.selects RX9 yX9_limit yX9_limit ∈ GW := gw_in (lt_2 (List.mem_of_getElem? (i := 195) rfl)) rfl
set_option maxRecDepth 20000 in
theorem tw_436 : Cond.code yX9_limit cX9_limit 4 (some .int) ∈ GW := gw_in (lt_2 (List.mem_of_getElem? (i := 196) rfl)) rfl
set_option maxRecDepth 20000 in
theorem tw_437 : Cond.methodLink RX9 111 yX9_outside ∈ GW := gw_in (lt_2 (List.mem_of_getElem? (i := 197) rfl)) rfl
set_option maxRecDepth 20000 in
theorem tw_438 : Cond.static yX9_outside ∈ GW := gw_in (lt_2 (List.mem_of_getElem? (i := 198) rfl)) rfl
set_option maxRecDepth 20000 in
theorem tw_439 : Cond.code yX9_outside cX9_outside 3 (some .boolean) ∈ GW := gw_in (lt_2 (List.mem_of_getElem? (i := 199) rfl)) rfl
set_option maxRecDepth 20000 in
theorem tw_440 : Cond.fieldLink RX9 115 "GroupLimits" "LIMIT_LEAST" "[I" ∈ GW := gw_in (lt_2 (List.mem_of_getElem? (i := 200) rfl)) rfl
set_option maxRecDepth 20000 in
theorem tw_442 : Cond.fieldLink RX9 118 "GroupLimits" "LIMIT_MOST" "[I" ∈ GW := gw_in (lt_2 (List.mem_of_getElem? (i := 202) rfl)) rfl
set_option maxRecDepth 20000 in
theorem tw_444 : Cond.methodLink RX9 121 yX3_setLimit ∈ GW := gw_in (lt_2 (List.mem_of_getElem? (i := 204) rfl)) rfl
set_option maxRecDepth 20000 in
theorem tw_445 : Cond.instanceMethod yX3_setLimit ∈ GW := gw_in (lt_2 (List.mem_of_getElem? (i := 205) rfl)) rfl
set_option maxRecDepth 20000 in
theorem tw_446 : Cond.selects RX3 yX3_setLimit yX3_setLimit ∈ GW := gw_in (lt_2 (List.mem_of_getElem? (i := 206) rfl)) rfl
set_option maxRecDepth 20000 in
theorem tw_447 : Cond.code yX3_setLimit cX3_setLimit 8 (some .int) ∈ GW := gw_in (lt_2 (List.mem_of_getElem? (i := 207) rfl)) rfl
set_option maxRecDepth 20000 in
theorem tw_448 : Cond.methodLink RX3 83 yX5_takePages ∈ GW := gw_in (lt_2 (List.mem_of_getElem? (i := 208) rfl)) rfl
set_option maxRecDepth 20000 in
theorem tw_449 : Cond.instanceMethod yX5_takePages ∈ GW := gw_in (lt_2 (List.mem_of_getElem? (i := 209) rfl)) rfl
set_option maxRecDepth 20000 in
theorem tw_450 : Cond.selects RX5 yX5_takePages yX5_takePages ∈ GW := gw_in (lt_2 (List.mem_of_getElem? (i := 210) rfl)) rfl
set_option maxRecDepth 20000 in
theorem tw_451 : Cond.code yX5_takePages cX5_takePages 9 (some .int) ∈ GW := gw_in (lt_2 (List.mem_of_getElem? (i := 211) rfl)) rfl
set_option maxRecDepth 20000 in
theorem tw_452 : Cond.methodLink RX5 98 yX6_emptyStocks ∈ GW := gw_in (lt_2 (List.mem_of_getElem? (i := 212) rfl)) rfl
set_option maxRecDepth 20000 in
theorem tw_453 : Cond.instanceMethod yX6_emptyStocks ∈ GW := gw_in (lt_2 (List.mem_of_getElem? (i := 213) rfl)) rfl
set_option maxRecDepth 20000 in
theorem tw_454 : Cond.selects RX6 yX6_emptyStocks yX6_emptyStocks ∈ GW := gw_in (lt_2 (List.mem_of_getElem? (i := 214) rfl)) rfl
set_option maxRecDepth 20000 in
theorem tw_455 : Cond.code yX6_emptyStocks cX6_emptyStocks 5 (some .int) ∈ GW := gw_in (lt_2 (List.mem_of_getElem? (i := 215) rfl)) rfl
set_option maxRecDepth 20000 in
theorem tw_456 : Cond.methodLink RX6 77 yX6_bitsBelow ∈ GW := gw_in (lt_2 (List.mem_of_getElem? (i := 216) rfl)) rfl
set_option maxRecDepth 20000 in
theorem tw_457 : Cond.methodLink RX5 101 yX5_measureSpares ∈ GW := gw_in (lt_2 (List.mem_of_getElem? (i := 217) rfl)) rfl
set_option maxRecDepth 20000 in
theorem tw_458 : Cond.instanceMethod yX5_measureSpares ∈ GW := gw_in (lt_2 (List.mem_of_getElem? (i := 218) rfl)) rfl
set_option maxRecDepth 20000 in
theorem tw_459 : Cond.selects RX5 yX5_measureSpares yX5_measureSpares ∈ GW := gw_in (lt_2 (List.mem_of_getElem? (i := 219) rfl)) rfl
set_option maxRecDepth 20000 in
theorem tw_460 : Cond.code yX5_measureSpares cX5_measureSpares 11 none ∈ GW := gw_in (lt_2 (List.mem_of_getElem? (i := 220) rfl)) rfl
set_option maxRecDepth 20000 in
theorem tw_461 : Cond.methodLink RX5 71 yX5_partShares ∈ GW := gw_in (lt_2 (List.mem_of_getElem? (i := 221) rfl)) rfl
set_option maxRecDepth 20000 in
theorem tw_462 : Cond.instanceMethod yX5_partShares ∈ GW := gw_in (lt_2 (List.mem_of_getElem? (i := 222) rfl)) rfl
set_option maxRecDepth 20000 in
theorem tw_463 : Cond.selects RX5 yX5_partShares yX5_partShares ∈ GW := gw_in (lt_2 (List.mem_of_getElem? (i := 223) rfl)) rfl
set_option maxRecDepth 20000 in
theorem tw_464 : Cond.code yX5_partShares cX5_partShares 11 none ∈ GW := gw_in (lt_2 (List.mem_of_getElem? (i := 224) rfl)) rfl
set_option maxRecDepth 20000 in
theorem tw_465 : Cond.methodLink RX5 42 yX6_bitsBelow ∈ GW := gw_in (lt_2 (List.mem_of_getElem? (i := 225) rfl)) rfl
set_option maxRecDepth 20000 in
theorem tw_466 : Cond.methodLink RX5 46 yJ7_fill_53178 ∈ GW := gw_in (lt_2 (List.mem_of_getElem? (i := 226) rfl)) rfl
set_option maxRecDepth 20000 in
theorem tw_467 : Cond.methodLink RX5 62 Lib.Math.min.name ∈ GW := gw_in (lt_2 (List.mem_of_getElem? (i := 227) rfl)) rfl
set_option maxRecDepth 20000 in
theorem tw_468 : Cond.static Lib.Math.min.name ∈ GW := gw_in (lt_2 (List.mem_of_getElem? (i := 228) rfl)) rfl
set_option maxRecDepth 20000 in
theorem tw_469 : Cond.code Lib.Math.min.name Lib.Math.min.code 2 (some .int) ∈ GW := gw_in (lt_2 (List.mem_of_getElem? (i := 229) rfl)) rfl
set_option maxRecDepth 20000 in
theorem tw_470 : Cond.methodLink RX5 75 yX5_measureSwap ∈ GW := gw_in (lt_2 (List.mem_of_getElem? (i := 230) rfl)) rfl
set_option maxRecDepth 20000 in
theorem tw_472 : Cond.instanceMethod yX5_measureSwap ∈ GW := gw_in (lt_2 (List.mem_of_getElem? (i := 232) rfl)) rfl
set_option maxRecDepth 20000 in
theorem tw_473 : Cond.code yX5_measureSwap cX5_measureSwap 7 none ∈ GW := gw_in (lt_2 (List.mem_of_getElem? (i := 233) rfl)) rfl
set_option maxRecDepth 20000 in
theorem tw_474 : Cond.methodLink RX5 95 Lib.Math.max.name ∈ GW := gw_in (lt_2 (List.mem_of_getElem? (i := 234) rfl)) rfl
set_option maxRecDepth 20000 in
theorem tw_475 : Cond.static Lib.Math.max.name ∈ GW := gw_in (lt_2 (List.mem_of_getElem? (i := 235) rfl)) rfl
set_option maxRecDepth 20000 in
theorem tw_476 : Cond.code Lib.Math.max.name Lib.Math.max.code 2 (some .int) ∈ GW := gw_in (lt_2 (List.mem_of_getElem? (i := 236) rfl)) rfl
set_option maxRecDepth 20000 in
theorem tw_477 : Cond.methodLink RX5 83 yX0_sumByGroup ∈ GW := gw_in (lt_2 (List.mem_of_getElem? (i := 237) rfl)) rfl
set_option maxRecDepth 20000 in
theorem tw_478 : Cond.instanceMethod yX0_sumByGroup ∈ GW := gw_in (lt_2 (List.mem_of_getElem? (i := 238) rfl)) rfl
set_option maxRecDepth 20000 in
theorem tw_479 : Cond.selects RX0 yX0_sumByGroup yX0_sumByGroup ∈ GW := gw_in (lt_2 (List.mem_of_getElem? (i := 239) rfl)) rfl
set_option maxRecDepth 20000 in
theorem tw_480 : Cond.code yX0_sumByGroup cX0_sumByGroup 4 none ∈ GW := gw_in (lt_3 (List.mem_of_getElem? (i := 0) rfl)) rfl
set_option maxRecDepth 20000 in
theorem tw_481 : Cond.methodLink RX5 105 yX5_richestGroup ∈ GW := gw_in (lt_3 (List.mem_of_getElem? (i := 1) rfl)) rfl
set_option maxRecDepth 20000 in
theorem tw_482 : Cond.instanceMethod yX5_richestGroup ∈ GW := gw_in (lt_3 (List.mem_of_getElem? (i := 2) rfl)) rfl
set_option maxRecDepth 20000 in
theorem tw_483 : Cond.selects RX5 yX5_richestGroup yX5_richestGroup ∈ GW := gw_in (lt_3 (List.mem_of_getElem? (i := 3) rfl)) rfl
set_option maxRecDepth 20000 in
theorem tw_484 : Cond.code yX5_richestGroup cX5_richestGroup 4 (some .int) ∈ GW := gw_in (lt_3 (List.mem_of_getElem? (i := 4) rfl)) rfl
set_option maxRecDepth 20000 in
theorem tw_485 : Cond.methodLink RX5 109 yX5_takeStep ∈ GW := gw_in (lt_3 (List.mem_of_getElem? (i := 5) rfl)) rfl
set_option maxRecDepth 20000 in
theorem tw_487 : Cond.instanceMethod yX5_takeStep ∈ GW := gw_in (lt_3 (List.mem_of_getElem? (i := 7) rfl)) rfl
set_option maxRecDepth 20000 in
theorem tw_488 : Cond.code yX5_takeStep cX5_takeStep 8 (some .int) ∈ GW := gw_in (lt_3 (List.mem_of_getElem? (i := 8) rfl)) rfl
set_option maxRecDepth 20000 in
theorem tw_489 : Cond.methodLink RX5 116 yX0_richestIn ∈ GW := gw_in (lt_3 (List.mem_of_getElem? (i := 9) rfl)) rfl
set_option maxRecDepth 20000 in
theorem tw_490 : Cond.instanceMethod yX0_richestIn ∈ GW := gw_in (lt_3 (List.mem_of_getElem? (i := 10) rfl)) rfl
set_option maxRecDepth 20000 in
theorem tw_491 : Cond.selects RX0 yX0_richestIn yX0_richestIn ∈ GW := gw_in (lt_3 (List.mem_of_getElem? (i := 11) rfl)) rfl
set_option maxRecDepth 20000 in
theorem tw_492 : Cond.code yX0_richestIn cX0_richestIn 6 (some .int) ∈ GW := gw_in (lt_3 (List.mem_of_getElem? (i := 12) rfl)) rfl
set_option maxRecDepth 20000 in
theorem tw_493 : Cond.methodLink RX5 122 yX8_addPages ∈ GW := gw_in (lt_3 (List.mem_of_getElem? (i := 13) rfl)) rfl
set_option maxRecDepth 20000 in
theorem tw_494 : Cond.instanceMethod yX8_addPages ∈ GW := gw_in (lt_3 (List.mem_of_getElem? (i := 14) rfl)) rfl
set_option maxRecDepth 20000 in
theorem tw_495 : Cond.selects RX8 yX8_addPages yX8_addPages ∈ GW := gw_in (lt_3 (List.mem_of_getElem? (i := 15) rfl)) rfl
set_option maxRecDepth 20000 in
theorem tw_496 : Cond.code yX8_addPages cX8_addPages 4 none ∈ GW := gw_in (lt_3 (List.mem_of_getElem? (i := 16) rfl)) rfl
set_option maxRecDepth 20000 in
theorem tw_497 : Cond.methodLink RX8 91 yX6_addTotal ∈ GW := gw_in (lt_3 (List.mem_of_getElem? (i := 17) rfl)) rfl
set_option maxRecDepth 20000 in
theorem tw_498 : Cond.methodLink RX5 126 yX8_swapOut ∈ GW := gw_in (lt_3 (List.mem_of_getElem? (i := 18) rfl)) rfl
set_option maxRecDepth 20000 in
theorem tw_499 : Cond.instanceMethod yX8_swapOut ∈ GW := gw_in (lt_3 (List.mem_of_getElem? (i := 19) rfl)) rfl
set_option maxRecDepth 20000 in
theorem tw_500 : Cond.selects RX8 yX8_swapOut yX8_swapOut ∈ GW := gw_in (lt_3 (List.mem_of_getElem? (i := 20) rfl)) rfl
set_option maxRecDepth 20000 in
theorem tw_501 : Cond.code yX8_swapOut cX8_swapOut 3 none ∈ GW := gw_in (lt_3 (List.mem_of_getElem? (i := 21) rfl)) rfl
set_option maxRecDepth 20000 in
theorem tw_502 : Cond.methodLink RX8 98 yX6_addOut ∈ GW := gw_in (lt_3 (List.mem_of_getElem? (i := 22) rfl)) rfl
set_option maxRecDepth 20000 in
theorem tw_503 : Cond.instanceMethod yX6_addOut ∈ GW := gw_in (lt_3 (List.mem_of_getElem? (i := 23) rfl)) rfl
set_option maxRecDepth 20000 in
theorem tw_504 : Cond.selects RX6 yX6_addOut yX6_addOut ∈ GW := gw_in (lt_3 (List.mem_of_getElem? (i := 24) rfl)) rfl
set_option maxRecDepth 20000 in
theorem tw_505 : Cond.code yX6_addOut cX6_addOut 5 none ∈ GW := gw_in (lt_3 (List.mem_of_getElem? (i := 25) rfl)) rfl
set_option maxRecDepth 20000 in
theorem tw_506 : Cond.methodLink RX3 69 yX8_strike ∈ GW := gw_in (lt_3 (List.mem_of_getElem? (i := 26) rfl)) rfl
set_option maxRecDepth 20000 in
theorem tw_507 : Cond.instanceMethod yX8_strike ∈ GW := gw_in (lt_3 (List.mem_of_getElem? (i := 27) rfl)) rfl
set_option maxRecDepth 20000 in
theorem tw_508 : Cond.selects RX8 yX8_strike yX8_strike ∈ GW := gw_in (lt_3 (List.mem_of_getElem? (i := 28) rfl)) rfl
set_option maxRecDepth 20000 in
theorem tw_509 : Cond.code yX8_strike cX8_strike 4 (some .int) ∈ GW := gw_in (lt_3 (List.mem_of_getElem? (i := 29) rfl)) rfl
set_option maxRecDepth 20000 in
theorem tw_510 : Cond.methodLink RX8 129 yX8_dyingBelow ∈ GW := gw_in (lt_3 (List.mem_of_getElem? (i := 30) rfl)) rfl
set_option maxRecDepth 20000 in
theorem tw_511 : Cond.instanceMethod yX8_dyingBelow ∈ GW := gw_in (lt_3 (List.mem_of_getElem? (i := 31) rfl)) rfl
set_option maxRecDepth 20000 in
theorem tw_512 : Cond.selects RX8 yX8_dyingBelow yX8_dyingBelow ∈ GW := gw_in (lt_3 (List.mem_of_getElem? (i := 32) rfl)) rfl
set_option maxRecDepth 20000 in
theorem tw_513 : Cond.code yX8_dyingBelow cX8_dyingBelow 6 (some .int) ∈ GW := gw_in (lt_3 (List.mem_of_getElem? (i := 33) rfl)) rfl
set_option maxRecDepth 20000 in
theorem tw_514 : Cond.methodLink RX8 123 yX8_victimBelow ∈ GW := gw_in (lt_3 (List.mem_of_getElem? (i := 34) rfl)) rfl
set_option maxRecDepth 20000 in
theorem tw_515 : Cond.instanceMethod yX8_victimBelow ∈ GW := gw_in (lt_3 (List.mem_of_getElem? (i := 35) rfl)) rfl
set_option maxRecDepth 20000 in
theorem tw_516 : Cond.selects RX8 yX8_victimBelow yX8_victimBelow ∈ GW := gw_in (lt_3 (List.mem_of_getElem? (i := 36) rfl)) rfl
set_option maxRecDepth 20000 in
theorem tw_517 : Cond.code yX8_victimBelow cX8_victimBelow 6 (some .int) ∈ GW := gw_in (lt_3 (List.mem_of_getElem? (i := 37) rfl)) rfl
set_option maxRecDepth 20000 in
theorem tw_518 : Cond.methodLink RX8 73 yX8_bitsOfProcesses ∈ GW := gw_in (lt_3 (List.mem_of_getElem? (i := 38) rfl)) rfl
set_option maxRecDepth 20000 in
theorem tw_519 : Cond.methodLink RX8 120 yX0_badness ∈ GW := gw_in (lt_3 (List.mem_of_getElem? (i := 39) rfl)) rfl
set_option maxRecDepth 20000 in
theorem tw_520 : Cond.instanceMethod yX0_badness ∈ GW := gw_in (lt_3 (List.mem_of_getElem? (i := 40) rfl)) rfl
set_option maxRecDepth 20000 in
theorem tw_521 : Cond.selects RX0 yX0_badness yX0_badness ∈ GW := gw_in (lt_3 (List.mem_of_getElem? (i := 41) rfl)) rfl
set_option maxRecDepth 20000 in
theorem tw_522 : Cond.code yX0_badness cX0_badness 2 (some .int) ∈ GW := gw_in (lt_3 (List.mem_of_getElem? (i := 42) rfl)) rfl
set_option maxRecDepth 20000 in
theorem tw_523 : Cond.methodLink RX0 47 yX0_held ∈ GW := gw_in (lt_3 (List.mem_of_getElem? (i := 43) rfl)) rfl
set_option maxRecDepth 20000 in
theorem tw_524 : Cond.instanceMethod yX0_held ∈ GW := gw_in (lt_3 (List.mem_of_getElem? (i := 44) rfl)) rfl
set_option maxRecDepth 20000 in
theorem tw_525 : Cond.selects RX0 yX0_held yX0_held ∈ GW := gw_in (lt_3 (List.mem_of_getElem? (i := 45) rfl)) rfl
set_option maxRecDepth 20000 in
theorem tw_526 : Cond.code yX0_held cX0_held 2 (some .int) ∈ GW := gw_in (lt_3 (List.mem_of_getElem? (i := 46) rfl)) rfl
set_option maxRecDepth 20000 in
theorem tw_527 : Cond.methodLink RX8 126 yX8_mortalBelow ∈ GW := gw_in (lt_3 (List.mem_of_getElem? (i := 47) rfl)) rfl
set_option maxRecDepth 20000 in
theorem tw_528 : Cond.instanceMethod yX8_mortalBelow ∈ GW := gw_in (lt_3 (List.mem_of_getElem? (i := 48) rfl)) rfl
set_option maxRecDepth 20000 in
theorem tw_529 : Cond.selects RX8 yX8_mortalBelow yX8_mortalBelow ∈ GW := gw_in (lt_3 (List.mem_of_getElem? (i := 49) rfl)) rfl
set_option maxRecDepth 20000 in
theorem tw_530 : Cond.code yX8_mortalBelow cX8_mortalBelow 4 (some .int) ∈ GW := gw_in (lt_3 (List.mem_of_getElem? (i := 50) rfl)) rfl
set_option maxRecDepth 20000 in
theorem tw_531 : Cond.methodLink RX8 132 yX8_bury ∈ GW := gw_in (lt_3 (List.mem_of_getElem? (i := 51) rfl)) rfl
set_option maxRecDepth 20000 in
theorem tw_532 : Cond.instanceMethod yX8_bury ∈ GW := gw_in (lt_3 (List.mem_of_getElem? (i := 52) rfl)) rfl
set_option maxRecDepth 20000 in
theorem tw_533 : Cond.selects RX8 yX8_bury yX8_bury ∈ GW := gw_in (lt_3 (List.mem_of_getElem? (i := 53) rfl)) rfl
set_option maxRecDepth 20000 in
theorem tw_534 : Cond.code yX8_bury cX8_bury 2 none ∈ GW := gw_in (lt_3 (List.mem_of_getElem? (i := 54) rfl)) rfl
set_option maxRecDepth 20000 in
theorem tw_535 : Cond.methodLink RX8 111 yX0_held ∈ GW := gw_in (lt_3 (List.mem_of_getElem? (i := 55) rfl)) rfl
set_option maxRecDepth 20000 in
theorem tw_536 : Cond.methodLink RX8 114 yX0_putProcess ∈ GW := gw_in (lt_3 (List.mem_of_getElem? (i := 56) rfl)) rfl
set_option maxRecDepth 20000 in
theorem tw_537 : Cond.instanceMethod yX0_putProcess ∈ GW := gw_in (lt_3 (List.mem_of_getElem? (i := 57) rfl)) rfl
set_option maxRecDepth 20000 in
theorem tw_538 : Cond.selects RX0 yX0_putProcess yX0_putProcess ∈ GW := gw_in (lt_3 (List.mem_of_getElem? (i := 58) rfl)) rfl
set_option maxRecDepth 20000 in
theorem tw_539 : Cond.code yX0_putProcess cX0_putProcess 4 none ∈ GW := gw_in (lt_3 (List.mem_of_getElem? (i := 59) rfl)) rfl
set_option maxRecDepth 20000 in
theorem tw_540 : Cond.methodLink RX8 76 yJ6_bitCount_0f7a4 ∈ GW := gw_in (lt_3 (List.mem_of_getElem? (i := 60) rfl)) rfl
set_option maxRecDepth 20000 in
theorem tw_541 : Cond.static yJ6_bitCount_0f7a4 ∈ GW := gw_in (lt_3 (List.mem_of_getElem? (i := 61) rfl)) rfl
set_option maxRecDepth 20000 in
theorem tw_542 : Cond.code yJ6_bitCount_0f7a4 cJ6_bitCount_0f7a4 1 (some .int) ∈ GW := gw_in (lt_3 (List.mem_of_getElem? (i := 62) rfl)) rfl
set_option maxRecDepth 20000 in
theorem tw_543 : Cond.constant RJ6 265 (1431655765) ∈ GW := gw_in (lt_3 (List.mem_of_getElem? (i := 63) rfl)) rfl
set_option maxRecDepth 20000 in
theorem tw_544 : Cond.constant RJ6 266 (858993459) ∈ GW := gw_in (lt_3 (List.mem_of_getElem? (i := 64) rfl)) rfl
set_option maxRecDepth 20000 in
theorem tw_545 : Cond.constant RJ6 267 (252645135) ∈ GW := gw_in (lt_3 (List.mem_of_getElem? (i := 65) rfl)) rfl
set_option maxRecDepth 20000 in
theorem tw_546 : Cond.methodLink RL 27 yX9_process ∈ GW := gw_in (lt_3 (List.mem_of_getElem? (i := 66) rfl)) rfl
set_option maxRecDepth 20000 in
theorem tw_547 : Cond.instanceMethod yX9_process ∈ GW := gw_in (lt_3 (List.mem_of_getElem? (i := 67) rfl)) rfl
set_option maxRecDepth 20000 in
theorem tw_548 : Cond.selects RX9 yX9_process yX9_process ∈ GW := gw_in (lt_3 (List.mem_of_getElem? (i := 68) rfl)) rfl
set_option maxRecDepth 20000 in
theorem tw_549 : Cond.code yX9_process cX9_process 3 (some .int) ∈ GW := gw_in (lt_3 (List.mem_of_getElem? (i := 69) rfl)) rfl
set_option maxRecDepth 20000 in
theorem tw_550 : Cond.methodLink RX9 125 yX9_startProcess ∈ GW := gw_in (lt_3 (List.mem_of_getElem? (i := 70) rfl)) rfl
set_option maxRecDepth 20000 in
theorem tw_552 : Cond.instanceMethod yX9_startProcess ∈ GW := gw_in (lt_3 (List.mem_of_getElem? (i := 72) rfl)) rfl
set_option maxRecDepth 20000 in
theorem tw_553 : Cond.code yX9_startProcess cX9_startProcess 4 (some .int) ∈ GW := gw_in (lt_3 (List.mem_of_getElem? (i := 73) rfl)) rfl
set_option maxRecDepth 20000 in
theorem tw_554 : Cond.methodLink RX9 338 yX0_firstFree ∈ GW := gw_in (lt_3 (List.mem_of_getElem? (i := 74) rfl)) rfl
set_option maxRecDepth 20000 in
theorem tw_555 : Cond.instanceMethod yX0_firstFree ∈ GW := gw_in (lt_3 (List.mem_of_getElem? (i := 75) rfl)) rfl
set_option maxRecDepth 20000 in
theorem tw_556 : Cond.selects RX0 yX0_firstFree yX0_firstFree ∈ GW := gw_in (lt_3 (List.mem_of_getElem? (i := 76) rfl)) rfl
set_option maxRecDepth 20000 in
theorem tw_557 : Cond.code yX0_firstFree cX0_firstFree 2 (some .int) ∈ GW := gw_in (lt_3 (List.mem_of_getElem? (i := 77) rfl)) rfl
set_option maxRecDepth 20000 in
theorem tw_558 : Cond.methodLink RX9 339 yX8_pidsFull ∈ GW := gw_in (lt_3 (List.mem_of_getElem? (i := 78) rfl)) rfl
set_option maxRecDepth 20000 in
theorem tw_559 : Cond.instanceMethod yX8_pidsFull ∈ GW := gw_in (lt_3 (List.mem_of_getElem? (i := 79) rfl)) rfl
set_option maxRecDepth 20000 in
theorem tw_560 : Cond.selects RX8 yX8_pidsFull yX8_pidsFull ∈ GW := gw_in (lt_3 (List.mem_of_getElem? (i := 80) rfl)) rfl
set_option maxRecDepth 20000 in
theorem tw_561 : Cond.code yX8_pidsFull cX8_pidsFull 5 (some .boolean) ∈ GW := gw_in (lt_3 (List.mem_of_getElem? (i := 81) rfl)) rfl
set_option maxRecDepth 20000 in
theorem tw_562 : Cond.methodLink RX9 342 yX0_putProcess ∈ GW := gw_in (lt_3 (List.mem_of_getElem? (i := 82) rfl)) rfl
set_option maxRecDepth 20000 in
theorem tw_563 : Cond.methodLink RL 32 yX9_fork ∈ GW := gw_in (lt_3 (List.mem_of_getElem? (i := 83) rfl)) rfl
set_option maxRecDepth 20000 in
theorem tw_564 : Cond.instanceMethod yX9_fork ∈ GW := gw_in (lt_3 (List.mem_of_getElem? (i := 84) rfl)) rfl
set_option maxRecDepth 20000 in
theorem tw_565 : Cond.selects RX9 yX9_fork yX9_fork ∈ GW := gw_in (lt_3 (List.mem_of_getElem? (i := 85) rfl)) rfl
set_option maxRecDepth 20000 in
theorem tw_566 : Cond.code yX9_fork cX9_fork 2 (some .int) ∈ GW := gw_in (lt_3 (List.mem_of_getElem? (i := 86) rfl)) rfl
set_option maxRecDepth 20000 in
theorem tw_567 : Cond.methodLink RX9 133 yX0_has ∈ GW := gw_in (lt_3 (List.mem_of_getElem? (i := 87) rfl)) rfl
set_option maxRecDepth 20000 in
theorem tw_568 : Cond.instanceMethod yX0_has ∈ GW := gw_in (lt_3 (List.mem_of_getElem? (i := 88) rfl)) rfl
set_option maxRecDepth 20000 in
theorem tw_569 : Cond.selects RX0 yX0_has yX0_has ∈ GW := gw_in (lt_3 (List.mem_of_getElem? (i := 89) rfl)) rfl
set_option maxRecDepth 20000 in
theorem tw_570 : Cond.code yX0_has cX0_has 2 (some .boolean) ∈ GW := gw_in (lt_3 (List.mem_of_getElem? (i := 90) rfl)) rfl
set_option maxRecDepth 20000 in
theorem tw_571 : Cond.methodLink RL 36 yX9_charge ∈ GW := gw_in (lt_3 (List.mem_of_getElem? (i := 91) rfl)) rfl
set_option maxRecDepth 20000 in
theorem tw_572 : Cond.instanceMethod yX9_charge ∈ GW := gw_in (lt_3 (List.mem_of_getElem? (i := 92) rfl)) rfl
set_option maxRecDepth 20000 in
theorem tw_573 : Cond.selects RX9 yX9_charge yX9_charge ∈ GW := gw_in (lt_3 (List.mem_of_getElem? (i := 93) rfl)) rfl
set_option maxRecDepth 20000 in
theorem tw_574 : Cond.code yX9_charge cX9_charge 5 (some .int) ∈ GW := gw_in (lt_3 (List.mem_of_getElem? (i := 94) rfl)) rfl
set_option maxRecDepth 20000 in
theorem tw_575 : Cond.methodLink RX9 142 yX9_wrongCharge ∈ GW := gw_in (lt_3 (List.mem_of_getElem? (i := 95) rfl)) rfl
set_option maxRecDepth 20000 in
theorem tw_577 : Cond.instanceMethod yX9_wrongCharge ∈ GW := gw_in (lt_3 (List.mem_of_getElem? (i := 97) rfl)) rfl
set_option maxRecDepth 20000 in
theorem tw_578 : Cond.code yX9_wrongCharge cX9_wrongCharge 4 (some .int) ∈ GW := gw_in (lt_3 (List.mem_of_getElem? (i := 98) rfl)) rfl
set_option maxRecDepth 20000 in
theorem tw_579 : Cond.methodLink RX9 146 yX3_admit ∈ GW := gw_in (lt_3 (List.mem_of_getElem? (i := 99) rfl)) rfl
set_option maxRecDepth 20000 in
theorem tw_580 : Cond.instanceMethod yX3_admit ∈ GW := gw_in (lt_3 (List.mem_of_getElem? (i := 100) rfl)) rfl
set_option maxRecDepth 20000 in
theorem tw_581 : Cond.selects RX3 yX3_admit yX3_admit ∈ GW := gw_in (lt_3 (List.mem_of_getElem? (i := 101) rfl)) rfl
set_option maxRecDepth 20000 in
theorem tw_582 : Cond.code yX3_admit cX3_admit 8 (some .int) ∈ GW := gw_in (lt_3 (List.mem_of_getElem? (i := 102) rfl)) rfl
set_option maxRecDepth 20000 in
theorem tw_583 : Cond.methodLink RX3 36 yX6_addStock ∈ GW := gw_in (lt_3 (List.mem_of_getElem? (i := 103) rfl)) rfl
set_option maxRecDepth 20000 in
theorem tw_584 : Cond.methodLink RX3 40 yX8_addPages ∈ GW := gw_in (lt_3 (List.mem_of_getElem? (i := 104) rfl)) rfl
set_option maxRecDepth 20000 in
theorem tw_585 : Cond.methodLink RX3 48 Lib.Math.max.name ∈ GW := gw_in (lt_3 (List.mem_of_getElem? (i := 105) rfl)) rfl
set_option maxRecDepth 20000 in
theorem tw_586 : Cond.methodLink RX3 54 yX6_firstAboveMax ∈ GW := gw_in (lt_3 (List.mem_of_getElem? (i := 106) rfl)) rfl
set_option maxRecDepth 20000 in
theorem tw_587 : Cond.instanceMethod yX6_firstAboveMax ∈ GW := gw_in (lt_3 (List.mem_of_getElem? (i := 107) rfl)) rfl
set_option maxRecDepth 20000 in
theorem tw_588 : Cond.selects RX6 yX6_firstAboveMax yX6_firstAboveMax ∈ GW := gw_in (lt_3 (List.mem_of_getElem? (i := 108) rfl)) rfl
set_option maxRecDepth 20000 in
theorem tw_589 : Cond.code yX6_firstAboveMax cX6_firstAboveMax 5 (some .int) ∈ GW := gw_in (lt_3 (List.mem_of_getElem? (i := 109) rfl)) rfl
set_option maxRecDepth 20000 in
theorem tw_590 : Cond.methodLink RX3 57 yX3_makeRoom ∈ GW := gw_in (lt_3 (List.mem_of_getElem? (i := 110) rfl)) rfl
set_option maxRecDepth 20000 in
theorem tw_592 : Cond.instanceMethod yX3_makeRoom ∈ GW := gw_in (lt_3 (List.mem_of_getElem? (i := 112) rfl)) rfl
set_option maxRecDepth 20000 in
theorem tw_593 : Cond.code yX3_makeRoom cX3_makeRoom 9 (some .int) ∈ GW := gw_in (lt_3 (List.mem_of_getElem? (i := 113) rfl)) rfl
set_option maxRecDepth 20000 in
theorem tw_594 : Cond.methodLink RX3 65 yX3_fitsUnderMax ∈ GW := gw_in (lt_3 (List.mem_of_getElem? (i := 114) rfl)) rfl
set_option maxRecDepth 20000 in
theorem tw_596 : Cond.instanceMethod yX3_fitsUnderMax ∈ GW := gw_in (lt_3 (List.mem_of_getElem? (i := 116) rfl)) rfl
set_option maxRecDepth 20000 in
theorem tw_597 : Cond.code yX3_fitsUnderMax cX3_fitsUnderMax 5 (some .boolean) ∈ GW := gw_in (lt_3 (List.mem_of_getElem? (i := 117) rfl)) rfl
set_option maxRecDepth 20000 in
theorem tw_599 : Cond.static yX9_outlives ∈ GW := gw_in (lt_3 (List.mem_of_getElem? (i := 119) rfl)) rfl
set_option maxRecDepth 20000 in
theorem tw_600 : Cond.code yX9_outlives cX9_outlives 1 (some .boolean) ∈ GW := gw_in (lt_3 (List.mem_of_getElem? (i := 120) rfl)) rfl
set_option maxRecDepth 20000 in
theorem tw_601 : Cond.methodLink RX9 149 yX3_pressToHigh ∈ GW := gw_in (lt_3 (List.mem_of_getElem? (i := 121) rfl)) rfl
set_option maxRecDepth 20000 in
theorem tw_602 : Cond.instanceMethod yX3_pressToHigh ∈ GW := gw_in (lt_3 (List.mem_of_getElem? (i := 122) rfl)) rfl
set_option maxRecDepth 20000 in
theorem tw_603 : Cond.selects RX3 yX3_pressToHigh yX3_pressToHigh ∈ GW := gw_in (lt_3 (List.mem_of_getElem? (i := 123) rfl)) rfl
set_option maxRecDepth 20000 in
theorem tw_604 : Cond.code yX3_pressToHigh cX3_pressToHigh 8 (some .int) ∈ GW := gw_in (lt_3 (List.mem_of_getElem? (i := 124) rfl)) rfl
set_option maxRecDepth 20000 in
theorem tw_606 : Cond.static yX9_stallFor ∈ GW := gw_in (lt_3 (List.mem_of_getElem? (i := 126) rfl)) rfl
set_option maxRecDepth 20000 in
theorem tw_607 : Cond.code yX9_stallFor cX9_stallFor 1 (some .int) ∈ GW := gw_in (lt_3 (List.mem_of_getElem? (i := 127) rfl)) rfl
set_option maxRecDepth 20000 in
theorem tw_608 : Cond.methodLink RX3 91 yX0_addStall ∈ GW := gw_in (lt_3 (List.mem_of_getElem? (i := 128) rfl)) rfl
set_option maxRecDepth 20000 in
theorem tw_609 : Cond.instanceMethod yX0_addStall ∈ GW := gw_in (lt_3 (List.mem_of_getElem? (i := 129) rfl)) rfl
set_option maxRecDepth 20000 in
theorem tw_610 : Cond.selects RX0 yX0_addStall yX0_addStall ∈ GW := gw_in (lt_3 (List.mem_of_getElem? (i := 130) rfl)) rfl
set_option maxRecDepth 20000 in
theorem tw_611 : Cond.code yX0_addStall cX0_addStall 3 none ∈ GW := gw_in (lt_3 (List.mem_of_getElem? (i := 131) rfl)) rfl
set_option maxRecDepth 20000 in
theorem tw_612 : Cond.methodLink RX0 55 Lib.Math.min.name ∈ GW := gw_in (lt_3 (List.mem_of_getElem? (i := 132) rfl)) rfl
set_option maxRecDepth 20000 in
theorem tw_613 : Cond.methodLink RL 40 yX9_uncharge ∈ GW := gw_in (lt_3 (List.mem_of_getElem? (i := 133) rfl)) rfl
set_option maxRecDepth 20000 in
theorem tw_614 : Cond.instanceMethod yX9_uncharge ∈ GW := gw_in (lt_3 (List.mem_of_getElem? (i := 134) rfl)) rfl
set_option maxRecDepth 20000 in
theorem tw_615 : Cond.selects RX9 yX9_uncharge yX9_uncharge ∈ GW := gw_in (lt_3 (List.mem_of_getElem? (i := 135) rfl)) rfl
set_option maxRecDepth 20000 in
theorem tw_616 : Cond.code yX9_uncharge cX9_uncharge 5 (some .int) ∈ GW := gw_in (lt_3 (List.mem_of_getElem? (i := 136) rfl)) rfl
set_option maxRecDepth 20000 in
theorem tw_617 : Cond.methodLink RX9 157 yX8_giveBack ∈ GW := gw_in (lt_3 (List.mem_of_getElem? (i := 137) rfl)) rfl
set_option maxRecDepth 20000 in
theorem tw_618 : Cond.instanceMethod yX8_giveBack ∈ GW := gw_in (lt_3 (List.mem_of_getElem? (i := 138) rfl)) rfl
set_option maxRecDepth 20000 in
theorem tw_619 : Cond.selects RX8 yX8_giveBack yX8_giveBack ∈ GW := gw_in (lt_3 (List.mem_of_getElem? (i := 139) rfl)) rfl
set_option maxRecDepth 20000 in
theorem tw_620 : Cond.code yX8_giveBack cX8_giveBack 5 none ∈ GW := gw_in (lt_3 (List.mem_of_getElem? (i := 140) rfl)) rfl
set_option maxRecDepth 20000 in
theorem tw_621 : Cond.methodLink RX8 101 yX8_addPages ∈ GW := gw_in (lt_3 (List.mem_of_getElem? (i := 141) rfl)) rfl
set_option maxRecDepth 20000 in
theorem tw_622 : Cond.methodLink RX8 105 yX6_addStock ∈ GW := gw_in (lt_3 (List.mem_of_getElem? (i := 142) rfl)) rfl
set_option maxRecDepth 20000 in
theorem tw_623 : Cond.methodLink RL 44 yX9_use ∈ GW := gw_in (lt_3 (List.mem_of_getElem? (i := 143) rfl)) rfl
set_option maxRecDepth 20000 in
theorem tw_624 : Cond.instanceMethod yX9_use ∈ GW := gw_in (lt_3 (List.mem_of_getElem? (i := 144) rfl)) rfl
set_option maxRecDepth 20000 in
theorem tw_625 : Cond.selects RX9 yX9_use yX9_use ∈ GW := gw_in (lt_3 (List.mem_of_getElem? (i := 145) rfl)) rfl
set_option maxRecDepth 20000 in
theorem tw_626 : Cond.code yX9_use cX9_use 4 (some .int) ∈ GW := gw_in (lt_3 (List.mem_of_getElem? (i := 146) rfl)) rfl
set_option maxRecDepth 20000 in
theorem tw_627 : Cond.methodLink RX9 164 yX9_outlives ∈ GW := gw_in (lt_3 (List.mem_of_getElem? (i := 147) rfl)) rfl
set_option maxRecDepth 20000 in
theorem tw_628 : Cond.methodLink RX9 167 yX8_swapOut ∈ GW := gw_in (lt_3 (List.mem_of_getElem? (i := 148) rfl)) rfl
set_option maxRecDepth 20000 in
theorem tw_629 : Cond.methodLink RX9 170 yX9_stallFor ∈ GW := gw_in (lt_3 (List.mem_of_getElem? (i := 149) rfl)) rfl
set_option maxRecDepth 20000 in
theorem tw_630 : Cond.methodLink RX9 173 yX0_addStall ∈ GW := gw_in (lt_3 (List.mem_of_getElem? (i := 150) rfl)) rfl
set_option maxRecDepth 20000 in
theorem tw_631 : Cond.methodLink RL 48 yX9_work ∈ GW := gw_in (lt_3 (List.mem_of_getElem? (i := 151) rfl)) rfl
set_option maxRecDepth 20000 in
theorem tw_632 : Cond.instanceMethod yX9_work ∈ GW := gw_in (lt_3 (List.mem_of_getElem? (i := 152) rfl)) rfl
set_option maxRecDepth 20000 in
theorem tw_633 : Cond.selects RX9 yX9_work yX9_work ∈ GW := gw_in (lt_3 (List.mem_of_getElem? (i := 153) rfl)) rfl
set_option maxRecDepth 20000 in
theorem tw_634 : Cond.code yX9_work cX9_work 3 (some .int) ∈ GW := gw_in (lt_3 (List.mem_of_getElem? (i := 154) rfl)) rfl
set_option maxRecDepth 20000 in
theorem tw_635 : Cond.methodLink RX9 179 Lib.Math.min.name ∈ GW := gw_in (lt_3 (List.mem_of_getElem? (i := 155) rfl)) rfl
set_option maxRecDepth 20000 in
theorem tw_636 : Cond.methodLink RL 52 yX9_move ∈ GW := gw_in (lt_3 (List.mem_of_getElem? (i := 156) rfl)) rfl
set_option maxRecDepth 20000 in
theorem tw_637 : Cond.instanceMethod yX9_move ∈ GW := gw_in (lt_3 (List.mem_of_getElem? (i := 157) rfl)) rfl
set_option maxRecDepth 20000 in
theorem tw_638 : Cond.selects RX9 yX9_move yX9_move ∈ GW := gw_in (lt_3 (List.mem_of_getElem? (i := 158) rfl)) rfl
set_option maxRecDepth 20000 in
theorem tw_639 : Cond.code yX9_move cX9_move 3 (some .int) ∈ GW := gw_in (lt_3 (List.mem_of_getElem? (i := 159) rfl)) rfl
set_option maxRecDepth 20000 in
theorem tw_640 : Cond.methodLink RX9 184 yX3_moveProcess ∈ GW := gw_in (lt_3 (List.mem_of_getElem? (i := 160) rfl)) rfl
set_option maxRecDepth 20000 in
theorem tw_641 : Cond.instanceMethod yX3_moveProcess ∈ GW := gw_in (lt_3 (List.mem_of_getElem? (i := 161) rfl)) rfl
set_option maxRecDepth 20000 in
theorem tw_642 : Cond.selects RX3 yX3_moveProcess yX3_moveProcess ∈ GW := gw_in (lt_3 (List.mem_of_getElem? (i := 162) rfl)) rfl
set_option maxRecDepth 20000 in
theorem tw_643 : Cond.code yX3_moveProcess cX3_moveProcess 10 (some .int) ∈ GW := gw_in (lt_3 (List.mem_of_getElem? (i := 163) rfl)) rfl
set_option maxRecDepth 20000 in
theorem tw_644 : Cond.methodLink RX3 97 yX6_lowestCommon ∈ GW := gw_in (lt_3 (List.mem_of_getElem? (i := 164) rfl)) rfl
set_option maxRecDepth 20000 in
theorem tw_645 : Cond.instanceMethod yX6_lowestCommon ∈ GW := gw_in (lt_3 (List.mem_of_getElem? (i := 165) rfl)) rfl
set_option maxRecDepth 20000 in
theorem tw_646 : Cond.selects RX6 yX6_lowestCommon yX6_lowestCommon ∈ GW := gw_in (lt_3 (List.mem_of_getElem? (i := 166) rfl)) rfl
set_option maxRecDepth 20000 in
theorem tw_647 : Cond.code yX6_lowestCommon cX6_lowestCommon 6 (some .int) ∈ GW := gw_in (lt_3 (List.mem_of_getElem? (i := 167) rfl)) rfl
set_option maxRecDepth 20000 in
theorem tw_648 : Cond.methodLink RX6 64 yX6_pathBits ∈ GW := gw_in (lt_3 (List.mem_of_getElem? (i := 168) rfl)) rfl
set_option maxRecDepth 20000 in
theorem tw_649 : Cond.instanceMethod yX6_pathBits ∈ GW := gw_in (lt_3 (List.mem_of_getElem? (i := 169) rfl)) rfl
set_option maxRecDepth 20000 in
theorem tw_650 : Cond.selects RX6 yX6_pathBits yX6_pathBits ∈ GW := gw_in (lt_3 (List.mem_of_getElem? (i := 170) rfl)) rfl
set_option maxRecDepth 20000 in
theorem tw_651 : Cond.code yX6_pathBits cX6_pathBits 5 (some .int) ∈ GW := gw_in (lt_3 (List.mem_of_getElem? (i := 171) rfl)) rfl
set_option maxRecDepth 20000 in
theorem tw_652 : Cond.methodLink RX3 100 yX3_mayNotJoin ∈ GW := gw_in (lt_3 (List.mem_of_getElem? (i := 172) rfl)) rfl
set_option maxRecDepth 20000 in
theorem tw_654 : Cond.instanceMethod yX3_mayNotJoin ∈ GW := gw_in (lt_3 (List.mem_of_getElem? (i := 174) rfl)) rfl
set_option maxRecDepth 20000 in
theorem tw_655 : Cond.code yX3_mayNotJoin cX3_mayNotJoin 8 (some .boolean) ∈ GW := gw_in (lt_3 (List.mem_of_getElem? (i := 175) rfl)) rfl
set_option maxRecDepth 20000 in
theorem tw_656 : Cond.methodLink RX3 110 yX8_pidsFull ∈ GW := gw_in (lt_3 (List.mem_of_getElem? (i := 176) rfl)) rfl
set_option maxRecDepth 20000 in
theorem tw_657 : Cond.methodLink RX3 104 yX0_held ∈ GW := gw_in (lt_3 (List.mem_of_getElem? (i := 177) rfl)) rfl
set_option maxRecDepth 20000 in
theorem tw_658 : Cond.methodLink RX3 107 yX8_relocate ∈ GW := gw_in (lt_3 (List.mem_of_getElem? (i := 178) rfl)) rfl
set_option maxRecDepth 20000 in
theorem tw_659 : Cond.instanceMethod yX8_relocate ∈ GW := gw_in (lt_3 (List.mem_of_getElem? (i := 179) rfl)) rfl
set_option maxRecDepth 20000 in
theorem tw_660 : Cond.selects RX8 yX8_relocate yX8_relocate ∈ GW := gw_in (lt_3 (List.mem_of_getElem? (i := 180) rfl)) rfl
set_option maxRecDepth 20000 in
theorem tw_661 : Cond.code yX8_relocate cX8_relocate 3 none ∈ GW := gw_in (lt_3 (List.mem_of_getElem? (i := 181) rfl)) rfl
set_option maxRecDepth 20000 in
theorem tw_662 : Cond.methodLink RL 56 yX9_kill ∈ GW := gw_in (lt_3 (List.mem_of_getElem? (i := 182) rfl)) rfl
set_option maxRecDepth 20000 in
theorem tw_663 : Cond.instanceMethod yX9_kill ∈ GW := gw_in (lt_3 (List.mem_of_getElem? (i := 183) rfl)) rfl
set_option maxRecDepth 20000 in
theorem tw_664 : Cond.selects RX9 yX9_kill yX9_kill ∈ GW := gw_in (lt_3 (List.mem_of_getElem? (i := 184) rfl)) rfl
set_option maxRecDepth 20000 in
theorem tw_665 : Cond.code yX9_kill cX9_kill 3 (some .int) ∈ GW := gw_in (lt_3 (List.mem_of_getElem? (i := 185) rfl)) rfl
set_option maxRecDepth 20000 in
theorem tw_666 : Cond.methodLink RX9 187 yX0_held ∈ GW := gw_in (lt_3 (List.mem_of_getElem? (i := 186) rfl)) rfl
set_option maxRecDepth 20000 in
theorem tw_667 : Cond.methodLink RX9 190 yX8_bury ∈ GW := gw_in (lt_3 (List.mem_of_getElem? (i := 187) rfl)) rfl
set_option maxRecDepth 20000 in
theorem tw_668 : Cond.methodLink RL 60 yX9_take ∈ GW := gw_in (lt_3 (List.mem_of_getElem? (i := 188) rfl)) rfl
set_option maxRecDepth 20000 in
theorem tw_669 : Cond.instanceMethod yX9_take ∈ GW := gw_in (lt_3 (List.mem_of_getElem? (i := 189) rfl)) rfl
set_option maxRecDepth 20000 in
theorem tw_670 : Cond.selects RX9 yX9_take yX9_take ∈ GW := gw_in (lt_3 (List.mem_of_getElem? (i := 190) rfl)) rfl
set_option maxRecDepth 20000 in
theorem tw_671 : Cond.code yX9_take cX9_take 3 (some .int) ∈ GW := gw_in (lt_3 (List.mem_of_getElem? (i := 191) rfl)) rfl
set_option maxRecDepth 20000 in
theorem tw_672 : Cond.methodLink RX9 193 yX5_takePages ∈ GW := gw_in (lt_3 (List.mem_of_getElem? (i := 192) rfl)) rfl
set_option maxRecDepth 20000 in
theorem tw_673 : Cond.methodLink RL 64 yX9_drain ∈ GW := gw_in (lt_3 (List.mem_of_getElem? (i := 193) rfl)) rfl
set_option maxRecDepth 20000 in
theorem tw_674 : Cond.instanceMethod yX9_drain ∈ GW := gw_in (lt_3 (List.mem_of_getElem? (i := 194) rfl)) rfl
set_option maxRecDepth 20000 in
theorem tw_675 : Cond.selects RX9 yX9_drain yX9_drain ∈ GW := gw_in (lt_3 (List.mem_of_getElem? (i := 195) rfl)) rfl
set_option maxRecDepth 20000 in
theorem tw_676 : Cond.code yX9_drain cX9_drain 2 (some .int) ∈ GW := gw_in (lt_3 (List.mem_of_getElem? (i := 196) rfl)) rfl
set_option maxRecDepth 20000 in
theorem tw_677 : Cond.methodLink RX9 196 yX6_emptyStocks ∈ GW := gw_in (lt_3 (List.mem_of_getElem? (i := 197) rfl)) rfl
set_option maxRecDepth 20000 in
theorem tw_678 : Cond.methodLink RL 68 yX9_batch ∈ GW := gw_in (lt_3 (List.mem_of_getElem? (i := 198) rfl)) rfl
set_option maxRecDepth 20000 in
theorem tw_679 : Cond.instanceMethod yX9_batch ∈ GW := gw_in (lt_3 (List.mem_of_getElem? (i := 199) rfl)) rfl
set_option maxRecDepth 20000 in
theorem tw_680 : Cond.selects RX9 yX9_batch yX9_batch ∈ GW := gw_in (lt_3 (List.mem_of_getElem? (i := 200) rfl)) rfl
set_option maxRecDepth 20000 in
theorem tw_681 : Cond.code yX9_batch cX9_batch 3 (some .int) ∈ GW := gw_in (lt_3 (List.mem_of_getElem? (i := 201) rfl)) rfl
set_option maxRecDepth 20000 in
theorem tw_682 : Cond.methodLink RL 72 yX9_swap ∈ GW := gw_in (lt_3 (List.mem_of_getElem? (i := 202) rfl)) rfl
set_option maxRecDepth 20000 in
theorem tw_683 : Cond.instanceMethod yX9_swap ∈ GW := gw_in (lt_3 (List.mem_of_getElem? (i := 203) rfl)) rfl
set_option maxRecDepth 20000 in
theorem tw_684 : Cond.selects RX9 yX9_swap yX9_swap ∈ GW := gw_in (lt_3 (List.mem_of_getElem? (i := 204) rfl)) rfl
set_option maxRecDepth 20000 in
theorem tw_685 : Cond.code yX9_swap cX9_swap 3 (some .int) ∈ GW := gw_in (lt_3 (List.mem_of_getElem? (i := 205) rfl)) rfl
set_option maxRecDepth 20000 in
theorem tw_686 : Cond.methodLink RL 76 yX9_cap ∈ GW := gw_in (lt_3 (List.mem_of_getElem? (i := 206) rfl)) rfl
set_option maxRecDepth 20000 in
theorem tw_687 : Cond.instanceMethod yX9_cap ∈ GW := gw_in (lt_3 (List.mem_of_getElem? (i := 207) rfl)) rfl
set_option maxRecDepth 20000 in
theorem tw_688 : Cond.selects RX9 yX9_cap yX9_cap ∈ GW := gw_in (lt_3 (List.mem_of_getElem? (i := 208) rfl)) rfl
set_option maxRecDepth 20000 in
theorem tw_689 : Cond.code yX9_cap cX9_cap 3 (some .int) ∈ GW := gw_in (lt_3 (List.mem_of_getElem? (i := 209) rfl)) rfl
set_option maxRecDepth 20000 in
theorem tw_690 : Cond.methodLink RL 80 yX9_tick ∈ GW := gw_in (lt_3 (List.mem_of_getElem? (i := 210) rfl)) rfl
set_option maxRecDepth 20000 in
theorem tw_691 : Cond.instanceMethod yX9_tick ∈ GW := gw_in (lt_3 (List.mem_of_getElem? (i := 211) rfl)) rfl
set_option maxRecDepth 20000 in
theorem tw_692 : Cond.selects RX9 yX9_tick yX9_tick ∈ GW := gw_in (lt_3 (List.mem_of_getElem? (i := 212) rfl)) rfl
set_option maxRecDepth 20000 in
theorem tw_693 : Cond.code yX9_tick cX9_tick 3 (some .int) ∈ GW := gw_in (lt_3 (List.mem_of_getElem? (i := 213) rfl)) rfl
set_option maxRecDepth 20000 in
theorem tw_694 : Cond.methodLink RX9 212 yX2_doWork ∈ GW := gw_in (lt_3 (List.mem_of_getElem? (i := 214) rfl)) rfl
set_option maxRecDepth 20000 in
theorem tw_695 : Cond.instanceMethod yX2_doWork ∈ GW := gw_in (lt_3 (List.mem_of_getElem? (i := 215) rfl)) rfl
set_option maxRecDepth 20000 in
theorem tw_696 : Cond.selects RX2 yX2_doWork yX2_doWork ∈ GW := gw_in (lt_3 (List.mem_of_getElem? (i := 216) rfl)) rfl
set_option maxRecDepth 20000 in
theorem tw_697 : Cond.code yX2_doWork cX2_doWork 3 none ∈ GW := gw_in (lt_3 (List.mem_of_getElem? (i := 217) rfl)) rfl
set_option maxRecDepth 20000 in
theorem tw_698 : Cond.methodLink RX2 22 yJ7_fill_53178 ∈ GW := gw_in (lt_3 (List.mem_of_getElem? (i := 218) rfl)) rfl
set_option maxRecDepth 20000 in
theorem tw_699 : Cond.methodLink RX2 62 yX2_plan ∈ GW := gw_in (lt_3 (List.mem_of_getElem? (i := 219) rfl)) rfl
set_option maxRecDepth 20000 in
theorem tw_700 : Cond.instanceMethod yX2_plan ∈ GW := gw_in (lt_3 (List.mem_of_getElem? (i := 220) rfl)) rfl
set_option maxRecDepth 20000 in
theorem tw_701 : Cond.selects RX2 yX2_plan yX2_plan ∈ GW := gw_in (lt_3 (List.mem_of_getElem? (i := 221) rfl)) rfl
set_option maxRecDepth 20000 in
theorem tw_702 : Cond.code yX2_plan cX2_plan 6 none ∈ GW := gw_in (lt_3 (List.mem_of_getElem? (i := 222) rfl)) rfl
set_option maxRecDepth 20000 in
theorem tw_703 : Cond.methodLink RX2 18 yX2_collectAsks ∈ GW := gw_in (lt_3 (List.mem_of_getElem? (i := 223) rfl)) rfl
set_option maxRecDepth 20000 in
theorem tw_705 : Cond.instanceMethod yX2_collectAsks ∈ GW := gw_in (lt_3 (List.mem_of_getElem? (i := 225) rfl)) rfl
set_option maxRecDepth 20000 in
theorem tw_706 : Cond.code yX2_collectAsks cX2_collectAsks 4 none ∈ GW := gw_in (lt_3 (List.mem_of_getElem? (i := 226) rfl)) rfl
set_option maxRecDepth 20000 in
theorem tw_707 : Cond.methodLink RX2 83 yX2_quotaLeft ∈ GW := gw_in (lt_3 (List.mem_of_getElem? (i := 227) rfl)) rfl
set_option maxRecDepth 20000 in
theorem tw_708 : Cond.static yX2_quotaLeft ∈ GW := gw_in (lt_3 (List.mem_of_getElem? (i := 228) rfl)) rfl
set_option maxRecDepth 20000 in
theorem tw_709 : Cond.code yX2_quotaLeft cX2_quotaLeft 4 (some .int) ∈ GW := gw_in (lt_3 (List.mem_of_getElem? (i := 229) rfl)) rfl
set_option maxRecDepth 20000 in
theorem tw_710 : Cond.methodLink RX2 94 Lib.Math.max.name ∈ GW := gw_in (lt_3 (List.mem_of_getElem? (i := 230) rfl)) rfl
set_option maxRecDepth 20000 in
theorem tw_711 : Cond.methodLink RX2 34 Lib.Math.min.name ∈ GW := gw_in (lt_3 (List.mem_of_getElem? (i := 231) rfl)) rfl
set_option maxRecDepth 20000 in
theorem tw_712 : Cond.methodLink RX2 52 yX2_giveRound ∈ GW := gw_in (lt_3 (List.mem_of_getElem? (i := 232) rfl)) rfl
set_option maxRecDepth 20000 in
theorem tw_714 : Cond.instanceMethod yX2_giveRound ∈ GW := gw_in (lt_3 (List.mem_of_getElem? (i := 234) rfl)) rfl
set_option maxRecDepth 20000 in
theorem tw_715 : Cond.code yX2_giveRound cX2_giveRound 9 (some .int) ∈ GW := gw_in (lt_3 (List.mem_of_getElem? (i := 235) rfl)) rfl
set_option maxRecDepth 20000 in
theorem tw_716 : Cond.methodLink RX2 97 yX2_askingWeight ∈ GW := gw_in (lt_3 (List.mem_of_getElem? (i := 236) rfl)) rfl
set_option maxRecDepth 20000 in
theorem tw_718 : Cond.instanceMethod yX2_askingWeight ∈ GW := gw_in (lt_3 (List.mem_of_getElem? (i := 238) rfl)) rfl
set_option maxRecDepth 20000 in
theorem tw_719 : Cond.code yX2_askingWeight cX2_askingWeight 4 (some .int) ∈ GW := gw_in (lt_3 (List.mem_of_getElem? (i := 239) rfl)) rfl
set_option maxRecDepth 20000 in
theorem tw_720 : Cond.methodLink RX9 215 yX8_noteStalls ∈ GW := gw_in (lt_4 (List.mem_of_getElem? (i := 0) rfl)) rfl
set_option maxRecDepth 20000 in
theorem tw_721 : Cond.instanceMethod yX8_noteStalls ∈ GW := gw_in (lt_4 (List.mem_of_getElem? (i := 1) rfl)) rfl
set_option maxRecDepth 20000 in
theorem tw_722 : Cond.selects RX8 yX8_noteStalls yX8_noteStalls ∈ GW := gw_in (lt_4 (List.mem_of_getElem? (i := 2) rfl)) rfl
set_option maxRecDepth 20000 in
theorem tw_723 : Cond.code yX8_noteStalls cX8_noteStalls 6 none ∈ GW := gw_in (lt_4 (List.mem_of_getElem? (i := 3) rfl)) rfl
set_option maxRecDepth 20000 in
theorem tw_724 : Cond.methodLink RX8 139 yX6_pathBits ∈ GW := gw_in (lt_4 (List.mem_of_getElem? (i := 4) rfl)) rfl
set_option maxRecDepth 20000 in
theorem tw_725 : Cond.methodLink RX8 154 yX1_note ∈ GW := gw_in (lt_4 (List.mem_of_getElem? (i := 5) rfl)) rfl
set_option maxRecDepth 20000 in
theorem tw_726 : Cond.instanceMethod yX1_note ∈ GW := gw_in (lt_4 (List.mem_of_getElem? (i := 6) rfl)) rfl
set_option maxRecDepth 20000 in
theorem tw_727 : Cond.selects RX1 yX1_note yX1_note ∈ GW := gw_in (lt_4 (List.mem_of_getElem? (i := 7) rfl)) rfl
set_option maxRecDepth 20000 in
theorem tw_728 : Cond.code yX1_note cX1_note 7 none ∈ GW := gw_in (lt_4 (List.mem_of_getElem? (i := 8) rfl)) rfl
set_option maxRecDepth 20000 in
theorem tw_731 : Cond.methodLink RX8 158 yX7_fire ∈ GW := gw_in (lt_4 (List.mem_of_getElem? (i := 11) rfl)) rfl
set_option maxRecDepth 20000 in
theorem tw_732 : Cond.instanceMethod yX7_fire ∈ GW := gw_in (lt_4 (List.mem_of_getElem? (i := 12) rfl)) rfl
set_option maxRecDepth 20000 in
theorem tw_733 : Cond.selects RX7 yX7_fire yX7_fire ∈ GW := gw_in (lt_4 (List.mem_of_getElem? (i := 13) rfl)) rfl
set_option maxRecDepth 20000 in
theorem tw_734 : Cond.code yX7_fire cX7_fire 5 none ∈ GW := gw_in (lt_4 (List.mem_of_getElem? (i := 14) rfl)) rfl
set_option maxRecDepth 20000 in
theorem tw_735 : Cond.methodLink RX7 34 yX1_recent ∈ GW := gw_in (lt_4 (List.mem_of_getElem? (i := 15) rfl)) rfl
set_option maxRecDepth 20000 in
theorem tw_736 : Cond.instanceMethod yX1_recent ∈ GW := gw_in (lt_4 (List.mem_of_getElem? (i := 16) rfl)) rfl
set_option maxRecDepth 20000 in
theorem tw_737 : Cond.selects RX1 yX1_recent yX1_recent ∈ GW := gw_in (lt_4 (List.mem_of_getElem? (i := 17) rfl)) rfl
set_option maxRecDepth 20000 in
theorem tw_738 : Cond.code yX1_recent cX1_recent 4 (some .int) ∈ GW := gw_in (lt_4 (List.mem_of_getElem? (i := 18) rfl)) rfl
set_option maxRecDepth 20000 in
theorem tw_739 : Cond.methodLink RX1 34 yX1_lowBits ∈ GW := gw_in (lt_4 (List.mem_of_getElem? (i := 19) rfl)) rfl
set_option maxRecDepth 20000 in
theorem tw_740 : Cond.static yX1_lowBits ∈ GW := gw_in (lt_4 (List.mem_of_getElem? (i := 20) rfl)) rfl
set_option maxRecDepth 20000 in
theorem tw_741 : Cond.code yX1_lowBits cX1_lowBits 1 (some .long) ∈ GW := gw_in (lt_4 (List.mem_of_getElem? (i := 21) rfl)) rfl
set_option maxRecDepth 20000 in
theorem tw_742 : Cond.methodLink RX1 38 yJ13_bitCount_95d88 ∈ GW := gw_in (lt_4 (List.mem_of_getElem? (i := 22) rfl)) rfl
set_option maxRecDepth 20000 in
theorem tw_743 : Cond.static yJ13_bitCount_95d88 ∈ GW := gw_in (lt_4 (List.mem_of_getElem? (i := 23) rfl)) rfl
set_option maxRecDepth 20000 in
theorem tw_744 : Cond.code yJ13_bitCount_95d88 cJ13_bitCount_95d88 2 (some .int) ∈ GW := gw_in (lt_4 (List.mem_of_getElem? (i := 24) rfl)) rfl
set_option maxRecDepth 20000 in
theorem tw_745 : Cond.constantLong RJ13 314 (6148914691236517205) ∈ GW := gw_in (lt_4 (List.mem_of_getElem? (i := 25) rfl)) rfl
set_option maxRecDepth 20000 in
theorem tw_746 : Cond.constantLong RJ13 316 (3689348814741910323) ∈ GW := gw_in (lt_4 (List.mem_of_getElem? (i := 26) rfl)) rfl
set_option maxRecDepth 20000 in
theorem tw_747 : Cond.constantLong RJ13 318 (1085102592571150095) ∈ GW := gw_in (lt_4 (List.mem_of_getElem? (i := 27) rfl)) rfl
set_option maxRecDepth 20000 in
theorem tw_748 : Cond.methodLink RX7 40 yX1_recentAhead ∈ GW := gw_in (lt_4 (List.mem_of_getElem? (i := 28) rfl)) rfl
set_option maxRecDepth 20000 in
theorem tw_749 : Cond.instanceMethod yX1_recentAhead ∈ GW := gw_in (lt_4 (List.mem_of_getElem? (i := 29) rfl)) rfl
set_option maxRecDepth 20000 in
theorem tw_750 : Cond.selects RX1 yX1_recentAhead yX1_recentAhead ∈ GW := gw_in (lt_4 (List.mem_of_getElem? (i := 30) rfl)) rfl
set_option maxRecDepth 20000 in
theorem tw_751 : Cond.code yX1_recentAhead cX1_recentAhead 4 (some .int) ∈ GW := gw_in (lt_4 (List.mem_of_getElem? (i := 31) rfl)) rfl
set_option maxRecDepth 20000 in
theorem tw_752 : Cond.methodLink RX9 218 yX8_passTick ∈ GW := gw_in (lt_4 (List.mem_of_getElem? (i := 32) rfl)) rfl
set_option maxRecDepth 20000 in
theorem tw_753 : Cond.instanceMethod yX8_passTick ∈ GW := gw_in (lt_4 (List.mem_of_getElem? (i := 33) rfl)) rfl
set_option maxRecDepth 20000 in
theorem tw_754 : Cond.selects RX8 yX8_passTick yX8_passTick ∈ GW := gw_in (lt_4 (List.mem_of_getElem? (i := 34) rfl)) rfl
set_option maxRecDepth 20000 in
theorem tw_755 : Cond.code yX8_passTick cX8_passTick 1 none ∈ GW := gw_in (lt_4 (List.mem_of_getElem? (i := 35) rfl)) rfl
set_option maxRecDepth 20000 in
theorem tw_756 : Cond.methodLink RX8 161 yX0_fadeStalls ∈ GW := gw_in (lt_4 (List.mem_of_getElem? (i := 36) rfl)) rfl
set_option maxRecDepth 20000 in
theorem tw_757 : Cond.instanceMethod yX0_fadeStalls ∈ GW := gw_in (lt_4 (List.mem_of_getElem? (i := 37) rfl)) rfl
set_option maxRecDepth 20000 in
theorem tw_758 : Cond.selects RX0 yX0_fadeStalls yX0_fadeStalls ∈ GW := gw_in (lt_4 (List.mem_of_getElem? (i := 38) rfl)) rfl
set_option maxRecDepth 20000 in
theorem tw_759 : Cond.code yX0_fadeStalls cX0_fadeStalls 2 none ∈ GW := gw_in (lt_4 (List.mem_of_getElem? (i := 39) rfl)) rfl
set_option maxRecDepth 20000 in
theorem tw_760 : Cond.methodLink RX0 60 Lib.Math.max.name ∈ GW := gw_in (lt_4 (List.mem_of_getElem? (i := 40) rfl)) rfl
set_option maxRecDepth 20000 in
theorem tw_761 : Cond.methodLink RL 84 yX9_trigger ∈ GW := gw_in (lt_4 (List.mem_of_getElem? (i := 41) rfl)) rfl
set_option maxRecDepth 20000 in
theorem tw_762 : Cond.instanceMethod yX9_trigger ∈ GW := gw_in (lt_4 (List.mem_of_getElem? (i := 42) rfl)) rfl
set_option maxRecDepth 20000 in
theorem tw_763 : Cond.selects RX9 yX9_trigger yX9_trigger ∈ GW := gw_in (lt_4 (List.mem_of_getElem? (i := 43) rfl)) rfl
set_option maxRecDepth 20000 in
theorem tw_764 : Cond.code yX9_trigger cX9_trigger 4 (some .int) ∈ GW := gw_in (lt_4 (List.mem_of_getElem? (i := 44) rfl)) rfl
set_option maxRecDepth 20000 in
theorem tw_765 : Cond.methodLink RX9 227 yX7_add ∈ GW := gw_in (lt_4 (List.mem_of_getElem? (i := 45) rfl)) rfl
set_option maxRecDepth 20000 in
theorem tw_766 : Cond.instanceMethod yX7_add ∈ GW := gw_in (lt_4 (List.mem_of_getElem? (i := 46) rfl)) rfl
set_option maxRecDepth 20000 in
theorem tw_767 : Cond.selects RX7 yX7_add yX7_add ∈ GW := gw_in (lt_4 (List.mem_of_getElem? (i := 47) rfl)) rfl
set_option maxRecDepth 20000 in
theorem tw_768 : Cond.code yX7_add cX7_add 5 (some .int) ∈ GW := gw_in (lt_4 (List.mem_of_getElem? (i := 48) rfl)) rfl
set_option maxRecDepth 20000 in
theorem tw_769 : Cond.methodLink RL 88 yX9_forget ∈ GW := gw_in (lt_4 (List.mem_of_getElem? (i := 49) rfl)) rfl
set_option maxRecDepth 20000 in
theorem tw_770 : Cond.instanceMethod yX9_forget ∈ GW := gw_in (lt_4 (List.mem_of_getElem? (i := 50) rfl)) rfl
set_option maxRecDepth 20000 in
theorem tw_771 : Cond.selects RX9 yX9_forget yX9_forget ∈ GW := gw_in (lt_4 (List.mem_of_getElem? (i := 51) rfl)) rfl
set_option maxRecDepth 20000 in
theorem tw_772 : Cond.code yX9_forget cX9_forget 2 (some .int) ∈ GW := gw_in (lt_4 (List.mem_of_getElem? (i := 52) rfl)) rfl
set_option maxRecDepth 20000 in
theorem tw_773 : Cond.methodLink RL 93 yX9_of ∈ GW := gw_in (lt_4 (List.mem_of_getElem? (i := 53) rfl)) rfl
set_option maxRecDepth 20000 in
theorem tw_774 : Cond.instanceMethod yX9_of ∈ GW := gw_in (lt_4 (List.mem_of_getElem? (i := 54) rfl)) rfl
set_option maxRecDepth 20000 in
theorem tw_775 : Cond.selects RX9 yX9_of yX9_of ∈ GW := gw_in (lt_4 (List.mem_of_getElem? (i := 55) rfl)) rfl
set_option maxRecDepth 20000 in
theorem tw_776 : Cond.code yX9_of cX9_of 3 (some .int) ∈ GW := gw_in (lt_4 (List.mem_of_getElem? (i := 56) rfl)) rfl
set_option maxRecDepth 20000 in
theorem tw_777 : Cond.methodLink RX9 233 yX0_ownPages ∈ GW := gw_in (lt_4 (List.mem_of_getElem? (i := 57) rfl)) rfl
set_option maxRecDepth 20000 in
theorem tw_778 : Cond.instanceMethod yX0_ownPages ∈ GW := gw_in (lt_4 (List.mem_of_getElem? (i := 58) rfl)) rfl
set_option maxRecDepth 20000 in
theorem tw_779 : Cond.selects RX0 yX0_ownPages yX0_ownPages ∈ GW := gw_in (lt_4 (List.mem_of_getElem? (i := 59) rfl)) rfl
set_option maxRecDepth 20000 in
theorem tw_780 : Cond.code yX0_ownPages cX0_ownPages 2 (some .int) ∈ GW := gw_in (lt_4 (List.mem_of_getElem? (i := 60) rfl)) rfl
set_option maxRecDepth 20000 in
theorem tw_781 : Cond.methodLink RX0 51 yX0_pagesIn ∈ GW := gw_in (lt_4 (List.mem_of_getElem? (i := 61) rfl)) rfl
set_option maxRecDepth 20000 in
theorem tw_782 : Cond.instanceMethod yX0_pagesIn ∈ GW := gw_in (lt_4 (List.mem_of_getElem? (i := 62) rfl)) rfl
set_option maxRecDepth 20000 in
theorem tw_783 : Cond.selects RX0 yX0_pagesIn yX0_pagesIn ∈ GW := gw_in (lt_4 (List.mem_of_getElem? (i := 63) rfl)) rfl
set_option maxRecDepth 20000 in
theorem tw_784 : Cond.code yX0_pagesIn cX0_pagesIn 5 (some .int) ∈ GW := gw_in (lt_4 (List.mem_of_getElem? (i := 64) rfl)) rfl
set_option maxRecDepth 20000 in
theorem tw_785 : Cond.methodLink RX9 242 yX0_pagesIn ∈ GW := gw_in (lt_4 (List.mem_of_getElem? (i := 65) rfl)) rfl
set_option maxRecDepth 20000 in
theorem tw_786 : Cond.methodLink RL 97 yX9_proc ∈ GW := gw_in (lt_4 (List.mem_of_getElem? (i := 66) rfl)) rfl
set_option maxRecDepth 20000 in
theorem tw_787 : Cond.instanceMethod yX9_proc ∈ GW := gw_in (lt_4 (List.mem_of_getElem? (i := 67) rfl)) rfl
set_option maxRecDepth 20000 in
theorem tw_788 : Cond.selects RX9 yX9_proc yX9_proc ∈ GW := gw_in (lt_4 (List.mem_of_getElem? (i := 68) rfl)) rfl
set_option maxRecDepth 20000 in
theorem tw_789 : Cond.code yX9_proc cX9_proc 3 (some .int) ∈ GW := gw_in (lt_4 (List.mem_of_getElem? (i := 69) rfl)) rfl
set_option maxRecDepth 20000 in
theorem tw_790 : Cond.methodLink RX9 251 yX0_badness ∈ GW := gw_in (lt_4 (List.mem_of_getElem? (i := 70) rfl)) rfl
set_option maxRecDepth 20000 in
theorem tw_791 : Cond.methodLink RL 101 yX9_share ∈ GW := gw_in (lt_4 (List.mem_of_getElem? (i := 71) rfl)) rfl
set_option maxRecDepth 20000 in
theorem tw_792 : Cond.instanceMethod yX9_share ∈ GW := gw_in (lt_4 (List.mem_of_getElem? (i := 72) rfl)) rfl
set_option maxRecDepth 20000 in
theorem tw_793 : Cond.selects RX9 yX9_share yX9_share ∈ GW := gw_in (lt_4 (List.mem_of_getElem? (i := 73) rfl)) rfl
set_option maxRecDepth 20000 in
theorem tw_794 : Cond.code yX9_share cX9_share 4 (some .int) ∈ GW := gw_in (lt_4 (List.mem_of_getElem? (i := 74) rfl)) rfl
set_option maxRecDepth 20000 in
theorem tw_795 : Cond.methodLink RX9 257 yX9_isBelow ∈ GW := gw_in (lt_4 (List.mem_of_getElem? (i := 75) rfl)) rfl
set_option maxRecDepth 20000 in
theorem tw_797 : Cond.instanceMethod yX9_isBelow ∈ GW := gw_in (lt_4 (List.mem_of_getElem? (i := 77) rfl)) rfl
set_option maxRecDepth 20000 in
theorem tw_798 : Cond.code yX9_isBelow cX9_isBelow 3 (some .boolean) ∈ GW := gw_in (lt_4 (List.mem_of_getElem? (i := 78) rfl)) rfl
set_option maxRecDepth 20000 in
theorem tw_799 : Cond.methodLink RX9 261 yX5_partShares ∈ GW := gw_in (lt_4 (List.mem_of_getElem? (i := 79) rfl)) rfl
set_option maxRecDepth 20000 in
theorem tw_800 : Cond.methodLink RL 105 yX9_spare ∈ GW := gw_in (lt_4 (List.mem_of_getElem? (i := 80) rfl)) rfl
set_option maxRecDepth 20000 in
theorem tw_801 : Cond.instanceMethod yX9_spare ∈ GW := gw_in (lt_4 (List.mem_of_getElem? (i := 81) rfl)) rfl
set_option maxRecDepth 20000 in
theorem tw_802 : Cond.selects RX9 yX9_spare yX9_spare ∈ GW := gw_in (lt_4 (List.mem_of_getElem? (i := 82) rfl)) rfl
set_option maxRecDepth 20000 in
theorem tw_803 : Cond.code yX9_spare cX9_spare 5 (some .int) ∈ GW := gw_in (lt_4 (List.mem_of_getElem? (i := 83) rfl)) rfl
set_option maxRecDepth 20000 in
theorem tw_804 : Cond.methodLink RX9 268 yX5_measureSpares ∈ GW := gw_in (lt_4 (List.mem_of_getElem? (i := 84) rfl)) rfl
set_option maxRecDepth 20000 in
theorem tw_805 : Cond.methodLink RL 110 yX9_next ∈ GW := gw_in (lt_4 (List.mem_of_getElem? (i := 85) rfl)) rfl
set_option maxRecDepth 20000 in
theorem tw_806 : Cond.instanceMethod yX9_next ∈ GW := gw_in (lt_4 (List.mem_of_getElem? (i := 86) rfl)) rfl
set_option maxRecDepth 20000 in
theorem tw_807 : Cond.selects RX9 yX9_next yX9_next ∈ GW := gw_in (lt_4 (List.mem_of_getElem? (i := 87) rfl)) rfl
set_option maxRecDepth 20000 in
theorem tw_808 : Cond.code yX9_next cX9_next 4 (some .int) ∈ GW := gw_in (lt_4 (List.mem_of_getElem? (i := 88) rfl)) rfl
set_option maxRecDepth 20000 in
theorem tw_809 : Cond.methodLink RX9 275 yX5_richestGroup ∈ GW := gw_in (lt_4 (List.mem_of_getElem? (i := 89) rfl)) rfl
set_option maxRecDepth 20000 in
theorem tw_810 : Cond.methodLink RL 114 yX9_below ∈ GW := gw_in (lt_4 (List.mem_of_getElem? (i := 90) rfl)) rfl
set_option maxRecDepth 20000 in
theorem tw_811 : Cond.instanceMethod yX9_below ∈ GW := gw_in (lt_4 (List.mem_of_getElem? (i := 91) rfl)) rfl
set_option maxRecDepth 20000 in
theorem tw_812 : Cond.selects RX9 yX9_below yX9_below ∈ GW := gw_in (lt_4 (List.mem_of_getElem? (i := 92) rfl)) rfl
set_option maxRecDepth 20000 in
theorem tw_813 : Cond.code yX9_below cX9_below 2 (some .int) ∈ GW := gw_in (lt_4 (List.mem_of_getElem? (i := 93) rfl)) rfl
set_option maxRecDepth 20000 in
theorem tw_814 : Cond.methodLink RL 118 yX9_procs ∈ GW := gw_in (lt_4 (List.mem_of_getElem? (i := 94) rfl)) rfl
set_option maxRecDepth 20000 in
theorem tw_815 : Cond.instanceMethod yX9_procs ∈ GW := gw_in (lt_4 (List.mem_of_getElem? (i := 95) rfl)) rfl
set_option maxRecDepth 20000 in
theorem tw_816 : Cond.selects RX9 yX9_procs yX9_procs ∈ GW := gw_in (lt_4 (List.mem_of_getElem? (i := 96) rfl)) rfl
set_option maxRecDepth 20000 in
theorem tw_817 : Cond.code yX9_procs cX9_procs 2 (some .int) ∈ GW := gw_in (lt_4 (List.mem_of_getElem? (i := 97) rfl)) rfl
set_option maxRecDepth 20000 in
theorem tw_818 : Cond.methodLink RL 122 yX9_common ∈ GW := gw_in (lt_4 (List.mem_of_getElem? (i := 98) rfl)) rfl
set_option maxRecDepth 20000 in
theorem tw_819 : Cond.instanceMethod yX9_common ∈ GW := gw_in (lt_4 (List.mem_of_getElem? (i := 99) rfl)) rfl
set_option maxRecDepth 20000 in
theorem tw_820 : Cond.selects RX9 yX9_common yX9_common ∈ GW := gw_in (lt_4 (List.mem_of_getElem? (i := 100) rfl)) rfl
set_option maxRecDepth 20000 in
theorem tw_821 : Cond.code yX9_common cX9_common 3 (some .int) ∈ GW := gw_in (lt_4 (List.mem_of_getElem? (i := 101) rfl)) rfl
set_option maxRecDepth 20000 in
theorem tw_822 : Cond.methodLink RX9 278 yX6_lowestCommon ∈ GW := gw_in (lt_4 (List.mem_of_getElem? (i := 102) rfl)) rfl
set_option maxRecDepth 20000 in
theorem tw_823 : Cond.methodLink RL 126 yX9_pressure ∈ GW := gw_in (lt_4 (List.mem_of_getElem? (i := 103) rfl)) rfl
set_option maxRecDepth 20000 in
theorem tw_824 : Cond.instanceMethod yX9_pressure ∈ GW := gw_in (lt_4 (List.mem_of_getElem? (i := 104) rfl)) rfl
set_option maxRecDepth 20000 in
theorem tw_825 : Cond.selects RX9 yX9_pressure yX9_pressure ∈ GW := gw_in (lt_4 (List.mem_of_getElem? (i := 105) rfl)) rfl
set_option maxRecDepth 20000 in
theorem tw_826 : Cond.code yX9_pressure cX9_pressure 4 (some .int) ∈ GW := gw_in (lt_4 (List.mem_of_getElem? (i := 106) rfl)) rfl
set_option maxRecDepth 20000 in
theorem tw_827 : Cond.methodLink RX9 281 yX1_recent ∈ GW := gw_in (lt_4 (List.mem_of_getElem? (i := 107) rfl)) rfl
set_option maxRecDepth 20000 in
theorem tw_828 : Cond.methodLink RL 130 yX9_average ∈ GW := gw_in (lt_4 (List.mem_of_getElem? (i := 108) rfl)) rfl
set_option maxRecDepth 20000 in
theorem tw_829 : Cond.instanceMethod yX9_average ∈ GW := gw_in (lt_4 (List.mem_of_getElem? (i := 109) rfl)) rfl
set_option maxRecDepth 20000 in
theorem tw_830 : Cond.selects RX9 yX9_average yX9_average ∈ GW := gw_in (lt_4 (List.mem_of_getElem? (i := 110) rfl)) rfl
set_option maxRecDepth 20000 in
theorem tw_831 : Cond.code yX9_average cX9_average 4 (some .int) ∈ GW := gw_in (lt_4 (List.mem_of_getElem? (i := 111) rfl)) rfl
set_option maxRecDepth 20000 in
theorem tw_832 : Cond.methodLink RL 134 yX9_stalls ∈ GW := gw_in (lt_4 (List.mem_of_getElem? (i := 112) rfl)) rfl
set_option maxRecDepth 20000 in
theorem tw_833 : Cond.instanceMethod yX9_stalls ∈ GW := gw_in (lt_4 (List.mem_of_getElem? (i := 113) rfl)) rfl
set_option maxRecDepth 20000 in
theorem tw_834 : Cond.selects RX9 yX9_stalls yX9_stalls ∈ GW := gw_in (lt_4 (List.mem_of_getElem? (i := 114) rfl)) rfl
set_option maxRecDepth 20000 in
theorem tw_835 : Cond.code yX9_stalls cX9_stalls 3 (some .int) ∈ GW := gw_in (lt_4 (List.mem_of_getElem? (i := 115) rfl)) rfl
set_option maxRecDepth 20000 in
theorem tw_836 : Cond.methodLink RL 138 yX9_worst ∈ GW := gw_in (lt_4 (List.mem_of_getElem? (i := 116) rfl)) rfl
set_option maxRecDepth 20000 in
theorem tw_837 : Cond.instanceMethod yX9_worst ∈ GW := gw_in (lt_4 (List.mem_of_getElem? (i := 117) rfl)) rfl
set_option maxRecDepth 20000 in
theorem tw_838 : Cond.selects RX9 yX9_worst yX9_worst ∈ GW := gw_in (lt_4 (List.mem_of_getElem? (i := 118) rfl)) rfl
set_option maxRecDepth 20000 in
theorem tw_839 : Cond.code yX9_worst cX9_worst 5 (some .int) ∈ GW := gw_in (lt_4 (List.mem_of_getElem? (i := 119) rfl)) rfl
set_option maxRecDepth 20000 in
theorem tw_840 : Cond.methodLink RL 142 yX9_units ∈ GW := gw_in (lt_4 (List.mem_of_getElem? (i := 120) rfl)) rfl
set_option maxRecDepth 20000 in
theorem tw_841 : Cond.instanceMethod yX9_units ∈ GW := gw_in (lt_4 (List.mem_of_getElem? (i := 121) rfl)) rfl
set_option maxRecDepth 20000 in
theorem tw_842 : Cond.selects RX9 yX9_units yX9_units ∈ GW := gw_in (lt_4 (List.mem_of_getElem? (i := 122) rfl)) rfl
set_option maxRecDepth 20000 in
theorem tw_843 : Cond.code yX9_units cX9_units 5 (some .int) ∈ GW := gw_in (lt_4 (List.mem_of_getElem? (i := 123) rfl)) rfl
set_option maxRecDepth 20000 in
theorem tw_844 : Cond.methodLink RX9 290 yX2_plan ∈ GW := gw_in (lt_4 (List.mem_of_getElem? (i := 124) rfl)) rfl
set_option maxRecDepth 20000 in
theorem tw_845 : Cond.methodLink RL 146 yX9_fired ∈ GW := gw_in (lt_4 (List.mem_of_getElem? (i := 125) rfl)) rfl
set_option maxRecDepth 20000 in
theorem tw_846 : Cond.instanceMethod yX9_fired ∈ GW := gw_in (lt_4 (List.mem_of_getElem? (i := 126) rfl)) rfl
set_option maxRecDepth 20000 in
theorem tw_847 : Cond.selects RX9 yX9_fired yX9_fired ∈ GW := gw_in (lt_4 (List.mem_of_getElem? (i := 127) rfl)) rfl
set_option maxRecDepth 20000 in
theorem tw_848 : Cond.code yX9_fired cX9_fired 3 (some .int) ∈ GW := gw_in (lt_4 (List.mem_of_getElem? (i := 128) rfl)) rfl
set_option maxRecDepth 20000 in
theorem tw_849 : Cond.methodLink RL 150 yX9_events ∈ GW := gw_in (lt_4 (List.mem_of_getElem? (i := 129) rfl)) rfl
set_option maxRecDepth 20000 in
theorem tw_850 : Cond.instanceMethod yX9_events ∈ GW := gw_in (lt_4 (List.mem_of_getElem? (i := 130) rfl)) rfl
set_option maxRecDepth 20000 in
theorem tw_851 : Cond.selects RX9 yX9_events yX9_events ∈ GW := gw_in (lt_4 (List.mem_of_getElem? (i := 131) rfl)) rfl
set_option maxRecDepth 20000 in
theorem tw_852 : Cond.code yX9_events cX9_events 3 (some .int) ∈ GW := gw_in (lt_4 (List.mem_of_getElem? (i := 132) rfl)) rfl
set_option maxRecDepth 20000 in
theorem tw_853 : Cond.methodLink RL 154 yX9_victim ∈ GW := gw_in (lt_4 (List.mem_of_getElem? (i := 133) rfl)) rfl
set_option maxRecDepth 20000 in
theorem tw_854 : Cond.instanceMethod yX9_victim ∈ GW := gw_in (lt_4 (List.mem_of_getElem? (i := 134) rfl)) rfl
set_option maxRecDepth 20000 in
theorem tw_855 : Cond.selects RX9 yX9_victim yX9_victim ∈ GW := gw_in (lt_4 (List.mem_of_getElem? (i := 135) rfl)) rfl
set_option maxRecDepth 20000 in
theorem tw_856 : Cond.code yX9_victim cX9_victim 2 (some .int) ∈ GW := gw_in (lt_4 (List.mem_of_getElem? (i := 136) rfl)) rfl
set_option maxRecDepth 20000 in
theorem tw_857 : Cond.methodLink RX9 305 yX8_victimBelow ∈ GW := gw_in (lt_4 (List.mem_of_getElem? (i := 137) rfl)) rfl
set_option maxRecDepth 20000 in
theorem tw_858 : Cond.methodLink RL 158 yX9_dying ∈ GW := gw_in (lt_4 (List.mem_of_getElem? (i := 138) rfl)) rfl
set_option maxRecDepth 20000 in
theorem tw_859 : Cond.instanceMethod yX9_dying ∈ GW := gw_in (lt_4 (List.mem_of_getElem? (i := 139) rfl)) rfl
set_option maxRecDepth 20000 in
theorem tw_860 : Cond.selects RX9 yX9_dying yX9_dying ∈ GW := gw_in (lt_4 (List.mem_of_getElem? (i := 140) rfl)) rfl
set_option maxRecDepth 20000 in
theorem tw_861 : Cond.code yX9_dying cX9_dying 2 (some .int) ∈ GW := gw_in (lt_4 (List.mem_of_getElem? (i := 141) rfl)) rfl
set_option maxRecDepth 20000 in
theorem tw_862 : Cond.methodLink RX9 308 yX8_dyingBelow ∈ GW := gw_in (lt_4 (List.mem_of_getElem? (i := 142) rfl)) rfl
set_option maxRecDepth 20000 in
theorem tw_863 : Cond.methodLink RL 162 yX9_room ∈ GW := gw_in (lt_4 (List.mem_of_getElem? (i := 143) rfl)) rfl
set_option maxRecDepth 20000 in
theorem tw_864 : Cond.instanceMethod yX9_room ∈ GW := gw_in (lt_4 (List.mem_of_getElem? (i := 144) rfl)) rfl
set_option maxRecDepth 20000 in
theorem tw_865 : Cond.selects RX9 yX9_room yX9_room ∈ GW := gw_in (lt_4 (List.mem_of_getElem? (i := 145) rfl)) rfl
set_option maxRecDepth 20000 in
theorem tw_866 : Cond.code yX9_room cX9_room 2 (some .int) ∈ GW := gw_in (lt_4 (List.mem_of_getElem? (i := 146) rfl)) rfl
set_option maxRecDepth 20000 in
theorem tw_867 : Cond.methodLink RX9 311 yX6_leastLeft ∈ GW := gw_in (lt_4 (List.mem_of_getElem? (i := 147) rfl)) rfl
set_option maxRecDepth 20000 in
theorem tw_868 : Cond.instanceMethod yX6_leastLeft ∈ GW := gw_in (lt_4 (List.mem_of_getElem? (i := 148) rfl)) rfl
set_option maxRecDepth 20000 in
theorem tw_869 : Cond.selects RX6 yX6_leastLeft yX6_leastLeft ∈ GW := gw_in (lt_4 (List.mem_of_getElem? (i := 149) rfl)) rfl
set_option maxRecDepth 20000 in
theorem tw_870 : Cond.code yX6_leastLeft cX6_leastLeft 5 (some .int) ∈ GW := gw_in (lt_4 (List.mem_of_getElem? (i := 150) rfl)) rfl
set_option maxRecDepth 20000 in
theorem tw_871 : Cond.methodLink RX6 68 Lib.Math.min.name ∈ GW := gw_in (lt_4 (List.mem_of_getElem? (i := 151) rfl)) rfl
set_option maxRecDepth 20000 in
theorem tw_872 : Cond.methodLink RL 166 yX9_deaths ∈ GW := gw_in (lt_4 (List.mem_of_getElem? (i := 152) rfl)) rfl
set_option maxRecDepth 20000 in
theorem tw_873 : Cond.instanceMethod yX9_deaths ∈ GW := gw_in (lt_4 (List.mem_of_getElem? (i := 153) rfl)) rfl
set_option maxRecDepth 20000 in
theorem tw_874 : Cond.selects RX9 yX9_deaths yX9_deaths ∈ GW := gw_in (lt_4 (List.mem_of_getElem? (i := 154) rfl)) rfl
set_option maxRecDepth 20000 in
theorem tw_875 : Cond.code yX9_deaths cX9_deaths 3 (some .int) ∈ GW := gw_in (lt_4 (List.mem_of_getElem? (i := 155) rfl)) rfl
set_option maxRecDepth 20000 in
theorem tw_876 : Cond.methodLink RX9 314 yX8_copyFrom ∈ GW := gw_in (lt_4 (List.mem_of_getElem? (i := 156) rfl)) rfl
set_option maxRecDepth 20000 in
theorem tw_877 : Cond.methodLink RL 170 yX9_taken ∈ GW := gw_in (lt_4 (List.mem_of_getElem? (i := 157) rfl)) rfl
set_option maxRecDepth 20000 in
theorem tw_878 : Cond.instanceMethod yX9_taken ∈ GW := gw_in (lt_4 (List.mem_of_getElem? (i := 158) rfl)) rfl
set_option maxRecDepth 20000 in
theorem tw_879 : Cond.selects RX9 yX9_taken yX9_taken ∈ GW := gw_in (lt_4 (List.mem_of_getElem? (i := 159) rfl)) rfl
set_option maxRecDepth 20000 in
theorem tw_880 : Cond.code yX9_taken cX9_taken 7 (some .int) ∈ GW := gw_in (lt_4 (List.mem_of_getElem? (i := 160) rfl)) rfl
set_option maxRecDepth 20000 in
theorem tw_881 : Cond.methodLink RL 174 yX9_place ∈ GW := gw_in (lt_4 (List.mem_of_getElem? (i := 161) rfl)) rfl
set_option maxRecDepth 20000 in
theorem tw_882 : Cond.instanceMethod yX9_place ∈ GW := gw_in (lt_4 (List.mem_of_getElem? (i := 162) rfl)) rfl
set_option maxRecDepth 20000 in
theorem tw_883 : Cond.selects RX9 yX9_place yX9_place ∈ GW := gw_in (lt_4 (List.mem_of_getElem? (i := 163) rfl)) rfl
set_option maxRecDepth 20000 in
theorem tw_884 : Cond.code yX9_place cX9_place 7 (some .int) ∈ GW := gw_in (lt_4 (List.mem_of_getElem? (i := 164) rfl)) rfl
set_option maxRecDepth 20000 in
theorem tw_885 : Cond.methodLink RX9 317 yX3_leftBehindMove ∈ GW := gw_in (lt_4 (List.mem_of_getElem? (i := 165) rfl)) rfl
set_option maxRecDepth 20000 in
theorem tw_886 : Cond.instanceMethod yX3_leftBehindMove ∈ GW := gw_in (lt_4 (List.mem_of_getElem? (i := 166) rfl)) rfl
set_option maxRecDepth 20000 in
theorem tw_887 : Cond.selects RX3 yX3_leftBehindMove yX3_leftBehindMove ∈ GW := gw_in (lt_4 (List.mem_of_getElem? (i := 167) rfl)) rfl
set_option maxRecDepth 20000 in
theorem tw_888 : Cond.code yX3_leftBehindMove cX3_leftBehindMove 9 (some .int) ∈ GW := gw_in (lt_4 (List.mem_of_getElem? (i := 168) rfl)) rfl
set_option maxRecDepth 20000 in
theorem tw_889 : Cond.methodLink RX3 120 yX6_leastLeft ∈ GW := gw_in (lt_4 (List.mem_of_getElem? (i := 169) rfl)) rfl
set_option maxRecDepth 20000 in
theorem tw_890 : Cond.methodLink RX3 123 Lib.Math.min.name ∈ GW := gw_in (lt_4 (List.mem_of_getElem? (i := 170) rfl)) rfl
set_option maxRecDepth 20000 in
theorem tw_891 : Cond.methodLink RL 178 yX9_due ∈ GW := gw_in (lt_4 (List.mem_of_getElem? (i := 171) rfl)) rfl
set_option maxRecDepth 20000 in
theorem tw_892 : Cond.instanceMethod yX9_due ∈ GW := gw_in (lt_4 (List.mem_of_getElem? (i := 172) rfl)) rfl
set_option maxRecDepth 20000 in
theorem tw_893 : Cond.selects RX9 yX9_due yX9_due ∈ GW := gw_in (lt_4 (List.mem_of_getElem? (i := 173) rfl)) rfl
set_option maxRecDepth 20000 in
theorem tw_894 : Cond.code yX9_due cX9_due 2 (some .int) ∈ GW := gw_in (lt_4 (List.mem_of_getElem? (i := 174) rfl)) rfl
set_option maxRecDepth 20000 in
theorem tw_895 : Cond.methodLink RX9 320 yJ7_fill_53178 ∈ GW := gw_in (lt_4 (List.mem_of_getElem? (i := 175) rfl)) rfl
set_option maxRecDepth 20000 in
theorem tw_896 : Cond.methodLink RL 182 yX9_idle ∈ GW := gw_in (lt_4 (List.mem_of_getElem? (i := 176) rfl)) rfl
set_option maxRecDepth 20000 in
theorem tw_897 : Cond.instanceMethod yX9_idle ∈ GW := gw_in (lt_4 (List.mem_of_getElem? (i := 177) rfl)) rfl
set_option maxRecDepth 20000 in
theorem tw_898 : Cond.selects RX9 yX9_idle yX9_idle ∈ GW := gw_in (lt_4 (List.mem_of_getElem? (i := 178) rfl)) rfl
set_option maxRecDepth 20000 in
theorem tw_899 : Cond.code yX9_idle cX9_idle 2 (some .int) ∈ GW := gw_in (lt_4 (List.mem_of_getElem? (i := 179) rfl)) rfl
set_option maxRecDepth 20000 in
theorem tw_900 : Cond.methodLink RX9 326 yX0_hasTodo ∈ GW := gw_in (lt_4 (List.mem_of_getElem? (i := 180) rfl)) rfl
set_option maxRecDepth 20000 in
theorem tw_901 : Cond.instanceMethod yX0_hasTodo ∈ GW := gw_in (lt_4 (List.mem_of_getElem? (i := 181) rfl)) rfl
set_option maxRecDepth 20000 in
theorem tw_902 : Cond.selects RX0 yX0_hasTodo yX0_hasTodo ∈ GW := gw_in (lt_4 (List.mem_of_getElem? (i := 182) rfl)) rfl
set_option maxRecDepth 20000 in
theorem tw_903 : Cond.code yX0_hasTodo cX0_hasTodo 2 (some .boolean) ∈ GW := gw_in (lt_4 (List.mem_of_getElem? (i := 183) rfl)) rfl
set_option maxRecDepth 20000 in
theorem tw_904 : Cond.methodLink RL 186 yX9_weigh ∈ GW := gw_in (lt_4 (List.mem_of_getElem? (i := 184) rfl)) rfl
set_option maxRecDepth 20000 in
theorem tw_905 : Cond.instanceMethod yX9_weigh ∈ GW := gw_in (lt_4 (List.mem_of_getElem? (i := 185) rfl)) rfl
set_option maxRecDepth 20000 in
theorem tw_906 : Cond.selects RX9 yX9_weigh yX9_weigh ∈ GW := gw_in (lt_4 (List.mem_of_getElem? (i := 186) rfl)) rfl
set_option maxRecDepth 20000 in
theorem tw_907 : Cond.code yX9_weigh cX9_weigh 4 (some .int) ∈ GW := gw_in (lt_4 (List.mem_of_getElem? (i := 187) rfl)) rfl
set_option maxRecDepth 20000 in
theorem tw_908 : Cond.methodLink RL 190 yX9_pressed ∈ GW := gw_in (lt_4 (List.mem_of_getElem? (i := 188) rfl)) rfl
set_option maxRecDepth 20000 in
theorem tw_909 : Cond.instanceMethod yX9_pressed ∈ GW := gw_in (lt_4 (List.mem_of_getElem? (i := 189) rfl)) rfl
set_option maxRecDepth 20000 in
theorem tw_910 : Cond.selects RX9 yX9_pressed yX9_pressed ∈ GW := gw_in (lt_4 (List.mem_of_getElem? (i := 190) rfl)) rfl
set_option maxRecDepth 20000 in
theorem tw_911 : Cond.code yX9_pressed cX9_pressed 2 (some .int) ∈ GW := gw_in (lt_4 (List.mem_of_getElem? (i := 191) rfl)) rfl
set_option maxRecDepth 20000 in
theorem tw_912 : Cond.methodLink RL 194 yX9_would ∈ GW := gw_in (lt_4 (List.mem_of_getElem? (i := 192) rfl)) rfl
set_option maxRecDepth 20000 in
theorem tw_913 : Cond.instanceMethod yX9_would ∈ GW := gw_in (lt_4 (List.mem_of_getElem? (i := 193) rfl)) rfl
set_option maxRecDepth 20000 in
theorem tw_914 : Cond.selects RX9 yX9_would yX9_would ∈ GW := gw_in (lt_4 (List.mem_of_getElem? (i := 194) rfl)) rfl
set_option maxRecDepth 20000 in
theorem tw_915 : Cond.code yX9_would cX9_would 5 (some .int) ∈ GW := gw_in (lt_4 (List.mem_of_getElem? (i := 195) rfl)) rfl
set_option maxRecDepth 20000 in
theorem tw_916 : Cond.methodLink RL 198 yX9_burst ∈ GW := gw_in (lt_4 (List.mem_of_getElem? (i := 196) rfl)) rfl
set_option maxRecDepth 20000 in
theorem tw_917 : Cond.instanceMethod yX9_burst ∈ GW := gw_in (lt_4 (List.mem_of_getElem? (i := 197) rfl)) rfl
set_option maxRecDepth 20000 in
theorem tw_918 : Cond.selects RX9 yX9_burst yX9_burst ∈ GW := gw_in (lt_4 (List.mem_of_getElem? (i := 198) rfl)) rfl
set_option maxRecDepth 20000 in
theorem tw_919 : Cond.code yX9_burst cX9_burst 6 (some .int) ∈ GW := gw_in (lt_4 (List.mem_of_getElem? (i := 199) rfl)) rfl
set_option maxRecDepth 20000 in
theorem tw_920 : Cond.methodLink RL 202 yX9_stalled ∈ GW := gw_in (lt_4 (List.mem_of_getElem? (i := 200) rfl)) rfl
set_option maxRecDepth 20000 in
theorem tw_921 : Cond.instanceMethod yX9_stalled ∈ GW := gw_in (lt_4 (List.mem_of_getElem? (i := 201) rfl)) rfl
set_option maxRecDepth 20000 in
theorem tw_922 : Cond.selects RX9 yX9_stalled yX9_stalled ∈ GW := gw_in (lt_4 (List.mem_of_getElem? (i := 202) rfl)) rfl
set_option maxRecDepth 20000 in
theorem tw_923 : Cond.code yX9_stalled cX9_stalled 6 (some .int) ∈ GW := gw_in (lt_4 (List.mem_of_getElem? (i := 203) rfl)) rfl
set_option maxRecDepth 20000 in
theorem tw_924 : Cond.methodLink RL 206 yX9_undo ∈ GW := gw_in (lt_4 (List.mem_of_getElem? (i := 204) rfl)) rfl
set_option maxRecDepth 20000 in
theorem tw_925 : Cond.instanceMethod yX9_undo ∈ GW := gw_in (lt_4 (List.mem_of_getElem? (i := 205) rfl)) rfl
set_option maxRecDepth 20000 in
theorem tw_926 : Cond.selects RX9 yX9_undo yX9_undo ∈ GW := gw_in (lt_4 (List.mem_of_getElem? (i := 206) rfl)) rfl
set_option maxRecDepth 20000 in
theorem tw_927 : Cond.code yX9_undo cX9_undo 2 (some .int) ∈ GW := gw_in (lt_4 (List.mem_of_getElem? (i := 207) rfl)) rfl
set_option maxRecDepth 20000 in
theorem tw_928 : Cond.methodLink RX9 331 yX4_goBack ∈ GW := gw_in (lt_4 (List.mem_of_getElem? (i := 208) rfl)) rfl
set_option maxRecDepth 20000 in
theorem tw_929 : Cond.instanceMethod yX4_goBack ∈ GW := gw_in (lt_4 (List.mem_of_getElem? (i := 209) rfl)) rfl
set_option maxRecDepth 20000 in
theorem tw_930 : Cond.selects RX4 yX4_goBack yX4_goBack ∈ GW := gw_in (lt_4 (List.mem_of_getElem? (i := 210) rfl)) rfl
set_option maxRecDepth 20000 in
theorem tw_931 : Cond.code yX4_goBack cX4_goBack 3 (some .int) ∈ GW := gw_in (lt_4 (List.mem_of_getElem? (i := 211) rfl)) rfl
set_option maxRecDepth 20000 in
theorem tw_932 : Cond.methodLink RL 210 yX9_image ∈ GW := gw_in (lt_4 (List.mem_of_getElem? (i := 212) rfl)) rfl
set_option maxRecDepth 20000 in
theorem tw_933 : Cond.instanceMethod yX9_image ∈ GW := gw_in (lt_4 (List.mem_of_getElem? (i := 213) rfl)) rfl
set_option maxRecDepth 20000 in
theorem tw_934 : Cond.selects RX9 yX9_image yX9_image ∈ GW := gw_in (lt_4 (List.mem_of_getElem? (i := 214) rfl)) rfl
set_option maxRecDepth 20000 in
theorem tw_935 : Cond.code yX9_image cX9_image 2 (some .int) ∈ GW := gw_in (lt_4 (List.mem_of_getElem? (i := 215) rfl)) rfl
set_option maxRecDepth 20000 in
theorem tw_936 : Cond.methodLink RL 214 yX9_restore ∈ GW := gw_in (lt_4 (List.mem_of_getElem? (i := 216) rfl)) rfl
set_option maxRecDepth 20000 in
theorem tw_937 : Cond.instanceMethod yX9_restore ∈ GW := gw_in (lt_4 (List.mem_of_getElem? (i := 217) rfl)) rfl
set_option maxRecDepth 20000 in
theorem tw_938 : Cond.selects RX9 yX9_restore yX9_restore ∈ GW := gw_in (lt_4 (List.mem_of_getElem? (i := 218) rfl)) rfl
set_option maxRecDepth 20000 in
theorem tw_939 : Cond.code yX9_restore cX9_restore 2 (some .int) ∈ GW := gw_in (lt_4 (List.mem_of_getElem? (i := 219) rfl)) rfl
set_option maxRecDepth 20000 in
theorem tw_940 : Cond.methodLink RL 218 yX9_count ∈ GW := gw_in (lt_4 (List.mem_of_getElem? (i := 220) rfl)) rfl
set_option maxRecDepth 20000 in
theorem tw_941 : Cond.instanceMethod yX9_count ∈ GW := gw_in (lt_4 (List.mem_of_getElem? (i := 221) rfl)) rfl
set_option maxRecDepth 20000 in
theorem tw_942 : Cond.selects RX9 yX9_count yX9_count ∈ GW := gw_in (lt_4 (List.mem_of_getElem? (i := 222) rfl)) rfl
set_option maxRecDepth 20000 in
theorem tw_943 : Cond.code yX9_count cX9_count 2 (some .int) ∈ GW := gw_in (lt_4 (List.mem_of_getElem? (i := 223) rfl)) rfl
set_option maxRecDepth 20000 in
theorem tw_944 : Cond.methodLink RX9 335 yX0_allPages ∈ GW := gw_in (lt_4 (List.mem_of_getElem? (i := 224) rfl)) rfl
set_option maxRecDepth 20000 in
theorem tw_945 : Cond.instanceMethod yX0_allPages ∈ GW := gw_in (lt_4 (List.mem_of_getElem? (i := 225) rfl)) rfl
set_option maxRecDepth 20000 in
theorem tw_946 : Cond.selects RX0 yX0_allPages yX0_allPages ∈ GW := gw_in (lt_4 (List.mem_of_getElem? (i := 226) rfl)) rfl
set_option maxRecDepth 20000 in
theorem tw_947 : Cond.code yX0_allPages cX0_allPages 4 (some .int) ∈ GW := gw_in (lt_4 (List.mem_of_getElem? (i := 227) rfl)) rfl
set_option maxRecDepth 20000 in
theorem tw_948 : Cond.classLink RL 10 RX10 ∈ GW := gw_in (lt_4 (List.mem_of_getElem? (i := 228) rfl)) rfl
set_option maxRecDepth 20000 in
theorem tw_949 : Cond.instantiable RX10 21 ∈ GW := gw_in (lt_4 (List.mem_of_getElem? (i := 229) rfl)) rfl
set_option maxRecDepth 20000 in
theorem tw_950 : Cond.methodLink RL 12 yX10_init ∈ GW := gw_in (lt_4 (List.mem_of_getElem? (i := 230) rfl)) rfl
set_option maxRecDepth 20000 in
theorem tw_951 : Cond.instanceMethod yX10_init ∈ GW := gw_in (lt_4 (List.mem_of_getElem? (i := 231) rfl)) rfl
set_option maxRecDepth 20000 in
theorem tw_952 : Cond.code yX10_init cX10_init 1 none ∈ GW := gw_in (lt_4 (List.mem_of_getElem? (i := 232) rfl)) rfl
set_option maxRecDepth 20000 in
theorem tw_953 : Cond.methodLink RX10 7 Lib.objectInit ∈ GW := gw_in (lt_4 (List.mem_of_getElem? (i := 233) rfl)) rfl
set_option maxRecDepth 20000 in
theorem tw_954 : Cond.methodLink RX10 69 yX10_laysGroup ∈ GW := gw_in (lt_4 (List.mem_of_getElem? (i := 234) rfl)) rfl
set_option maxRecDepth 20000 in
theorem tw_956 : Cond.instanceMethod yX10_laysGroup ∈ GW := gw_in (lt_4 (List.mem_of_getElem? (i := 236) rfl)) rfl
set_option maxRecDepth 20000 in
theorem tw_957 : Cond.code yX10_laysGroup cX10_laysGroup 4 none ∈ GW := gw_in (lt_4 (List.mem_of_getElem? (i := 237) rfl)) rfl
set_option maxRecDepth 20000 in
theorem tw_958 : Cond.methodLink RX10 95 yX10_lays ∈ GW := gw_in (lt_4 (List.mem_of_getElem? (i := 238) rfl)) rfl
set_option maxRecDepth 20000 in
theorem tw_960 : Cond.instanceMethod yX10_lays ∈ GW := gw_in (lt_5 (List.mem_of_getElem? (i := 0) rfl)) rfl
set_option maxRecDepth 20000 in
theorem tw_961 : Cond.code yX10_lays cX10_lays 4 none ∈ GW := gw_in (lt_5 (List.mem_of_getElem? (i := 1) rfl)) rfl
set_option maxRecDepth 20000 in
theorem tw_962 : Cond.fieldLink RX10 1 "GroupLimitsModel" "thrown" "I" ∈ GW := gw_in (lt_5 (List.mem_of_getElem? (i := 2) rfl)) rfl
set_option maxRecDepth 20000 in
theorem tw_963 : Cond.fieldLink RX10 13 "GroupLimitsModel" "all" "[I" ∈ GW := gw_in (lt_5 (List.mem_of_getElem? (i := 3) rfl)) rfl
set_option maxRecDepth 20000 in
theorem tw_964 : Cond.fieldLink RX10 17 "GroupLimitsModel" "deeds" "[I" ∈ GW := gw_in (lt_5 (List.mem_of_getElem? (i := 4) rfl)) rfl
set_option maxRecDepth 20000 in
theorem tw_965 : Cond.fieldLink RX10 20 "GroupLimitsModel" "aside" "[I" ∈ GW := gw_in (lt_5 (List.mem_of_getElem? (i := 5) rfl)) rfl
set_option maxRecDepth 20000 in
theorem tw_966 : Cond.fieldLink RX10 23 "GroupLimitsModel" "paper" "[I" ∈ GW := gw_in (lt_5 (List.mem_of_getElem? (i := 6) rfl)) rfl
set_option maxRecDepth 20000 in
theorem tw_967 : Cond.fieldLink RX10 26 "GroupLimitsModel" "lowLimit" "[I" ∈ GW := gw_in (lt_5 (List.mem_of_getElem? (i := 7) rfl)) rfl
set_option maxRecDepth 20000 in
theorem tw_968 : Cond.fieldLink RX10 29 "GroupLimitsModel" "highLimit" "[I" ∈ GW := gw_in (lt_5 (List.mem_of_getElem? (i := 8) rfl)) rfl
set_option maxRecDepth 20000 in
theorem tw_969 : Cond.fieldLink RX10 32 "GroupLimitsModel" "window" "[I" ∈ GW := gw_in (lt_5 (List.mem_of_getElem? (i := 9) rfl)) rfl
set_option maxRecDepth 20000 in
theorem tw_970 : Cond.fieldLink RX10 77 "GroupLimitsModel" "deedMany" "I" ∈ GW := gw_in (lt_5 (List.mem_of_getElem? (i := 10) rfl)) rfl
set_option maxRecDepth 20000 in
theorem tw_971 : Cond.fieldLink RX10 35 "GroupLimitsModel" "hasImage" "[Z" ∈ GW := gw_in (lt_5 (List.mem_of_getElem? (i := 11) rfl)) rfl
set_option maxRecDepth 20000 in
theorem tw_972 : Cond.fieldLink RX10 39 "GroupLimitsModel" "totals" "[I" ∈ GW := gw_in (lt_5 (List.mem_of_getElem? (i := 12) rfl)) rfl
set_option maxRecDepth 20000 in
theorem tw_973 : Cond.fieldLink RX10 42 "GroupLimitsModel" "anons" "[I" ∈ GW := gw_in (lt_5 (List.mem_of_getElem? (i := 13) rfl)) rfl
set_option maxRecDepth 20000 in
theorem tw_974 : Cond.fieldLink RX10 45 "GroupLimitsModel" "caches" "[I" ∈ GW := gw_in (lt_5 (List.mem_of_getElem? (i := 14) rfl)) rfl
set_option maxRecDepth 20000 in
theorem tw_975 : Cond.fieldLink RX10 48 "GroupLimitsModel" "outs" "[I" ∈ GW := gw_in (lt_5 (List.mem_of_getElem? (i := 15) rfl)) rfl
set_option maxRecDepth 20000 in
theorem tw_976 : Cond.fieldLink RX10 51 "GroupLimitsModel" "claims" "[I" ∈ GW := gw_in (lt_5 (List.mem_of_getElem? (i := 16) rfl)) rfl
set_option maxRecDepth 20000 in
theorem tw_977 : Cond.fieldLink RX10 54 "GroupLimitsModel" "together" "[I" ∈ GW := gw_in (lt_5 (List.mem_of_getElem? (i := 17) rfl)) rfl
set_option maxRecDepth 20000 in
theorem tw_978 : Cond.fieldLink RX10 57 "GroupLimitsModel" "shares" "[I" ∈ GW := gw_in (lt_5 (List.mem_of_getElem? (i := 18) rfl)) rfl
set_option maxRecDepth 20000 in
theorem tw_979 : Cond.fieldLink RX10 60 "GroupLimitsModel" "asks" "[I" ∈ GW := gw_in (lt_5 (List.mem_of_getElem? (i := 19) rfl)) rfl
set_option maxRecDepth 20000 in
theorem tw_980 : Cond.fieldLink RX10 63 "GroupLimitsModel" "gets" "[I" ∈ GW := gw_in (lt_5 (List.mem_of_getElem? (i := 20) rfl)) rfl
set_option maxRecDepth 20000 in
theorem tw_981 : Cond.fieldLink RX10 66 "GroupLimitsModel" "inRound" "[Z" ∈ GW := gw_in (lt_5 (List.mem_of_getElem? (i := 21) rfl)) rfl
set_option maxRecDepth 20000 in
theorem tw_982 : Cond.fieldLink RX10 343 "GroupLimitsModel" "stallThen" "I" ∈ GW := gw_in (lt_5 (List.mem_of_getElem? (i := 22) rfl)) rfl
set_option maxRecDepth 20000 in
theorem tw_1026 : Cond.arrayClass .boolean ∈ GW := gw_in (lt_5 (List.mem_of_getElem? (i := 66) rfl)) rfl
set_option maxRecDepth 20000 in
theorem tw_1027 : Cond.methodLink RL 17 yX10_group ∈ GW := gw_in (lt_5 (List.mem_of_getElem? (i := 67) rfl)) rfl
set_option maxRecDepth 20000 in
theorem tw_1028 : Cond.instanceMethod yX10_group ∈ GW := gw_in (lt_5 (List.mem_of_getElem? (i := 68) rfl)) rfl
set_option maxRecDepth 20000 in
theorem tw_1029 : Cond.selects RX10 yX10_group yX10_group ∈ GW := gw_in (lt_5 (List.mem_of_getElem? (i := 69) rfl)) rfl
set_option maxRecDepth 20000 in
theorem tw_1030 : Cond.code yX10_group cX10_group 3 (some .int) ∈ GW := gw_in (lt_5 (List.mem_of_getElem? (i := 70) rfl)) rfl
set_option maxRecDepth 20000 in
theorem tw_1031 : Cond.methodLink RX10 107 yX10_isGroup ∈ GW := gw_in (lt_5 (List.mem_of_getElem? (i := 71) rfl)) rfl
set_option maxRecDepth 20000 in
theorem tw_1033 : Cond.instanceMethod yX10_isGroup ∈ GW := gw_in (lt_5 (List.mem_of_getElem? (i := 73) rfl)) rfl
set_option maxRecDepth 20000 in
theorem tw_1034 : Cond.code yX10_isGroup cX10_isGroup 2 (some .boolean) ∈ GW := gw_in (lt_5 (List.mem_of_getElem? (i := 74) rfl)) rfl
set_option maxRecDepth 20000 in
theorem tw_1035 : Cond.constantLong RX10 83 (11) ∈ GW := gw_in (lt_5 (List.mem_of_getElem? (i := 75) rfl)) rfl
set_option maxRecDepth 20000 in
theorem tw_1036 : Cond.methodLink RX10 85 yX10_within ∈ GW := gw_in (lt_5 (List.mem_of_getElem? (i := 76) rfl)) rfl
set_option maxRecDepth 20000 in
theorem tw_1037 : Cond.static yX10_within ∈ GW := gw_in (lt_5 (List.mem_of_getElem? (i := 77) rfl)) rfl
set_option maxRecDepth 20000 in
theorem tw_1038 : Cond.code yX10_within cX10_within 6 (some .boolean) ∈ GW := gw_in (lt_5 (List.mem_of_getElem? (i := 78) rfl)) rfl
set_option maxRecDepth 20000 in
theorem tw_1039 : Cond.methodLink RX10 89 yX10_has ∈ GW := gw_in (lt_5 (List.mem_of_getElem? (i := 79) rfl)) rfl
set_option maxRecDepth 20000 in
theorem tw_1040 : Cond.static yX10_has ∈ GW := gw_in (lt_5 (List.mem_of_getElem? (i := 80) rfl)) rfl
set_option maxRecDepth 20000 in
theorem tw_1041 : Cond.code yX10_has cX10_has 2 (some .boolean) ∈ GW := gw_in (lt_5 (List.mem_of_getElem? (i := 81) rfl)) rfl
set_option maxRecDepth 20000 in
theorem tw_1042 : Cond.methodLink RX10 208 yX10_freeIn ∈ GW := gw_in (lt_5 (List.mem_of_getElem? (i := 82) rfl)) rfl
set_option maxRecDepth 20000 in
theorem tw_1043 : Cond.static yX10_freeIn ∈ GW := gw_in (lt_5 (List.mem_of_getElem? (i := 83) rfl)) rfl
set_option maxRecDepth 20000 in
theorem tw_1044 : Cond.code yX10_freeIn cX10_freeIn 3 (some .int) ∈ GW := gw_in (lt_5 (List.mem_of_getElem? (i := 84) rfl)) rfl
set_option maxRecDepth 20000 in
theorem tw_1045 : Cond.methodLink RX10 211 yX10_begins ∈ GW := gw_in (lt_5 (List.mem_of_getElem? (i := 85) rfl)) rfl
set_option maxRecDepth 20000 in
theorem tw_1047 : Cond.instanceMethod yX10_begins ∈ GW := gw_in (lt_5 (List.mem_of_getElem? (i := 87) rfl)) rfl
set_option maxRecDepth 20000 in
theorem tw_1048 : Cond.code yX10_begins cX10_begins 1 none ∈ GW := gw_in (lt_5 (List.mem_of_getElem? (i := 88) rfl)) rfl
set_option maxRecDepth 20000 in
theorem tw_1049 : Cond.methodLink RX10 73 yX10_copies ∈ GW := gw_in (lt_5 (List.mem_of_getElem? (i := 89) rfl)) rfl
set_option maxRecDepth 20000 in
theorem tw_1050 : Cond.static yX10_copies ∈ GW := gw_in (lt_5 (List.mem_of_getElem? (i := 90) rfl)) rfl
set_option maxRecDepth 20000 in
theorem tw_1051 : Cond.code yX10_copies cX10_copies 5 none ∈ GW := gw_in (lt_5 (List.mem_of_getElem? (i := 91) rfl)) rfl
set_option maxRecDepth 20000 in
theorem tw_1052 : Cond.methodLink RX10 214 yX10_ends ∈ GW := gw_in (lt_5 (List.mem_of_getElem? (i := 92) rfl)) rfl
set_option maxRecDepth 20000 in
theorem tw_1054 : Cond.instanceMethod yX10_ends ∈ GW := gw_in (lt_5 (List.mem_of_getElem? (i := 94) rfl)) rfl
set_option maxRecDepth 20000 in
theorem tw_1055 : Cond.code yX10_ends cX10_ends 3 (some .int) ∈ GW := gw_in (lt_5 (List.mem_of_getElem? (i := 95) rfl)) rfl
set_option maxRecDepth 20000 in
theorem tw_1056 : Cond.methodLink RX10 80 yX10_notes ∈ GW := gw_in (lt_5 (List.mem_of_getElem? (i := 96) rfl)) rfl
set_option maxRecDepth 20000 in
theorem tw_1058 : Cond.instanceMethod yX10_notes ∈ GW := gw_in (lt_5 (List.mem_of_getElem? (i := 98) rfl)) rfl
set_option maxRecDepth 20000 in
theorem tw_1059 : Cond.code yX10_notes cX10_notes 2 none ∈ GW := gw_in (lt_5 (List.mem_of_getElem? (i := 99) rfl)) rfl
set_option maxRecDepth 20000 in
theorem tw_1060 : Cond.methodLink RL 21 yX10_remove ∈ GW := gw_in (lt_5 (List.mem_of_getElem? (i := 100) rfl)) rfl
set_option maxRecDepth 20000 in
theorem tw_1061 : Cond.instanceMethod yX10_remove ∈ GW := gw_in (lt_5 (List.mem_of_getElem? (i := 101) rfl)) rfl
set_option maxRecDepth 20000 in
theorem tw_1062 : Cond.selects RX10 yX10_remove yX10_remove ∈ GW := gw_in (lt_5 (List.mem_of_getElem? (i := 102) rfl)) rfl
set_option maxRecDepth 20000 in
theorem tw_1063 : Cond.code yX10_remove cX10_remove 7 (some .int) ∈ GW := gw_in (lt_5 (List.mem_of_getElem? (i := 103) rfl)) rfl
set_option maxRecDepth 20000 in
theorem tw_1064 : Cond.methodLink RX10 218 yX10_isInUse ∈ GW := gw_in (lt_5 (List.mem_of_getElem? (i := 104) rfl)) rfl
set_option maxRecDepth 20000 in
theorem tw_1066 : Cond.instanceMethod yX10_isInUse ∈ GW := gw_in (lt_5 (List.mem_of_getElem? (i := 106) rfl)) rfl
set_option maxRecDepth 20000 in
theorem tw_1067 : Cond.code yX10_isInUse cX10_isInUse 3 (some .boolean) ∈ GW := gw_in (lt_5 (List.mem_of_getElem? (i := 107) rfl)) rfl
set_option maxRecDepth 20000 in
theorem tw_1068 : Cond.methodLink RX10 103 yX10_parentOf ∈ GW := gw_in (lt_5 (List.mem_of_getElem? (i := 108) rfl)) rfl
set_option maxRecDepth 20000 in
theorem tw_1070 : Cond.instanceMethod yX10_parentOf ∈ GW := gw_in (lt_5 (List.mem_of_getElem? (i := 110) rfl)) rfl
set_option maxRecDepth 20000 in
theorem tw_1071 : Cond.code yX10_parentOf cX10_parentOf 2 (some .int) ∈ GW := gw_in (lt_5 (List.mem_of_getElem? (i := 111) rfl)) rfl
set_option maxRecDepth 20000 in
theorem tw_1072 : Cond.methodLink RX10 99 yX10_of ∈ GW := gw_in (lt_5 (List.mem_of_getElem? (i := 112) rfl)) rfl
set_option maxRecDepth 20000 in
theorem tw_1074 : Cond.instanceMethod yX10_of ∈ GW := gw_in (lt_5 (List.mem_of_getElem? (i := 114) rfl)) rfl
set_option maxRecDepth 20000 in
theorem tw_1075 : Cond.code yX10_of cX10_of 4 (some .int) ∈ GW := gw_in (lt_5 (List.mem_of_getElem? (i := 115) rfl)) rfl
set_option maxRecDepth 20000 in
theorem tw_1076 : Cond.methodLink RX10 117 yX10_isProcess ∈ GW := gw_in (lt_5 (List.mem_of_getElem? (i := 116) rfl)) rfl
set_option maxRecDepth 20000 in
theorem tw_1078 : Cond.instanceMethod yX10_isProcess ∈ GW := gw_in (lt_5 (List.mem_of_getElem? (i := 118) rfl)) rfl
set_option maxRecDepth 20000 in
theorem tw_1079 : Cond.code yX10_isProcess cX10_isProcess 2 (some .boolean) ∈ GW := gw_in (lt_5 (List.mem_of_getElem? (i := 119) rfl)) rfl
set_option maxRecDepth 20000 in
theorem tw_1080 : Cond.constantLong RX10 93 (15) ∈ GW := gw_in (lt_5 (List.mem_of_getElem? (i := 120) rfl)) rfl
set_option maxRecDepth 20000 in
theorem tw_1081 : Cond.methodLink RX10 120 yX10_groupOf ∈ GW := gw_in (lt_5 (List.mem_of_getElem? (i := 121) rfl)) rfl
set_option maxRecDepth 20000 in
theorem tw_1083 : Cond.instanceMethod yX10_groupOf ∈ GW := gw_in (lt_5 (List.mem_of_getElem? (i := 123) rfl)) rfl
set_option maxRecDepth 20000 in
theorem tw_1084 : Cond.code yX10_groupOf cX10_groupOf 2 (some .int) ∈ GW := gw_in (lt_5 (List.mem_of_getElem? (i := 124) rfl)) rfl
set_option maxRecDepth 20000 in
theorem tw_1085 : Cond.methodLink RX10 114 yX10_ofProcess ∈ GW := gw_in (lt_5 (List.mem_of_getElem? (i := 125) rfl)) rfl
set_option maxRecDepth 20000 in
theorem tw_1087 : Cond.instanceMethod yX10_ofProcess ∈ GW := gw_in (lt_5 (List.mem_of_getElem? (i := 127) rfl)) rfl
set_option maxRecDepth 20000 in
theorem tw_1088 : Cond.code yX10_ofProcess cX10_ofProcess 4 (some .int) ∈ GW := gw_in (lt_5 (List.mem_of_getElem? (i := 128) rfl)) rfl
set_option maxRecDepth 20000 in
theorem tw_1089 : Cond.methodLink RL 26 yX10_limit ∈ GW := gw_in (lt_5 (List.mem_of_getElem? (i := 129) rfl)) rfl
set_option maxRecDepth 20000 in
theorem tw_1090 : Cond.instanceMethod yX10_limit ∈ GW := gw_in (lt_5 (List.mem_of_getElem? (i := 130) rfl)) rfl
set_option maxRecDepth 20000 in
theorem tw_1091 : Cond.selects RX10 yX10_limit yX10_limit ∈ GW := gw_in (lt_5 (List.mem_of_getElem? (i := 131) rfl)) rfl
set_option maxRecDepth 20000 in
theorem tw_1092 : Cond.code yX10_limit cX10_limit 5 (some .int) ∈ GW := gw_in (lt_5 (List.mem_of_getElem? (i := 132) rfl)) rfl
set_option maxRecDepth 20000 in
theorem tw_1093 : Cond.constantLong RX10 221 (8) ∈ GW := gw_in (lt_5 (List.mem_of_getElem? (i := 133) rfl)) rfl
set_option maxRecDepth 20000 in
theorem tw_1094 : Cond.methodLink RX10 223 yX10_limits ∈ GW := gw_in (lt_5 (List.mem_of_getElem? (i := 134) rfl)) rfl
set_option maxRecDepth 20000 in
theorem tw_1096 : Cond.instanceMethod yX10_limits ∈ GW := gw_in (lt_5 (List.mem_of_getElem? (i := 136) rfl)) rfl
set_option maxRecDepth 20000 in
theorem tw_1097 : Cond.code yX10_limits cX10_limits 5 (some .boolean) ∈ GW := gw_in (lt_5 (List.mem_of_getElem? (i := 137) rfl)) rfl
set_option maxRecDepth 20000 in
theorem tw_1098 : Cond.methodLink RX10 184 yX10_totalOf ∈ GW := gw_in (lt_5 (List.mem_of_getElem? (i := 138) rfl)) rfl
set_option maxRecDepth 20000 in
theorem tw_1100 : Cond.instanceMethod yX10_totalOf ∈ GW := gw_in (lt_5 (List.mem_of_getElem? (i := 140) rfl)) rfl
set_option maxRecDepth 20000 in
theorem tw_1101 : Cond.code yX10_totalOf cX10_totalOf 2 (some .int) ∈ GW := gw_in (lt_5 (List.mem_of_getElem? (i := 141) rfl)) rfl
set_option maxRecDepth 20000 in
theorem tw_1102 : Cond.methodLink RX10 127 yX10_laysTotals ∈ GW := gw_in (lt_5 (List.mem_of_getElem? (i := 142) rfl)) rfl
set_option maxRecDepth 20000 in
theorem tw_1104 : Cond.instanceMethod yX10_laysTotals ∈ GW := gw_in (lt_5 (List.mem_of_getElem? (i := 144) rfl)) rfl
set_option maxRecDepth 20000 in
theorem tw_1105 : Cond.code yX10_laysTotals cX10_laysTotals 2 none ∈ GW := gw_in (lt_5 (List.mem_of_getElem? (i := 145) rfl)) rfl
set_option maxRecDepth 20000 in
theorem tw_1106 : Cond.methodLink RX10 130 yX10_adds ∈ GW := gw_in (lt_5 (List.mem_of_getElem? (i := 146) rfl)) rfl
set_option maxRecDepth 20000 in
theorem tw_1108 : Cond.instanceMethod yX10_adds ∈ GW := gw_in (lt_5 (List.mem_of_getElem? (i := 148) rfl)) rfl
set_option maxRecDepth 20000 in
theorem tw_1109 : Cond.code yX10_adds cX10_adds 5 none ∈ GW := gw_in (lt_5 (List.mem_of_getElem? (i := 149) rfl)) rfl
set_option maxRecDepth 20000 in
theorem tw_1110 : Cond.methodLink RX10 134 yX10_pagesOf ∈ GW := gw_in (lt_5 (List.mem_of_getElem? (i := 150) rfl)) rfl
set_option maxRecDepth 20000 in
theorem tw_1112 : Cond.instanceMethod yX10_pagesOf ∈ GW := gw_in (lt_5 (List.mem_of_getElem? (i := 152) rfl)) rfl
set_option maxRecDepth 20000 in
theorem tw_1113 : Cond.code yX10_pagesOf cX10_pagesOf 2 (some .int) ∈ GW := gw_in (lt_5 (List.mem_of_getElem? (i := 153) rfl)) rfl
set_option maxRecDepth 20000 in
theorem tw_1114 : Cond.methodLink RX10 190 yX10_takes ∈ GW := gw_in (lt_5 (List.mem_of_getElem? (i := 154) rfl)) rfl
set_option maxRecDepth 20000 in
theorem tw_1116 : Cond.instanceMethod yX10_takes ∈ GW := gw_in (lt_5 (List.mem_of_getElem? (i := 156) rfl)) rfl
set_option maxRecDepth 20000 in
theorem tw_1117 : Cond.code yX10_takes cX10_takes 5 (some .int) ∈ GW := gw_in (lt_5 (List.mem_of_getElem? (i := 157) rfl)) rfl
set_option maxRecDepth 20000 in
theorem tw_1118 : Cond.methodLink RX10 152 yX10_drains ∈ GW := gw_in (lt_5 (List.mem_of_getElem? (i := 158) rfl)) rfl
set_option maxRecDepth 20000 in
theorem tw_1120 : Cond.instanceMethod yX10_drains ∈ GW := gw_in (lt_5 (List.mem_of_getElem? (i := 160) rfl)) rfl
set_option maxRecDepth 20000 in
theorem tw_1121 : Cond.code yX10_drains cX10_drains 4 (some .int) ∈ GW := gw_in (lt_5 (List.mem_of_getElem? (i := 161) rfl)) rfl
set_option maxRecDepth 20000 in
theorem tw_1122 : Cond.methodLink RX10 111 yX10_isBelow ∈ GW := gw_in (lt_5 (List.mem_of_getElem? (i := 162) rfl)) rfl
set_option maxRecDepth 20000 in
theorem tw_1124 : Cond.instanceMethod yX10_isBelow ∈ GW := gw_in (lt_5 (List.mem_of_getElem? (i := 164) rfl)) rfl
set_option maxRecDepth 20000 in
theorem tw_1125 : Cond.code yX10_isBelow cX10_isBelow 4 (some .boolean) ∈ GW := gw_in (lt_5 (List.mem_of_getElem? (i := 165) rfl)) rfl
set_option maxRecDepth 20000 in
theorem tw_1126 : Cond.methodLink RX10 155 yX10_takesOf ∈ GW := gw_in (lt_5 (List.mem_of_getElem? (i := 166) rfl)) rfl
set_option maxRecDepth 20000 in
theorem tw_1128 : Cond.instanceMethod yX10_takesOf ∈ GW := gw_in (lt_5 (List.mem_of_getElem? (i := 168) rfl)) rfl
set_option maxRecDepth 20000 in
theorem tw_1129 : Cond.code yX10_takesOf cX10_takesOf 9 (some .int) ∈ GW := gw_in (lt_5 (List.mem_of_getElem? (i := 169) rfl)) rfl
set_option maxRecDepth 20000 in
theorem tw_1130 : Cond.methodLink RX10 159 yX10_nextOf ∈ GW := gw_in (lt_5 (List.mem_of_getElem? (i := 170) rfl)) rfl
set_option maxRecDepth 20000 in
theorem tw_1132 : Cond.instanceMethod yX10_nextOf ∈ GW := gw_in (lt_5 (List.mem_of_getElem? (i := 172) rfl)) rfl
set_option maxRecDepth 20000 in
theorem tw_1133 : Cond.code yX10_nextOf cX10_nextOf 7 (some .int) ∈ GW := gw_in (lt_5 (List.mem_of_getElem? (i := 173) rfl)) rfl
set_option maxRecDepth 20000 in
theorem tw_1134 : Cond.methodLink RX10 146 yX10_laysShares ∈ GW := gw_in (lt_5 (List.mem_of_getElem? (i := 174) rfl)) rfl
set_option maxRecDepth 20000 in
theorem tw_1136 : Cond.instanceMethod yX10_laysShares ∈ GW := gw_in (lt_5 (List.mem_of_getElem? (i := 176) rfl)) rfl
set_option maxRecDepth 20000 in
theorem tw_1137 : Cond.code yX10_laysShares cX10_laysShares 5 none ∈ GW := gw_in (lt_5 (List.mem_of_getElem? (i := 177) rfl)) rfl
set_option maxRecDepth 20000 in
theorem tw_1138 : Cond.methodLink RX10 137 yX10_lesser ∈ GW := gw_in (lt_5 (List.mem_of_getElem? (i := 178) rfl)) rfl
set_option maxRecDepth 20000 in
theorem tw_1139 : Cond.static yX10_lesser ∈ GW := gw_in (lt_5 (List.mem_of_getElem? (i := 179) rfl)) rfl
set_option maxRecDepth 20000 in
theorem tw_1140 : Cond.code yX10_lesser cX10_lesser 2 (some .int) ∈ GW := gw_in (lt_5 (List.mem_of_getElem? (i := 180) rfl)) rfl
set_option maxRecDepth 20000 in
theorem tw_1141 : Cond.methodLink RX10 140 yX10_sharedOut ∈ GW := gw_in (lt_5 (List.mem_of_getElem? (i := 181) rfl)) rfl
set_option maxRecDepth 20000 in
theorem tw_1143 : Cond.instanceMethod yX10_sharedOut ∈ GW := gw_in (lt_5 (List.mem_of_getElem? (i := 183) rfl)) rfl
set_option maxRecDepth 20000 in
theorem tw_1144 : Cond.code yX10_sharedOut cX10_sharedOut 4 (some .int) ∈ GW := gw_in (lt_5 (List.mem_of_getElem? (i := 184) rfl)) rfl
set_option maxRecDepth 20000 in
theorem tw_1145 : Cond.methodLink RX10 149 yX10_spareOf ∈ GW := gw_in (lt_5 (List.mem_of_getElem? (i := 185) rfl)) rfl
set_option maxRecDepth 20000 in
theorem tw_1147 : Cond.instanceMethod yX10_spareOf ∈ GW := gw_in (lt_5 (List.mem_of_getElem? (i := 187) rfl)) rfl
set_option maxRecDepth 20000 in
theorem tw_1148 : Cond.code yX10_spareOf cX10_spareOf 6 (some .int) ∈ GW := gw_in (lt_5 (List.mem_of_getElem? (i := 188) rfl)) rfl
set_option maxRecDepth 20000 in
theorem tw_1149 : Cond.methodLink RX10 143 yX10_greater ∈ GW := gw_in (lt_5 (List.mem_of_getElem? (i := 189) rfl)) rfl
set_option maxRecDepth 20000 in
theorem tw_1150 : Cond.static yX10_greater ∈ GW := gw_in (lt_5 (List.mem_of_getElem? (i := 190) rfl)) rfl
set_option maxRecDepth 20000 in
theorem tw_1151 : Cond.code yX10_greater cX10_greater 2 (some .int) ∈ GW := gw_in (lt_5 (List.mem_of_getElem? (i := 191) rfl)) rfl
set_option maxRecDepth 20000 in
theorem tw_1152 : Cond.methodLink RX10 162 yX10_mostIn ∈ GW := gw_in (lt_5 (List.mem_of_getElem? (i := 192) rfl)) rfl
set_option maxRecDepth 20000 in
theorem tw_1154 : Cond.instanceMethod yX10_mostIn ∈ GW := gw_in (lt_5 (List.mem_of_getElem? (i := 194) rfl)) rfl
set_option maxRecDepth 20000 in
theorem tw_1155 : Cond.code yX10_mostIn cX10_mostIn 5 (some .int) ∈ GW := gw_in (lt_5 (List.mem_of_getElem? (i := 195) rfl)) rfl
set_option maxRecDepth 20000 in
theorem tw_1156 : Cond.methodLink RX10 193 yX10_deathBelow ∈ GW := gw_in (lt_5 (List.mem_of_getElem? (i := 196) rfl)) rfl
set_option maxRecDepth 20000 in
theorem tw_1158 : Cond.instanceMethod yX10_deathBelow ∈ GW := gw_in (lt_5 (List.mem_of_getElem? (i := 198) rfl)) rfl
set_option maxRecDepth 20000 in
theorem tw_1159 : Cond.code yX10_deathBelow cX10_deathBelow 4 (some .int) ∈ GW := gw_in (lt_5 (List.mem_of_getElem? (i := 199) rfl)) rfl
set_option maxRecDepth 20000 in
theorem tw_1160 : Cond.methodLink RX10 177 yX10_dyingBelow ∈ GW := gw_in (lt_5 (List.mem_of_getElem? (i := 200) rfl)) rfl
set_option maxRecDepth 20000 in
theorem tw_1162 : Cond.instanceMethod yX10_dyingBelow ∈ GW := gw_in (lt_5 (List.mem_of_getElem? (i := 202) rfl)) rfl
set_option maxRecDepth 20000 in
theorem tw_1163 : Cond.code yX10_dyingBelow cX10_dyingBelow 6 (some .int) ∈ GW := gw_in (lt_5 (List.mem_of_getElem? (i := 203) rfl)) rfl
set_option maxRecDepth 20000 in
theorem tw_1164 : Cond.methodLink RX10 168 yX10_victimBelow ∈ GW := gw_in (lt_5 (List.mem_of_getElem? (i := 204) rfl)) rfl
set_option maxRecDepth 20000 in
theorem tw_1166 : Cond.instanceMethod yX10_victimBelow ∈ GW := gw_in (lt_5 (List.mem_of_getElem? (i := 206) rfl)) rfl
set_option maxRecDepth 20000 in
theorem tw_1167 : Cond.code yX10_victimBelow cX10_victimBelow 4 (some .int) ∈ GW := gw_in (lt_5 (List.mem_of_getElem? (i := 207) rfl)) rfl
set_option maxRecDepth 20000 in
theorem tw_1168 : Cond.methodLink RX10 165 yX10_badnessOf ∈ GW := gw_in (lt_5 (List.mem_of_getElem? (i := 208) rfl)) rfl
set_option maxRecDepth 20000 in
theorem tw_1170 : Cond.instanceMethod yX10_badnessOf ∈ GW := gw_in (lt_5 (List.mem_of_getElem? (i := 210) rfl)) rfl
set_option maxRecDepth 20000 in
theorem tw_1171 : Cond.code yX10_badnessOf cX10_badnessOf 2 (some .int) ∈ GW := gw_in (lt_5 (List.mem_of_getElem? (i := 211) rfl)) rfl
set_option maxRecDepth 20000 in
theorem tw_1172 : Cond.methodLink RX10 171 yX10_processesBelow ∈ GW := gw_in (lt_5 (List.mem_of_getElem? (i := 212) rfl)) rfl
set_option maxRecDepth 20000 in
theorem tw_1174 : Cond.instanceMethod yX10_processesBelow ∈ GW := gw_in (lt_5 (List.mem_of_getElem? (i := 214) rfl)) rfl
set_option maxRecDepth 20000 in
theorem tw_1175 : Cond.code yX10_processesBelow cX10_processesBelow 4 (some .int) ∈ GW := gw_in (lt_5 (List.mem_of_getElem? (i := 215) rfl)) rfl
set_option maxRecDepth 20000 in
theorem tw_1176 : Cond.methodLink RX10 180 yX10_dies ∈ GW := gw_in (lt_5 (List.mem_of_getElem? (i := 216) rfl)) rfl
set_option maxRecDepth 20000 in
theorem tw_1178 : Cond.instanceMethod yX10_dies ∈ GW := gw_in (lt_5 (List.mem_of_getElem? (i := 218) rfl)) rfl
set_option maxRecDepth 20000 in
theorem tw_1179 : Cond.code yX10_dies cX10_dies 3 none ∈ GW := gw_in (lt_5 (List.mem_of_getElem? (i := 219) rfl)) rfl
set_option maxRecDepth 20000 in
theorem tw_1180 : Cond.methodLink RX10 174 yX10_laysProcess ∈ GW := gw_in (lt_5 (List.mem_of_getElem? (i := 220) rfl)) rfl
set_option maxRecDepth 20000 in
theorem tw_1182 : Cond.instanceMethod yX10_laysProcess ∈ GW := gw_in (lt_5 (List.mem_of_getElem? (i := 222) rfl)) rfl
set_option maxRecDepth 20000 in
theorem tw_1183 : Cond.code yX10_laysProcess cX10_laysProcess 4 none ∈ GW := gw_in (lt_5 (List.mem_of_getElem? (i := 223) rfl)) rfl
set_option maxRecDepth 20000 in
theorem tw_1184 : Cond.methodLink RL 31 yX10_process ∈ GW := gw_in (lt_5 (List.mem_of_getElem? (i := 224) rfl)) rfl
set_option maxRecDepth 20000 in
theorem tw_1185 : Cond.instanceMethod yX10_process ∈ GW := gw_in (lt_5 (List.mem_of_getElem? (i := 225) rfl)) rfl
set_option maxRecDepth 20000 in
theorem tw_1186 : Cond.selects RX10 yX10_process yX10_process ∈ GW := gw_in (lt_5 (List.mem_of_getElem? (i := 226) rfl)) rfl
set_option maxRecDepth 20000 in
theorem tw_1187 : Cond.code yX10_process cX10_process 3 (some .int) ∈ GW := gw_in (lt_5 (List.mem_of_getElem? (i := 227) rfl)) rfl
set_option maxRecDepth 20000 in
theorem tw_1188 : Cond.constantLong RX10 227 (-10) ∈ GW := gw_in (lt_5 (List.mem_of_getElem? (i := 228) rfl)) rfl
set_option maxRecDepth 20000 in
theorem tw_1189 : Cond.constantLong RX10 229 (10) ∈ GW := gw_in (lt_5 (List.mem_of_getElem? (i := 229) rfl)) rfl
set_option maxRecDepth 20000 in
theorem tw_1190 : Cond.methodLink RX10 231 yX10_comes ∈ GW := gw_in (lt_5 (List.mem_of_getElem? (i := 230) rfl)) rfl
set_option maxRecDepth 20000 in
theorem tw_1192 : Cond.instanceMethod yX10_comes ∈ GW := gw_in (lt_5 (List.mem_of_getElem? (i := 232) rfl)) rfl
set_option maxRecDepth 20000 in
theorem tw_1193 : Cond.code yX10_comes cX10_comes 6 (some .int) ∈ GW := gw_in (lt_5 (List.mem_of_getElem? (i := 233) rfl)) rfl
set_option maxRecDepth 20000 in
theorem tw_1194 : Cond.methodLink RX10 237 yX10_isFull ∈ GW := gw_in (lt_5 (List.mem_of_getElem? (i := 234) rfl)) rfl
set_option maxRecDepth 20000 in
theorem tw_1196 : Cond.instanceMethod yX10_isFull ∈ GW := gw_in (lt_5 (List.mem_of_getElem? (i := 236) rfl)) rfl
set_option maxRecDepth 20000 in
theorem tw_1197 : Cond.code yX10_isFull cX10_isFull 2 (some .boolean) ∈ GW := gw_in (lt_5 (List.mem_of_getElem? (i := 237) rfl)) rfl
set_option maxRecDepth 20000 in
theorem tw_1198 : Cond.methodLink RX10 234 yX10_bits ∈ GW := gw_in (lt_5 (List.mem_of_getElem? (i := 238) rfl)) rfl
set_option maxRecDepth 20000 in
theorem tw_1199 : Cond.static yX10_bits ∈ GW := gw_in (lt_5 (List.mem_of_getElem? (i := 239) rfl)) rfl
set_option maxRecDepth 20000 in
theorem tw_1200 : Cond.code yX10_bits cX10_bits 3 (some .int) ∈ GW := gw_in (lt_6 (List.mem_of_getElem? (i := 0) rfl)) rfl
set_option maxRecDepth 20000 in
theorem tw_1201 : Cond.methodLink RL 35 yX10_fork ∈ GW := gw_in (lt_6 (List.mem_of_getElem? (i := 1) rfl)) rfl
set_option maxRecDepth 20000 in
theorem tw_1202 : Cond.instanceMethod yX10_fork ∈ GW := gw_in (lt_6 (List.mem_of_getElem? (i := 2) rfl)) rfl
set_option maxRecDepth 20000 in
theorem tw_1203 : Cond.selects RX10 yX10_fork yX10_fork ∈ GW := gw_in (lt_6 (List.mem_of_getElem? (i := 3) rfl)) rfl
set_option maxRecDepth 20000 in
theorem tw_1204 : Cond.code yX10_fork cX10_fork 2 (some .int) ∈ GW := gw_in (lt_6 (List.mem_of_getElem? (i := 4) rfl)) rfl
set_option maxRecDepth 20000 in
theorem tw_1205 : Cond.methodLink RL 39 yX10_charge ∈ GW := gw_in (lt_6 (List.mem_of_getElem? (i := 5) rfl)) rfl
set_option maxRecDepth 20000 in
theorem tw_1206 : Cond.instanceMethod yX10_charge ∈ GW := gw_in (lt_6 (List.mem_of_getElem? (i := 6) rfl)) rfl
set_option maxRecDepth 20000 in
theorem tw_1207 : Cond.selects RX10 yX10_charge yX10_charge ∈ GW := gw_in (lt_6 (List.mem_of_getElem? (i := 7) rfl)) rfl
set_option maxRecDepth 20000 in
theorem tw_1208 : Cond.code yX10_charge cX10_charge 6 (some .int) ∈ GW := gw_in (lt_6 (List.mem_of_getElem? (i := 8) rfl)) rfl
set_option maxRecDepth 20000 in
theorem tw_1209 : Cond.methodLink RX10 242 yX10_refusedBy ∈ GW := gw_in (lt_6 (List.mem_of_getElem? (i := 9) rfl)) rfl
set_option maxRecDepth 20000 in
theorem tw_1211 : Cond.instanceMethod yX10_refusedBy ∈ GW := gw_in (lt_6 (List.mem_of_getElem? (i := 11) rfl)) rfl
set_option maxRecDepth 20000 in
theorem tw_1212 : Cond.code yX10_refusedBy cX10_refusedBy 4 (some .int) ∈ GW := gw_in (lt_6 (List.mem_of_getElem? (i := 12) rfl)) rfl
set_option maxRecDepth 20000 in
theorem tw_1213 : Cond.constantLong RX10 240 (99) ∈ GW := gw_in (lt_6 (List.mem_of_getElem? (i := 13) rfl)) rfl
set_option maxRecDepth 20000 in
theorem tw_1214 : Cond.methodLink RX10 245 yX10_charges ∈ GW := gw_in (lt_6 (List.mem_of_getElem? (i := 14) rfl)) rfl
set_option maxRecDepth 20000 in
theorem tw_1216 : Cond.instanceMethod yX10_charges ∈ GW := gw_in (lt_6 (List.mem_of_getElem? (i := 16) rfl)) rfl
set_option maxRecDepth 20000 in
theorem tw_1217 : Cond.code yX10_charges cX10_charges 7 (some .int) ∈ GW := gw_in (lt_6 (List.mem_of_getElem? (i := 17) rfl)) rfl
set_option maxRecDepth 20000 in
theorem tw_1218 : Cond.methodLink RX10 199 yX10_areWithin ∈ GW := gw_in (lt_6 (List.mem_of_getElem? (i := 18) rfl)) rfl
set_option maxRecDepth 20000 in
theorem tw_1220 : Cond.instanceMethod yX10_areWithin ∈ GW := gw_in (lt_6 (List.mem_of_getElem? (i := 20) rfl)) rfl
set_option maxRecDepth 20000 in
theorem tw_1221 : Cond.code yX10_areWithin cX10_areWithin 4 (some .boolean) ∈ GW := gw_in (lt_6 (List.mem_of_getElem? (i := 21) rfl)) rfl
set_option maxRecDepth 20000 in
theorem tw_1222 : Cond.methodLink RX10 202 yX10_makesRoom ∈ GW := gw_in (lt_6 (List.mem_of_getElem? (i := 22) rfl)) rfl
set_option maxRecDepth 20000 in
theorem tw_1224 : Cond.instanceMethod yX10_makesRoom ∈ GW := gw_in (lt_6 (List.mem_of_getElem? (i := 24) rfl)) rfl
set_option maxRecDepth 20000 in
theorem tw_1225 : Cond.code yX10_makesRoom cX10_makesRoom 7 (some .int) ∈ GW := gw_in (lt_6 (List.mem_of_getElem? (i := 25) rfl)) rfl
set_option maxRecDepth 20000 in
theorem tw_1226 : Cond.methodLink RX10 187 yX10_firstAbove ∈ GW := gw_in (lt_6 (List.mem_of_getElem? (i := 26) rfl)) rfl
set_option maxRecDepth 20000 in
theorem tw_1228 : Cond.instanceMethod yX10_firstAbove ∈ GW := gw_in (lt_6 (List.mem_of_getElem? (i := 28) rfl)) rfl
set_option maxRecDepth 20000 in
theorem tw_1229 : Cond.code yX10_firstAbove cX10_firstAbove 4 (some .int) ∈ GW := gw_in (lt_6 (List.mem_of_getElem? (i := 29) rfl)) rfl
set_option maxRecDepth 20000 in
theorem tw_1230 : Cond.methodLink RX10 205 yX10_meetsHigh ∈ GW := gw_in (lt_6 (List.mem_of_getElem? (i := 30) rfl)) rfl
set_option maxRecDepth 20000 in
theorem tw_1232 : Cond.instanceMethod yX10_meetsHigh ∈ GW := gw_in (lt_6 (List.mem_of_getElem? (i := 32) rfl)) rfl
set_option maxRecDepth 20000 in
theorem tw_1233 : Cond.code yX10_meetsHigh cX10_meetsHigh 5 none ∈ GW := gw_in (lt_6 (List.mem_of_getElem? (i := 33) rfl)) rfl
set_option maxRecDepth 20000 in
theorem tw_1234 : Cond.methodLink RX10 196 yX10_stallsMore ∈ GW := gw_in (lt_6 (List.mem_of_getElem? (i := 34) rfl)) rfl
set_option maxRecDepth 20000 in
theorem tw_1236 : Cond.instanceMethod yX10_stallsMore ∈ GW := gw_in (lt_6 (List.mem_of_getElem? (i := 36) rfl)) rfl
set_option maxRecDepth 20000 in
theorem tw_1237 : Cond.code yX10_stallsMore cX10_stallsMore 3 none ∈ GW := gw_in (lt_6 (List.mem_of_getElem? (i := 37) rfl)) rfl
set_option maxRecDepth 20000 in
theorem tw_1238 : Cond.methodLink RL 43 yX10_uncharge ∈ GW := gw_in (lt_6 (List.mem_of_getElem? (i := 38) rfl)) rfl
set_option maxRecDepth 20000 in
theorem tw_1239 : Cond.instanceMethod yX10_uncharge ∈ GW := gw_in (lt_6 (List.mem_of_getElem? (i := 39) rfl)) rfl
set_option maxRecDepth 20000 in
theorem tw_1240 : Cond.selects RX10 yX10_uncharge yX10_uncharge ∈ GW := gw_in (lt_6 (List.mem_of_getElem? (i := 40) rfl)) rfl
set_option maxRecDepth 20000 in
theorem tw_1241 : Cond.code yX10_uncharge cX10_uncharge 6 (some .int) ∈ GW := gw_in (lt_6 (List.mem_of_getElem? (i := 41) rfl)) rfl
set_option maxRecDepth 20000 in
theorem tw_1242 : Cond.methodLink RX10 248 yX10_givesBack ∈ GW := gw_in (lt_6 (List.mem_of_getElem? (i := 42) rfl)) rfl
set_option maxRecDepth 20000 in
theorem tw_1244 : Cond.instanceMethod yX10_givesBack ∈ GW := gw_in (lt_6 (List.mem_of_getElem? (i := 44) rfl)) rfl
set_option maxRecDepth 20000 in
theorem tw_1245 : Cond.code yX10_givesBack cX10_givesBack 3 none ∈ GW := gw_in (lt_6 (List.mem_of_getElem? (i := 45) rfl)) rfl
set_option maxRecDepth 20000 in
theorem tw_1246 : Cond.methodLink RL 47 yX10_use ∈ GW := gw_in (lt_6 (List.mem_of_getElem? (i := 46) rfl)) rfl
set_option maxRecDepth 20000 in
theorem tw_1247 : Cond.instanceMethod yX10_use ∈ GW := gw_in (lt_6 (List.mem_of_getElem? (i := 47) rfl)) rfl
set_option maxRecDepth 20000 in
theorem tw_1248 : Cond.selects RX10 yX10_use yX10_use ∈ GW := gw_in (lt_6 (List.mem_of_getElem? (i := 48) rfl)) rfl
set_option maxRecDepth 20000 in
theorem tw_1249 : Cond.code yX10_use cX10_use 5 (some .int) ∈ GW := gw_in (lt_6 (List.mem_of_getElem? (i := 49) rfl)) rfl
set_option maxRecDepth 20000 in
theorem tw_1250 : Cond.constantLong RX10 251 (2) ∈ GW := gw_in (lt_6 (List.mem_of_getElem? (i := 50) rfl)) rfl
set_option maxRecDepth 20000 in
theorem tw_1251 : Cond.methodLink RL 51 yX10_work ∈ GW := gw_in (lt_6 (List.mem_of_getElem? (i := 51) rfl)) rfl
set_option maxRecDepth 20000 in
theorem tw_1252 : Cond.instanceMethod yX10_work ∈ GW := gw_in (lt_6 (List.mem_of_getElem? (i := 52) rfl)) rfl
set_option maxRecDepth 20000 in
theorem tw_1253 : Cond.selects RX10 yX10_work yX10_work ∈ GW := gw_in (lt_6 (List.mem_of_getElem? (i := 53) rfl)) rfl
set_option maxRecDepth 20000 in
theorem tw_1254 : Cond.code yX10_work cX10_work 3 (some .int) ∈ GW := gw_in (lt_6 (List.mem_of_getElem? (i := 54) rfl)) rfl
set_option maxRecDepth 20000 in
theorem tw_1255 : Cond.constantLong RX10 253 (999) ∈ GW := gw_in (lt_6 (List.mem_of_getElem? (i := 55) rfl)) rfl
set_option maxRecDepth 20000 in
theorem tw_1256 : Cond.methodLink RL 55 yX10_move ∈ GW := gw_in (lt_6 (List.mem_of_getElem? (i := 56) rfl)) rfl
set_option maxRecDepth 20000 in
theorem tw_1257 : Cond.instanceMethod yX10_move ∈ GW := gw_in (lt_6 (List.mem_of_getElem? (i := 57) rfl)) rfl
set_option maxRecDepth 20000 in
theorem tw_1258 : Cond.selects RX10 yX10_move yX10_move ∈ GW := gw_in (lt_6 (List.mem_of_getElem? (i := 58) rfl)) rfl
set_option maxRecDepth 20000 in
theorem tw_1259 : Cond.code yX10_move cX10_move 9 (some .int) ∈ GW := gw_in (lt_6 (List.mem_of_getElem? (i := 59) rfl)) rfl
set_option maxRecDepth 20000 in
theorem tw_1260 : Cond.methodLink RX10 255 yX10_hasRoomFor ∈ GW := gw_in (lt_6 (List.mem_of_getElem? (i := 60) rfl)) rfl
set_option maxRecDepth 20000 in
theorem tw_1262 : Cond.instanceMethod yX10_hasRoomFor ∈ GW := gw_in (lt_6 (List.mem_of_getElem? (i := 62) rfl)) rfl
set_option maxRecDepth 20000 in
theorem tw_1263 : Cond.code yX10_hasRoomFor cX10_hasRoomFor 4 (some .boolean) ∈ GW := gw_in (lt_6 (List.mem_of_getElem? (i := 63) rfl)) rfl
set_option maxRecDepth 20000 in
theorem tw_1264 : Cond.methodLink RL 59 yX10_kill ∈ GW := gw_in (lt_6 (List.mem_of_getElem? (i := 64) rfl)) rfl
set_option maxRecDepth 20000 in
theorem tw_1265 : Cond.instanceMethod yX10_kill ∈ GW := gw_in (lt_6 (List.mem_of_getElem? (i := 65) rfl)) rfl
set_option maxRecDepth 20000 in
theorem tw_1266 : Cond.selects RX10 yX10_kill yX10_kill ∈ GW := gw_in (lt_6 (List.mem_of_getElem? (i := 66) rfl)) rfl
set_option maxRecDepth 20000 in
theorem tw_1267 : Cond.code yX10_kill cX10_kill 3 (some .int) ∈ GW := gw_in (lt_6 (List.mem_of_getElem? (i := 67) rfl)) rfl
set_option maxRecDepth 20000 in
theorem tw_1268 : Cond.methodLink RL 63 yX10_take ∈ GW := gw_in (lt_6 (List.mem_of_getElem? (i := 68) rfl)) rfl
set_option maxRecDepth 20000 in
theorem tw_1269 : Cond.instanceMethod yX10_take ∈ GW := gw_in (lt_6 (List.mem_of_getElem? (i := 69) rfl)) rfl
set_option maxRecDepth 20000 in
theorem tw_1270 : Cond.selects RX10 yX10_take yX10_take ∈ GW := gw_in (lt_6 (List.mem_of_getElem? (i := 70) rfl)) rfl
set_option maxRecDepth 20000 in
theorem tw_1271 : Cond.code yX10_take cX10_take 3 (some .int) ∈ GW := gw_in (lt_6 (List.mem_of_getElem? (i := 71) rfl)) rfl
set_option maxRecDepth 20000 in
theorem tw_1272 : Cond.methodLink RL 67 yX10_drain ∈ GW := gw_in (lt_6 (List.mem_of_getElem? (i := 72) rfl)) rfl
set_option maxRecDepth 20000 in
theorem tw_1273 : Cond.instanceMethod yX10_drain ∈ GW := gw_in (lt_6 (List.mem_of_getElem? (i := 73) rfl)) rfl
set_option maxRecDepth 20000 in
theorem tw_1274 : Cond.selects RX10 yX10_drain yX10_drain ∈ GW := gw_in (lt_6 (List.mem_of_getElem? (i := 74) rfl)) rfl
set_option maxRecDepth 20000 in
theorem tw_1275 : Cond.code yX10_drain cX10_drain 2 (some .int) ∈ GW := gw_in (lt_6 (List.mem_of_getElem? (i := 75) rfl)) rfl
set_option maxRecDepth 20000 in
theorem tw_1276 : Cond.methodLink RL 71 yX10_batch ∈ GW := gw_in (lt_6 (List.mem_of_getElem? (i := 76) rfl)) rfl
set_option maxRecDepth 20000 in
theorem tw_1277 : Cond.instanceMethod yX10_batch ∈ GW := gw_in (lt_6 (List.mem_of_getElem? (i := 77) rfl)) rfl
set_option maxRecDepth 20000 in
theorem tw_1278 : Cond.selects RX10 yX10_batch yX10_batch ∈ GW := gw_in (lt_6 (List.mem_of_getElem? (i := 78) rfl)) rfl
set_option maxRecDepth 20000 in
theorem tw_1279 : Cond.code yX10_batch cX10_batch 3 (some .int) ∈ GW := gw_in (lt_6 (List.mem_of_getElem? (i := 79) rfl)) rfl
set_option maxRecDepth 20000 in
theorem tw_1280 : Cond.methodLink RL 75 yX10_swap ∈ GW := gw_in (lt_6 (List.mem_of_getElem? (i := 80) rfl)) rfl
set_option maxRecDepth 20000 in
theorem tw_1281 : Cond.instanceMethod yX10_swap ∈ GW := gw_in (lt_6 (List.mem_of_getElem? (i := 81) rfl)) rfl
set_option maxRecDepth 20000 in
theorem tw_1282 : Cond.selects RX10 yX10_swap yX10_swap ∈ GW := gw_in (lt_6 (List.mem_of_getElem? (i := 82) rfl)) rfl
set_option maxRecDepth 20000 in
theorem tw_1283 : Cond.code yX10_swap cX10_swap 3 (some .int) ∈ GW := gw_in (lt_6 (List.mem_of_getElem? (i := 83) rfl)) rfl
set_option maxRecDepth 20000 in
theorem tw_1284 : Cond.methodLink RX10 258 yX10_outOf ∈ GW := gw_in (lt_6 (List.mem_of_getElem? (i := 84) rfl)) rfl
set_option maxRecDepth 20000 in
theorem tw_1286 : Cond.instanceMethod yX10_outOf ∈ GW := gw_in (lt_6 (List.mem_of_getElem? (i := 86) rfl)) rfl
set_option maxRecDepth 20000 in
theorem tw_1287 : Cond.code yX10_outOf cX10_outOf 2 (some .int) ∈ GW := gw_in (lt_6 (List.mem_of_getElem? (i := 87) rfl)) rfl
set_option maxRecDepth 20000 in
theorem tw_1288 : Cond.methodLink RL 79 yX10_cap ∈ GW := gw_in (lt_6 (List.mem_of_getElem? (i := 88) rfl)) rfl
set_option maxRecDepth 20000 in
theorem tw_1289 : Cond.instanceMethod yX10_cap ∈ GW := gw_in (lt_6 (List.mem_of_getElem? (i := 89) rfl)) rfl
set_option maxRecDepth 20000 in
theorem tw_1290 : Cond.selects RX10 yX10_cap yX10_cap ∈ GW := gw_in (lt_6 (List.mem_of_getElem? (i := 90) rfl)) rfl
set_option maxRecDepth 20000 in
theorem tw_1291 : Cond.code yX10_cap cX10_cap 3 (some .int) ∈ GW := gw_in (lt_6 (List.mem_of_getElem? (i := 91) rfl)) rfl
set_option maxRecDepth 20000 in
theorem tw_1292 : Cond.methodLink RL 83 yX10_tick ∈ GW := gw_in (lt_6 (List.mem_of_getElem? (i := 92) rfl)) rfl
set_option maxRecDepth 20000 in
theorem tw_1293 : Cond.instanceMethod yX10_tick ∈ GW := gw_in (lt_6 (List.mem_of_getElem? (i := 93) rfl)) rfl
set_option maxRecDepth 20000 in
theorem tw_1294 : Cond.selects RX10 yX10_tick yX10_tick ∈ GW := gw_in (lt_6 (List.mem_of_getElem? (i := 94) rfl)) rfl
set_option maxRecDepth 20000 in
theorem tw_1295 : Cond.code yX10_tick cX10_tick 3 (some .int) ∈ GW := gw_in (lt_6 (List.mem_of_getElem? (i := 95) rfl)) rfl
set_option maxRecDepth 20000 in
theorem tw_1296 : Cond.constantLong RX10 305 (40) ∈ GW := gw_in (lt_6 (List.mem_of_getElem? (i := 96) rfl)) rfl
set_option maxRecDepth 20000 in
theorem tw_1297 : Cond.methodLink RX10 307 yX10_ticks ∈ GW := gw_in (lt_6 (List.mem_of_getElem? (i := 97) rfl)) rfl
set_option maxRecDepth 20000 in
theorem tw_1299 : Cond.instanceMethod yX10_ticks ∈ GW := gw_in (lt_6 (List.mem_of_getElem? (i := 99) rfl)) rfl
set_option maxRecDepth 20000 in
theorem tw_1300 : Cond.code yX10_ticks cX10_ticks 5 none ∈ GW := gw_in (lt_6 (List.mem_of_getElem? (i := 100) rfl)) rfl
set_option maxRecDepth 20000 in
theorem tw_1301 : Cond.methodLink RX10 288 yX10_works ∈ GW := gw_in (lt_6 (List.mem_of_getElem? (i := 101) rfl)) rfl
set_option maxRecDepth 20000 in
theorem tw_1303 : Cond.instanceMethod yX10_works ∈ GW := gw_in (lt_6 (List.mem_of_getElem? (i := 103) rfl)) rfl
set_option maxRecDepth 20000 in
theorem tw_1304 : Cond.code yX10_works cX10_works 2 none ∈ GW := gw_in (lt_6 (List.mem_of_getElem? (i := 104) rfl)) rfl
set_option maxRecDepth 20000 in
theorem tw_1305 : Cond.methodLink RX10 276 yX10_laysUnits ∈ GW := gw_in (lt_6 (List.mem_of_getElem? (i := 105) rfl)) rfl
set_option maxRecDepth 20000 in
theorem tw_1307 : Cond.instanceMethod yX10_laysUnits ∈ GW := gw_in (lt_6 (List.mem_of_getElem? (i := 107) rfl)) rfl
set_option maxRecDepth 20000 in
theorem tw_1308 : Cond.code yX10_laysUnits cX10_laysUnits 2 none ∈ GW := gw_in (lt_6 (List.mem_of_getElem? (i := 108) rfl)) rfl
set_option maxRecDepth 20000 in
theorem tw_1309 : Cond.methodLink RX10 261 yX10_laysAsks ∈ GW := gw_in (lt_6 (List.mem_of_getElem? (i := 109) rfl)) rfl
set_option maxRecDepth 20000 in
theorem tw_1311 : Cond.instanceMethod yX10_laysAsks ∈ GW := gw_in (lt_6 (List.mem_of_getElem? (i := 111) rfl)) rfl
set_option maxRecDepth 20000 in
theorem tw_1312 : Cond.code yX10_laysAsks cX10_laysAsks 4 (some .int) ∈ GW := gw_in (lt_6 (List.mem_of_getElem? (i := 112) rfl)) rfl
set_option maxRecDepth 20000 in
theorem tw_1313 : Cond.methodLink RX10 273 yX10_parts ∈ GW := gw_in (lt_6 (List.mem_of_getElem? (i := 113) rfl)) rfl
set_option maxRecDepth 20000 in
theorem tw_1315 : Cond.instanceMethod yX10_parts ∈ GW := gw_in (lt_6 (List.mem_of_getElem? (i := 115) rfl)) rfl
set_option maxRecDepth 20000 in
theorem tw_1316 : Cond.code yX10_parts cX10_parts 5 none ∈ GW := gw_in (lt_6 (List.mem_of_getElem? (i := 116) rfl)) rfl
set_option maxRecDepth 20000 in
theorem tw_1317 : Cond.methodLink RX10 270 yX10_round ∈ GW := gw_in (lt_6 (List.mem_of_getElem? (i := 117) rfl)) rfl
set_option maxRecDepth 20000 in
theorem tw_1319 : Cond.instanceMethod yX10_round ∈ GW := gw_in (lt_6 (List.mem_of_getElem? (i := 119) rfl)) rfl
set_option maxRecDepth 20000 in
theorem tw_1320 : Cond.code yX10_round cX10_round 8 (some .int) ∈ GW := gw_in (lt_6 (List.mem_of_getElem? (i := 120) rfl)) rfl
set_option maxRecDepth 20000 in
theorem tw_1321 : Cond.methodLink RX10 264 yX10_isOf ∈ GW := gw_in (lt_6 (List.mem_of_getElem? (i := 121) rfl)) rfl
set_option maxRecDepth 20000 in
theorem tw_1323 : Cond.instanceMethod yX10_isOf ∈ GW := gw_in (lt_6 (List.mem_of_getElem? (i := 123) rfl)) rfl
set_option maxRecDepth 20000 in
theorem tw_1324 : Cond.code yX10_isOf cX10_isOf 3 (some .boolean) ∈ GW := gw_in (lt_6 (List.mem_of_getElem? (i := 124) rfl)) rfl
set_option maxRecDepth 20000 in
theorem tw_1325 : Cond.methodLink RX10 267 yX10_weightOf ∈ GW := gw_in (lt_6 (List.mem_of_getElem? (i := 125) rfl)) rfl
set_option maxRecDepth 20000 in
theorem tw_1327 : Cond.instanceMethod yX10_weightOf ∈ GW := gw_in (lt_6 (List.mem_of_getElem? (i := 127) rfl)) rfl
set_option maxRecDepth 20000 in
theorem tw_1328 : Cond.code yX10_weightOf cX10_weightOf 2 (some .int) ∈ GW := gw_in (lt_6 (List.mem_of_getElem? (i := 128) rfl)) rfl
set_option maxRecDepth 20000 in
theorem tw_1329 : Cond.methodLink RX10 291 yX10_isOver ∈ GW := gw_in (lt_6 (List.mem_of_getElem? (i := 129) rfl)) rfl
set_option maxRecDepth 20000 in
theorem tw_1331 : Cond.instanceMethod yX10_isOver ∈ GW := gw_in (lt_6 (List.mem_of_getElem? (i := 131) rfl)) rfl
set_option maxRecDepth 20000 in
theorem tw_1332 : Cond.code yX10_isOver cX10_isOver 3 (some .boolean) ∈ GW := gw_in (lt_6 (List.mem_of_getElem? (i := 132) rfl)) rfl
set_option maxRecDepth 20000 in
theorem tw_1333 : Cond.methodLink RX10 285 yX10_pressureOf ∈ GW := gw_in (lt_6 (List.mem_of_getElem? (i := 133) rfl)) rfl
set_option maxRecDepth 20000 in
theorem tw_1335 : Cond.instanceMethod yX10_pressureOf ∈ GW := gw_in (lt_6 (List.mem_of_getElem? (i := 135) rfl)) rfl
set_option maxRecDepth 20000 in
theorem tw_1336 : Cond.code yX10_pressureOf cX10_pressureOf 8 (some .int) ∈ GW := gw_in (lt_6 (List.mem_of_getElem? (i := 136) rfl)) rfl
set_option maxRecDepth 20000 in
theorem tw_1337 : Cond.methodLink RX10 281 yX10_latestOf ∈ GW := gw_in (lt_6 (List.mem_of_getElem? (i := 137) rfl)) rfl
set_option maxRecDepth 20000 in
theorem tw_1339 : Cond.instanceMethod yX10_latestOf ∈ GW := gw_in (lt_6 (List.mem_of_getElem? (i := 139) rfl)) rfl
set_option maxRecDepth 20000 in
theorem tw_1340 : Cond.code yX10_latestOf cX10_latestOf 3 (some .long) ∈ GW := gw_in (lt_6 (List.mem_of_getElem? (i := 140) rfl)) rfl
set_option maxRecDepth 20000 in
theorem tw_1341 : Cond.methodLink RX10 294 yX10_isStalled ∈ GW := gw_in (lt_6 (List.mem_of_getElem? (i := 141) rfl)) rfl
set_option maxRecDepth 20000 in
theorem tw_1343 : Cond.instanceMethod yX10_isStalled ∈ GW := gw_in (lt_6 (List.mem_of_getElem? (i := 143) rfl)) rfl
set_option maxRecDepth 20000 in
theorem tw_1344 : Cond.code yX10_isStalled cX10_isStalled 7 (some .boolean) ∈ GW := gw_in (lt_6 (List.mem_of_getElem? (i := 144) rfl)) rfl
set_option maxRecDepth 20000 in
theorem tw_1345 : Cond.methodLink RX10 297 yX10_laysLatest ∈ GW := gw_in (lt_6 (List.mem_of_getElem? (i := 145) rfl)) rfl
set_option maxRecDepth 20000 in
theorem tw_1347 : Cond.instanceMethod yX10_laysLatest ∈ GW := gw_in (lt_6 (List.mem_of_getElem? (i := 147) rfl)) rfl
set_option maxRecDepth 20000 in
theorem tw_1348 : Cond.code yX10_laysLatest cX10_laysLatest 5 none ∈ GW := gw_in (lt_6 (List.mem_of_getElem? (i := 148) rfl)) rfl
set_option maxRecDepth 20000 in
theorem tw_1349 : Cond.constantLong RX10 279 (1048575) ∈ GW := gw_in (lt_6 (List.mem_of_getElem? (i := 149) rfl)) rfl
set_option maxRecDepth 20000 in
theorem tw_1350 : Cond.methodLink RX10 301 yX10_averages ∈ GW := gw_in (lt_6 (List.mem_of_getElem? (i := 150) rfl)) rfl
set_option maxRecDepth 20000 in
theorem tw_1352 : Cond.instanceMethod yX10_averages ∈ GW := gw_in (lt_6 (List.mem_of_getElem? (i := 152) rfl)) rfl
set_option maxRecDepth 20000 in
theorem tw_1353 : Cond.code yX10_averages cX10_averages 6 none ∈ GW := gw_in (lt_6 (List.mem_of_getElem? (i := 153) rfl)) rfl
set_option maxRecDepth 20000 in
theorem tw_1354 : Cond.methodLink RL 87 yX10_trigger ∈ GW := gw_in (lt_6 (List.mem_of_getElem? (i := 154) rfl)) rfl
set_option maxRecDepth 20000 in
theorem tw_1355 : Cond.instanceMethod yX10_trigger ∈ GW := gw_in (lt_6 (List.mem_of_getElem? (i := 155) rfl)) rfl
set_option maxRecDepth 20000 in
theorem tw_1356 : Cond.selects RX10 yX10_trigger yX10_trigger ∈ GW := gw_in (lt_6 (List.mem_of_getElem? (i := 156) rfl)) rfl
set_option maxRecDepth 20000 in
theorem tw_1357 : Cond.code yX10_trigger cX10_trigger 6 (some .int) ∈ GW := gw_in (lt_6 (List.mem_of_getElem? (i := 157) rfl)) rfl
set_option maxRecDepth 20000 in
theorem tw_1358 : Cond.methodLink RL 92 yX10_forget ∈ GW := gw_in (lt_6 (List.mem_of_getElem? (i := 158) rfl)) rfl
set_option maxRecDepth 20000 in
theorem tw_1359 : Cond.instanceMethod yX10_forget ∈ GW := gw_in (lt_6 (List.mem_of_getElem? (i := 159) rfl)) rfl
set_option maxRecDepth 20000 in
theorem tw_1360 : Cond.selects RX10 yX10_forget yX10_forget ∈ GW := gw_in (lt_6 (List.mem_of_getElem? (i := 160) rfl)) rfl
set_option maxRecDepth 20000 in
theorem tw_1361 : Cond.code yX10_forget cX10_forget 2 (some .int) ∈ GW := gw_in (lt_6 (List.mem_of_getElem? (i := 161) rfl)) rfl
set_option maxRecDepth 20000 in
theorem tw_1362 : Cond.methodLink RL 96 yX10_of_ ∈ GW := gw_in (lt_6 (List.mem_of_getElem? (i := 162) rfl)) rfl
set_option maxRecDepth 20000 in
theorem tw_1363 : Cond.instanceMethod yX10_of_ ∈ GW := gw_in (lt_6 (List.mem_of_getElem? (i := 163) rfl)) rfl
set_option maxRecDepth 20000 in
theorem tw_1364 : Cond.selects RX10 yX10_of_ yX10_of_ ∈ GW := gw_in (lt_6 (List.mem_of_getElem? (i := 164) rfl)) rfl
set_option maxRecDepth 20000 in
theorem tw_1365 : Cond.code yX10_of_ cX10_of_ 3 (some .int) ∈ GW := gw_in (lt_6 (List.mem_of_getElem? (i := 165) rfl)) rfl
set_option maxRecDepth 20000 in
theorem tw_1366 : Cond.methodLink RX10 310 yX10_ownOf ∈ GW := gw_in (lt_6 (List.mem_of_getElem? (i := 166) rfl)) rfl
set_option maxRecDepth 20000 in
theorem tw_1368 : Cond.instanceMethod yX10_ownOf ∈ GW := gw_in (lt_6 (List.mem_of_getElem? (i := 168) rfl)) rfl
set_option maxRecDepth 20000 in
theorem tw_1369 : Cond.code yX10_ownOf cX10_ownOf 2 (some .int) ∈ GW := gw_in (lt_6 (List.mem_of_getElem? (i := 169) rfl)) rfl
set_option maxRecDepth 20000 in
theorem tw_1370 : Cond.methodLink RX10 123 yX10_pagesIn ∈ GW := gw_in (lt_6 (List.mem_of_getElem? (i := 170) rfl)) rfl
set_option maxRecDepth 20000 in
theorem tw_1372 : Cond.instanceMethod yX10_pagesIn ∈ GW := gw_in (lt_6 (List.mem_of_getElem? (i := 172) rfl)) rfl
set_option maxRecDepth 20000 in
theorem tw_1373 : Cond.code yX10_pagesIn cX10_pagesIn 5 (some .int) ∈ GW := gw_in (lt_6 (List.mem_of_getElem? (i := 173) rfl)) rfl
set_option maxRecDepth 20000 in
theorem tw_1374 : Cond.constantLong RX10 313 (9) ∈ GW := gw_in (lt_6 (List.mem_of_getElem? (i := 174) rfl)) rfl
set_option maxRecDepth 20000 in
theorem tw_1375 : Cond.methodLink RL 100 yX10_proc ∈ GW := gw_in (lt_6 (List.mem_of_getElem? (i := 175) rfl)) rfl
set_option maxRecDepth 20000 in
theorem tw_1376 : Cond.instanceMethod yX10_proc ∈ GW := gw_in (lt_6 (List.mem_of_getElem? (i := 176) rfl)) rfl
set_option maxRecDepth 20000 in
theorem tw_1377 : Cond.selects RX10 yX10_proc yX10_proc ∈ GW := gw_in (lt_6 (List.mem_of_getElem? (i := 177) rfl)) rfl
set_option maxRecDepth 20000 in
theorem tw_1378 : Cond.code yX10_proc cX10_proc 3 (some .int) ∈ GW := gw_in (lt_6 (List.mem_of_getElem? (i := 178) rfl)) rfl
set_option maxRecDepth 20000 in
theorem tw_1379 : Cond.methodLink RL 104 yX10_share ∈ GW := gw_in (lt_6 (List.mem_of_getElem? (i := 179) rfl)) rfl
set_option maxRecDepth 20000 in
theorem tw_1380 : Cond.instanceMethod yX10_share ∈ GW := gw_in (lt_6 (List.mem_of_getElem? (i := 180) rfl)) rfl
set_option maxRecDepth 20000 in
theorem tw_1381 : Cond.selects RX10 yX10_share yX10_share ∈ GW := gw_in (lt_6 (List.mem_of_getElem? (i := 181) rfl)) rfl
set_option maxRecDepth 20000 in
theorem tw_1382 : Cond.code yX10_share cX10_share 4 (some .int) ∈ GW := gw_in (lt_6 (List.mem_of_getElem? (i := 182) rfl)) rfl
set_option maxRecDepth 20000 in
theorem tw_1383 : Cond.methodLink RX10 315 yX10_isPair ∈ GW := gw_in (lt_6 (List.mem_of_getElem? (i := 183) rfl)) rfl
set_option maxRecDepth 20000 in
theorem tw_1385 : Cond.instanceMethod yX10_isPair ∈ GW := gw_in (lt_6 (List.mem_of_getElem? (i := 185) rfl)) rfl
set_option maxRecDepth 20000 in
theorem tw_1386 : Cond.code yX10_isPair cX10_isPair 3 (some .boolean) ∈ GW := gw_in (lt_6 (List.mem_of_getElem? (i := 186) rfl)) rfl
set_option maxRecDepth 20000 in
theorem tw_1387 : Cond.methodLink RL 109 yX10_spare ∈ GW := gw_in (lt_6 (List.mem_of_getElem? (i := 187) rfl)) rfl
set_option maxRecDepth 20000 in
theorem tw_1388 : Cond.instanceMethod yX10_spare ∈ GW := gw_in (lt_6 (List.mem_of_getElem? (i := 188) rfl)) rfl
set_option maxRecDepth 20000 in
theorem tw_1389 : Cond.selects RX10 yX10_spare yX10_spare ∈ GW := gw_in (lt_6 (List.mem_of_getElem? (i := 189) rfl)) rfl
set_option maxRecDepth 20000 in
theorem tw_1390 : Cond.code yX10_spare cX10_spare 5 (some .int) ∈ GW := gw_in (lt_6 (List.mem_of_getElem? (i := 190) rfl)) rfl
set_option maxRecDepth 20000 in
theorem tw_1391 : Cond.methodLink RL 113 yX10_next ∈ GW := gw_in (lt_6 (List.mem_of_getElem? (i := 191) rfl)) rfl
set_option maxRecDepth 20000 in
theorem tw_1392 : Cond.instanceMethod yX10_next ∈ GW := gw_in (lt_6 (List.mem_of_getElem? (i := 192) rfl)) rfl
set_option maxRecDepth 20000 in
theorem tw_1393 : Cond.selects RX10 yX10_next yX10_next ∈ GW := gw_in (lt_6 (List.mem_of_getElem? (i := 193) rfl)) rfl
set_option maxRecDepth 20000 in
theorem tw_1394 : Cond.code yX10_next cX10_next 4 (some .int) ∈ GW := gw_in (lt_6 (List.mem_of_getElem? (i := 194) rfl)) rfl
set_option maxRecDepth 20000 in
theorem tw_1395 : Cond.methodLink RL 117 yX10_below ∈ GW := gw_in (lt_6 (List.mem_of_getElem? (i := 195) rfl)) rfl
set_option maxRecDepth 20000 in
theorem tw_1396 : Cond.instanceMethod yX10_below ∈ GW := gw_in (lt_6 (List.mem_of_getElem? (i := 196) rfl)) rfl
set_option maxRecDepth 20000 in
theorem tw_1397 : Cond.selects RX10 yX10_below yX10_below ∈ GW := gw_in (lt_6 (List.mem_of_getElem? (i := 197) rfl)) rfl
set_option maxRecDepth 20000 in
theorem tw_1398 : Cond.code yX10_below cX10_below 2 (some .int) ∈ GW := gw_in (lt_6 (List.mem_of_getElem? (i := 198) rfl)) rfl
set_option maxRecDepth 20000 in
theorem tw_1399 : Cond.methodLink RX10 318 yX10_groupsBelow ∈ GW := gw_in (lt_6 (List.mem_of_getElem? (i := 199) rfl)) rfl
set_option maxRecDepth 20000 in
theorem tw_1401 : Cond.instanceMethod yX10_groupsBelow ∈ GW := gw_in (lt_6 (List.mem_of_getElem? (i := 201) rfl)) rfl
set_option maxRecDepth 20000 in
theorem tw_1402 : Cond.code yX10_groupsBelow cX10_groupsBelow 4 (some .int) ∈ GW := gw_in (lt_6 (List.mem_of_getElem? (i := 202) rfl)) rfl
set_option maxRecDepth 20000 in
theorem tw_1403 : Cond.methodLink RL 121 yX10_procs ∈ GW := gw_in (lt_6 (List.mem_of_getElem? (i := 203) rfl)) rfl
set_option maxRecDepth 20000 in
theorem tw_1404 : Cond.instanceMethod yX10_procs ∈ GW := gw_in (lt_6 (List.mem_of_getElem? (i := 204) rfl)) rfl
set_option maxRecDepth 20000 in
theorem tw_1405 : Cond.selects RX10 yX10_procs yX10_procs ∈ GW := gw_in (lt_6 (List.mem_of_getElem? (i := 205) rfl)) rfl
set_option maxRecDepth 20000 in
theorem tw_1406 : Cond.code yX10_procs cX10_procs 2 (some .int) ∈ GW := gw_in (lt_6 (List.mem_of_getElem? (i := 206) rfl)) rfl
set_option maxRecDepth 20000 in
theorem tw_1407 : Cond.methodLink RL 125 yX10_common ∈ GW := gw_in (lt_6 (List.mem_of_getElem? (i := 207) rfl)) rfl
set_option maxRecDepth 20000 in
theorem tw_1408 : Cond.instanceMethod yX10_common ∈ GW := gw_in (lt_6 (List.mem_of_getElem? (i := 208) rfl)) rfl
set_option maxRecDepth 20000 in
theorem tw_1409 : Cond.selects RX10 yX10_common yX10_common ∈ GW := gw_in (lt_6 (List.mem_of_getElem? (i := 209) rfl)) rfl
set_option maxRecDepth 20000 in
theorem tw_1410 : Cond.code yX10_common cX10_common 4 (some .int) ∈ GW := gw_in (lt_6 (List.mem_of_getElem? (i := 210) rfl)) rfl
set_option maxRecDepth 20000 in
theorem tw_1411 : Cond.methodLink RL 129 yX10_pressure ∈ GW := gw_in (lt_6 (List.mem_of_getElem? (i := 211) rfl)) rfl
set_option maxRecDepth 20000 in
theorem tw_1412 : Cond.instanceMethod yX10_pressure ∈ GW := gw_in (lt_6 (List.mem_of_getElem? (i := 212) rfl)) rfl
set_option maxRecDepth 20000 in
theorem tw_1413 : Cond.selects RX10 yX10_pressure yX10_pressure ∈ GW := gw_in (lt_6 (List.mem_of_getElem? (i := 213) rfl)) rfl
set_option maxRecDepth 20000 in
theorem tw_1414 : Cond.code yX10_pressure cX10_pressure 4 (some .int) ∈ GW := gw_in (lt_6 (List.mem_of_getElem? (i := 214) rfl)) rfl
set_option maxRecDepth 20000 in
theorem tw_1415 : Cond.methodLink RL 137 yX10_stalls ∈ GW := gw_in (lt_6 (List.mem_of_getElem? (i := 215) rfl)) rfl
set_option maxRecDepth 20000 in
theorem tw_1416 : Cond.instanceMethod yX10_stalls ∈ GW := gw_in (lt_6 (List.mem_of_getElem? (i := 216) rfl)) rfl
set_option maxRecDepth 20000 in
theorem tw_1417 : Cond.selects RX10 yX10_stalls yX10_stalls ∈ GW := gw_in (lt_6 (List.mem_of_getElem? (i := 217) rfl)) rfl
set_option maxRecDepth 20000 in
theorem tw_1418 : Cond.code yX10_stalls cX10_stalls 3 (some .int) ∈ GW := gw_in (lt_6 (List.mem_of_getElem? (i := 218) rfl)) rfl
set_option maxRecDepth 20000 in
theorem tw_1419 : Cond.methodLink RL 133 yX10_average ∈ GW := gw_in (lt_6 (List.mem_of_getElem? (i := 219) rfl)) rfl
set_option maxRecDepth 20000 in
theorem tw_1420 : Cond.instanceMethod yX10_average ∈ GW := gw_in (lt_6 (List.mem_of_getElem? (i := 220) rfl)) rfl
set_option maxRecDepth 20000 in
theorem tw_1421 : Cond.selects RX10 yX10_average yX10_average ∈ GW := gw_in (lt_6 (List.mem_of_getElem? (i := 221) rfl)) rfl
set_option maxRecDepth 20000 in
theorem tw_1422 : Cond.code yX10_average cX10_average 4 (some .int) ∈ GW := gw_in (lt_6 (List.mem_of_getElem? (i := 222) rfl)) rfl
set_option maxRecDepth 20000 in
theorem tw_1423 : Cond.methodLink RL 141 yX10_worst ∈ GW := gw_in (lt_6 (List.mem_of_getElem? (i := 223) rfl)) rfl
set_option maxRecDepth 20000 in
theorem tw_1424 : Cond.instanceMethod yX10_worst ∈ GW := gw_in (lt_6 (List.mem_of_getElem? (i := 224) rfl)) rfl
set_option maxRecDepth 20000 in
theorem tw_1425 : Cond.selects RX10 yX10_worst yX10_worst ∈ GW := gw_in (lt_6 (List.mem_of_getElem? (i := 225) rfl)) rfl
set_option maxRecDepth 20000 in
theorem tw_1426 : Cond.code yX10_worst cX10_worst 4 (some .int) ∈ GW := gw_in (lt_6 (List.mem_of_getElem? (i := 226) rfl)) rfl
set_option maxRecDepth 20000 in
theorem tw_1427 : Cond.methodLink RL 145 yX10_units ∈ GW := gw_in (lt_6 (List.mem_of_getElem? (i := 227) rfl)) rfl
set_option maxRecDepth 20000 in
theorem tw_1428 : Cond.instanceMethod yX10_units ∈ GW := gw_in (lt_6 (List.mem_of_getElem? (i := 228) rfl)) rfl
set_option maxRecDepth 20000 in
theorem tw_1429 : Cond.selects RX10 yX10_units yX10_units ∈ GW := gw_in (lt_6 (List.mem_of_getElem? (i := 229) rfl)) rfl
set_option maxRecDepth 20000 in
theorem tw_1430 : Cond.code yX10_units cX10_units 3 (some .int) ∈ GW := gw_in (lt_6 (List.mem_of_getElem? (i := 230) rfl)) rfl
set_option maxRecDepth 20000 in
theorem tw_1431 : Cond.methodLink RX10 321 yX10_opensPaper ∈ GW := gw_in (lt_6 (List.mem_of_getElem? (i := 231) rfl)) rfl
set_option maxRecDepth 20000 in
theorem tw_1433 : Cond.instanceMethod yX10_opensPaper ∈ GW := gw_in (lt_6 (List.mem_of_getElem? (i := 233) rfl)) rfl
set_option maxRecDepth 20000 in
theorem tw_1434 : Cond.code yX10_opensPaper cX10_opensPaper 1 none ∈ GW := gw_in (lt_6 (List.mem_of_getElem? (i := 234) rfl)) rfl
set_option maxRecDepth 20000 in
theorem tw_1435 : Cond.methodLink RX10 324 yX10_closesPaper ∈ GW := gw_in (lt_6 (List.mem_of_getElem? (i := 235) rfl)) rfl
set_option maxRecDepth 20000 in
theorem tw_1437 : Cond.instanceMethod yX10_closesPaper ∈ GW := gw_in (lt_6 (List.mem_of_getElem? (i := 237) rfl)) rfl
set_option maxRecDepth 20000 in
theorem tw_1438 : Cond.code yX10_closesPaper cX10_closesPaper 1 none ∈ GW := gw_in (lt_6 (List.mem_of_getElem? (i := 238) rfl)) rfl
set_option maxRecDepth 20000 in
theorem tw_1439 : Cond.methodLink RL 181 yX10_due ∈ GW := gw_in (lt_6 (List.mem_of_getElem? (i := 239) rfl)) rfl
set_option maxRecDepth 20000 in
theorem tw_1440 : Cond.instanceMethod yX10_due ∈ GW := gw_in (lt_7 (List.mem_of_getElem? (i := 0) rfl)) rfl
set_option maxRecDepth 20000 in
theorem tw_1441 : Cond.selects RX10 yX10_due yX10_due ∈ GW := gw_in (lt_7 (List.mem_of_getElem? (i := 1) rfl)) rfl
set_option maxRecDepth 20000 in
theorem tw_1442 : Cond.code yX10_due cX10_due 3 (some .int) ∈ GW := gw_in (lt_7 (List.mem_of_getElem? (i := 2) rfl)) rfl
set_option maxRecDepth 20000 in
theorem tw_1443 : Cond.methodLink RL 185 yX10_idle ∈ GW := gw_in (lt_7 (List.mem_of_getElem? (i := 3) rfl)) rfl
set_option maxRecDepth 20000 in
theorem tw_1444 : Cond.instanceMethod yX10_idle ∈ GW := gw_in (lt_7 (List.mem_of_getElem? (i := 4) rfl)) rfl
set_option maxRecDepth 20000 in
theorem tw_1445 : Cond.selects RX10 yX10_idle yX10_idle ∈ GW := gw_in (lt_7 (List.mem_of_getElem? (i := 5) rfl)) rfl
set_option maxRecDepth 20000 in
theorem tw_1446 : Cond.code yX10_idle cX10_idle 3 (some .int) ∈ GW := gw_in (lt_7 (List.mem_of_getElem? (i := 6) rfl)) rfl
set_option maxRecDepth 20000 in
theorem tw_1447 : Cond.methodLink RX10 327 yX10_isIdle ∈ GW := gw_in (lt_7 (List.mem_of_getElem? (i := 7) rfl)) rfl
set_option maxRecDepth 20000 in
theorem tw_1449 : Cond.instanceMethod yX10_isIdle ∈ GW := gw_in (lt_7 (List.mem_of_getElem? (i := 9) rfl)) rfl
set_option maxRecDepth 20000 in
theorem tw_1450 : Cond.code yX10_isIdle cX10_isIdle 2 (some .boolean) ∈ GW := gw_in (lt_7 (List.mem_of_getElem? (i := 10) rfl)) rfl
set_option maxRecDepth 20000 in
theorem tw_1451 : Cond.methodLink RL 189 yX10_weigh ∈ GW := gw_in (lt_7 (List.mem_of_getElem? (i := 11) rfl)) rfl
set_option maxRecDepth 20000 in
theorem tw_1452 : Cond.instanceMethod yX10_weigh ∈ GW := gw_in (lt_7 (List.mem_of_getElem? (i := 12) rfl)) rfl
set_option maxRecDepth 20000 in
theorem tw_1453 : Cond.selects RX10 yX10_weigh yX10_weigh ∈ GW := gw_in (lt_7 (List.mem_of_getElem? (i := 13) rfl)) rfl
set_option maxRecDepth 20000 in
theorem tw_1454 : Cond.code yX10_weigh cX10_weigh 5 (some .int) ∈ GW := gw_in (lt_7 (List.mem_of_getElem? (i := 14) rfl)) rfl
set_option maxRecDepth 20000 in
theorem tw_1455 : Cond.methodLink RL 149 yX10_fired ∈ GW := gw_in (lt_7 (List.mem_of_getElem? (i := 15) rfl)) rfl
set_option maxRecDepth 20000 in
theorem tw_1456 : Cond.instanceMethod yX10_fired ∈ GW := gw_in (lt_7 (List.mem_of_getElem? (i := 16) rfl)) rfl
set_option maxRecDepth 20000 in
theorem tw_1457 : Cond.selects RX10 yX10_fired yX10_fired ∈ GW := gw_in (lt_7 (List.mem_of_getElem? (i := 17) rfl)) rfl
set_option maxRecDepth 20000 in
theorem tw_1458 : Cond.code yX10_fired cX10_fired 3 (some .int) ∈ GW := gw_in (lt_7 (List.mem_of_getElem? (i := 18) rfl)) rfl
set_option maxRecDepth 20000 in
theorem tw_1459 : Cond.methodLink RL 153 yX10_events ∈ GW := gw_in (lt_7 (List.mem_of_getElem? (i := 19) rfl)) rfl
set_option maxRecDepth 20000 in
theorem tw_1460 : Cond.instanceMethod yX10_events ∈ GW := gw_in (lt_7 (List.mem_of_getElem? (i := 20) rfl)) rfl
set_option maxRecDepth 20000 in
theorem tw_1461 : Cond.selects RX10 yX10_events yX10_events ∈ GW := gw_in (lt_7 (List.mem_of_getElem? (i := 21) rfl)) rfl
set_option maxRecDepth 20000 in
theorem tw_1462 : Cond.code yX10_events cX10_events 3 (some .int) ∈ GW := gw_in (lt_7 (List.mem_of_getElem? (i := 22) rfl)) rfl
set_option maxRecDepth 20000 in
theorem tw_1463 : Cond.constantLong RX10 331 (3) ∈ GW := gw_in (lt_7 (List.mem_of_getElem? (i := 23) rfl)) rfl
set_option maxRecDepth 20000 in
theorem tw_1464 : Cond.methodLink RL 157 yX10_victim ∈ GW := gw_in (lt_7 (List.mem_of_getElem? (i := 24) rfl)) rfl
set_option maxRecDepth 20000 in
theorem tw_1465 : Cond.instanceMethod yX10_victim ∈ GW := gw_in (lt_7 (List.mem_of_getElem? (i := 25) rfl)) rfl
set_option maxRecDepth 20000 in
theorem tw_1466 : Cond.selects RX10 yX10_victim yX10_victim ∈ GW := gw_in (lt_7 (List.mem_of_getElem? (i := 26) rfl)) rfl
set_option maxRecDepth 20000 in
theorem tw_1467 : Cond.code yX10_victim cX10_victim 2 (some .int) ∈ GW := gw_in (lt_7 (List.mem_of_getElem? (i := 27) rfl)) rfl
set_option maxRecDepth 20000 in
theorem tw_1468 : Cond.methodLink RL 161 yX10_dying ∈ GW := gw_in (lt_7 (List.mem_of_getElem? (i := 28) rfl)) rfl
set_option maxRecDepth 20000 in
theorem tw_1469 : Cond.instanceMethod yX10_dying ∈ GW := gw_in (lt_7 (List.mem_of_getElem? (i := 29) rfl)) rfl
set_option maxRecDepth 20000 in
theorem tw_1470 : Cond.selects RX10 yX10_dying yX10_dying ∈ GW := gw_in (lt_7 (List.mem_of_getElem? (i := 30) rfl)) rfl
set_option maxRecDepth 20000 in
theorem tw_1471 : Cond.code yX10_dying cX10_dying 2 (some .int) ∈ GW := gw_in (lt_7 (List.mem_of_getElem? (i := 31) rfl)) rfl
set_option maxRecDepth 20000 in
theorem tw_1472 : Cond.methodLink RL 169 yX10_deaths ∈ GW := gw_in (lt_7 (List.mem_of_getElem? (i := 32) rfl)) rfl
set_option maxRecDepth 20000 in
theorem tw_1473 : Cond.instanceMethod yX10_deaths ∈ GW := gw_in (lt_7 (List.mem_of_getElem? (i := 33) rfl)) rfl
set_option maxRecDepth 20000 in
theorem tw_1474 : Cond.selects RX10 yX10_deaths yX10_deaths ∈ GW := gw_in (lt_7 (List.mem_of_getElem? (i := 34) rfl)) rfl
set_option maxRecDepth 20000 in
theorem tw_1475 : Cond.code yX10_deaths cX10_deaths 3 (some .int) ∈ GW := gw_in (lt_7 (List.mem_of_getElem? (i := 35) rfl)) rfl
set_option maxRecDepth 20000 in
theorem tw_1476 : Cond.methodLink RX10 333 yX10_deathsBy ∈ GW := gw_in (lt_7 (List.mem_of_getElem? (i := 36) rfl)) rfl
set_option maxRecDepth 20000 in
theorem tw_1478 : Cond.instanceMethod yX10_deathsBy ∈ GW := gw_in (lt_7 (List.mem_of_getElem? (i := 38) rfl)) rfl
set_option maxRecDepth 20000 in
theorem tw_1479 : Cond.code yX10_deathsBy cX10_deathsBy 6 (some .int) ∈ GW := gw_in (lt_7 (List.mem_of_getElem? (i := 39) rfl)) rfl
set_option maxRecDepth 20000 in
theorem tw_1480 : Cond.methodLink RL 173 yX10_taken ∈ GW := gw_in (lt_7 (List.mem_of_getElem? (i := 40) rfl)) rfl
set_option maxRecDepth 20000 in
theorem tw_1481 : Cond.instanceMethod yX10_taken ∈ GW := gw_in (lt_7 (List.mem_of_getElem? (i := 41) rfl)) rfl
set_option maxRecDepth 20000 in
theorem tw_1482 : Cond.selects RX10 yX10_taken yX10_taken ∈ GW := gw_in (lt_7 (List.mem_of_getElem? (i := 42) rfl)) rfl
set_option maxRecDepth 20000 in
theorem tw_1483 : Cond.code yX10_taken cX10_taken 8 (some .int) ∈ GW := gw_in (lt_7 (List.mem_of_getElem? (i := 43) rfl)) rfl
set_option maxRecDepth 20000 in
theorem tw_1484 : Cond.methodLink RL 165 yX10_room ∈ GW := gw_in (lt_7 (List.mem_of_getElem? (i := 44) rfl)) rfl
set_option maxRecDepth 20000 in
theorem tw_1485 : Cond.instanceMethod yX10_room ∈ GW := gw_in (lt_7 (List.mem_of_getElem? (i := 45) rfl)) rfl
set_option maxRecDepth 20000 in
theorem tw_1486 : Cond.selects RX10 yX10_room yX10_room ∈ GW := gw_in (lt_7 (List.mem_of_getElem? (i := 46) rfl)) rfl
set_option maxRecDepth 20000 in
theorem tw_1487 : Cond.code yX10_room cX10_room 2 (some .int) ∈ GW := gw_in (lt_7 (List.mem_of_getElem? (i := 47) rfl)) rfl
set_option maxRecDepth 20000 in
theorem tw_1488 : Cond.methodLink RX10 337 yX10_leastRoom ∈ GW := gw_in (lt_7 (List.mem_of_getElem? (i := 48) rfl)) rfl
set_option maxRecDepth 20000 in
theorem tw_1490 : Cond.instanceMethod yX10_leastRoom ∈ GW := gw_in (lt_7 (List.mem_of_getElem? (i := 50) rfl)) rfl
set_option maxRecDepth 20000 in
theorem tw_1491 : Cond.code yX10_leastRoom cX10_leastRoom 4 (some .int) ∈ GW := gw_in (lt_7 (List.mem_of_getElem? (i := 51) rfl)) rfl
set_option maxRecDepth 20000 in
theorem tw_1492 : Cond.constant RX10 336 (1048576) ∈ GW := gw_in (lt_7 (List.mem_of_getElem? (i := 52) rfl)) rfl
set_option maxRecDepth 20000 in
theorem tw_1493 : Cond.methodLink RL 177 yX10_place ∈ GW := gw_in (lt_7 (List.mem_of_getElem? (i := 53) rfl)) rfl
set_option maxRecDepth 20000 in
theorem tw_1494 : Cond.instanceMethod yX10_place ∈ GW := gw_in (lt_7 (List.mem_of_getElem? (i := 54) rfl)) rfl
set_option maxRecDepth 20000 in
theorem tw_1495 : Cond.selects RX10 yX10_place yX10_place ∈ GW := gw_in (lt_7 (List.mem_of_getElem? (i := 55) rfl)) rfl
set_option maxRecDepth 20000 in
theorem tw_1496 : Cond.code yX10_place cX10_place 5 (some .int) ∈ GW := gw_in (lt_7 (List.mem_of_getElem? (i := 56) rfl)) rfl
set_option maxRecDepth 20000 in
theorem tw_1497 : Cond.methodLink RX10 340 yX10_roomBehind ∈ GW := gw_in (lt_7 (List.mem_of_getElem? (i := 57) rfl)) rfl
set_option maxRecDepth 20000 in
theorem tw_1499 : Cond.instanceMethod yX10_roomBehind ∈ GW := gw_in (lt_7 (List.mem_of_getElem? (i := 59) rfl)) rfl
set_option maxRecDepth 20000 in
theorem tw_1500 : Cond.code yX10_roomBehind cX10_roomBehind 5 (some .int) ∈ GW := gw_in (lt_7 (List.mem_of_getElem? (i := 60) rfl)) rfl
set_option maxRecDepth 20000 in
theorem tw_1501 : Cond.methodLink RL 193 yX10_pressed ∈ GW := gw_in (lt_7 (List.mem_of_getElem? (i := 61) rfl)) rfl
set_option maxRecDepth 20000 in
theorem tw_1502 : Cond.instanceMethod yX10_pressed ∈ GW := gw_in (lt_7 (List.mem_of_getElem? (i := 62) rfl)) rfl
set_option maxRecDepth 20000 in
theorem tw_1503 : Cond.selects RX10 yX10_pressed yX10_pressed ∈ GW := gw_in (lt_7 (List.mem_of_getElem? (i := 63) rfl)) rfl
set_option maxRecDepth 20000 in
theorem tw_1504 : Cond.code yX10_pressed cX10_pressed 4 (some .int) ∈ GW := gw_in (lt_7 (List.mem_of_getElem? (i := 64) rfl)) rfl
set_option maxRecDepth 20000 in
theorem tw_1505 : Cond.methodLink RL 197 yX10_would ∈ GW := gw_in (lt_7 (List.mem_of_getElem? (i := 65) rfl)) rfl
set_option maxRecDepth 20000 in
theorem tw_1506 : Cond.instanceMethod yX10_would ∈ GW := gw_in (lt_7 (List.mem_of_getElem? (i := 66) rfl)) rfl
set_option maxRecDepth 20000 in
theorem tw_1507 : Cond.selects RX10 yX10_would yX10_would ∈ GW := gw_in (lt_7 (List.mem_of_getElem? (i := 67) rfl)) rfl
set_option maxRecDepth 20000 in
theorem tw_1508 : Cond.code yX10_would cX10_would 5 (some .int) ∈ GW := gw_in (lt_7 (List.mem_of_getElem? (i := 68) rfl)) rfl
set_option maxRecDepth 20000 in
theorem tw_1509 : Cond.methodLink RX10 346 yX10_wouldTell ∈ GW := gw_in (lt_7 (List.mem_of_getElem? (i := 69) rfl)) rfl
set_option maxRecDepth 20000 in
theorem tw_1511 : Cond.instanceMethod yX10_wouldTell ∈ GW := gw_in (lt_7 (List.mem_of_getElem? (i := 71) rfl)) rfl
set_option maxRecDepth 20000 in
theorem tw_1512 : Cond.code yX10_wouldTell cX10_wouldTell 5 (some .int) ∈ GW := gw_in (lt_7 (List.mem_of_getElem? (i := 72) rfl)) rfl
set_option maxRecDepth 20000 in
theorem tw_1513 : Cond.methodLink RL 201 yX10_burst ∈ GW := gw_in (lt_7 (List.mem_of_getElem? (i := 73) rfl)) rfl
set_option maxRecDepth 20000 in
theorem tw_1514 : Cond.instanceMethod yX10_burst ∈ GW := gw_in (lt_7 (List.mem_of_getElem? (i := 74) rfl)) rfl
set_option maxRecDepth 20000 in
theorem tw_1515 : Cond.selects RX10 yX10_burst yX10_burst ∈ GW := gw_in (lt_7 (List.mem_of_getElem? (i := 75) rfl)) rfl
set_option maxRecDepth 20000 in
theorem tw_1516 : Cond.code yX10_burst cX10_burst 5 (some .int) ∈ GW := gw_in (lt_7 (List.mem_of_getElem? (i := 76) rfl)) rfl
set_option maxRecDepth 20000 in
theorem tw_1517 : Cond.methodLink RL 205 yX10_stalled ∈ GW := gw_in (lt_7 (List.mem_of_getElem? (i := 77) rfl)) rfl
set_option maxRecDepth 20000 in
theorem tw_1518 : Cond.instanceMethod yX10_stalled ∈ GW := gw_in (lt_7 (List.mem_of_getElem? (i := 78) rfl)) rfl
set_option maxRecDepth 20000 in
theorem tw_1519 : Cond.selects RX10 yX10_stalled yX10_stalled ∈ GW := gw_in (lt_7 (List.mem_of_getElem? (i := 79) rfl)) rfl
set_option maxRecDepth 20000 in
theorem tw_1520 : Cond.code yX10_stalled cX10_stalled 6 (some .int) ∈ GW := gw_in (lt_7 (List.mem_of_getElem? (i := 80) rfl)) rfl
set_option maxRecDepth 20000 in
theorem tw_1521 : Cond.methodLink RL 209 yX10_undo ∈ GW := gw_in (lt_7 (List.mem_of_getElem? (i := 81) rfl)) rfl
set_option maxRecDepth 20000 in
theorem tw_1522 : Cond.instanceMethod yX10_undo ∈ GW := gw_in (lt_7 (List.mem_of_getElem? (i := 82) rfl)) rfl
set_option maxRecDepth 20000 in
theorem tw_1523 : Cond.selects RX10 yX10_undo yX10_undo ∈ GW := gw_in (lt_7 (List.mem_of_getElem? (i := 83) rfl)) rfl
set_option maxRecDepth 20000 in
theorem tw_1524 : Cond.code yX10_undo cX10_undo 2 (some .int) ∈ GW := gw_in (lt_7 (List.mem_of_getElem? (i := 84) rfl)) rfl
set_option maxRecDepth 20000 in
theorem tw_1525 : Cond.methodLink RL 213 yX10_image ∈ GW := gw_in (lt_7 (List.mem_of_getElem? (i := 85) rfl)) rfl
set_option maxRecDepth 20000 in
theorem tw_1526 : Cond.instanceMethod yX10_image ∈ GW := gw_in (lt_7 (List.mem_of_getElem? (i := 86) rfl)) rfl
set_option maxRecDepth 20000 in
theorem tw_1527 : Cond.selects RX10 yX10_image yX10_image ∈ GW := gw_in (lt_7 (List.mem_of_getElem? (i := 87) rfl)) rfl
set_option maxRecDepth 20000 in
theorem tw_1528 : Cond.code yX10_image cX10_image 2 (some .int) ∈ GW := gw_in (lt_7 (List.mem_of_getElem? (i := 88) rfl)) rfl
set_option maxRecDepth 20000 in
theorem tw_1529 : Cond.methodLink RL 217 yX10_restore ∈ GW := gw_in (lt_7 (List.mem_of_getElem? (i := 89) rfl)) rfl
set_option maxRecDepth 20000 in
theorem tw_1530 : Cond.instanceMethod yX10_restore ∈ GW := gw_in (lt_7 (List.mem_of_getElem? (i := 90) rfl)) rfl
set_option maxRecDepth 20000 in
theorem tw_1531 : Cond.selects RX10 yX10_restore yX10_restore ∈ GW := gw_in (lt_7 (List.mem_of_getElem? (i := 91) rfl)) rfl
set_option maxRecDepth 20000 in
theorem tw_1532 : Cond.code yX10_restore cX10_restore 2 (some .int) ∈ GW := gw_in (lt_7 (List.mem_of_getElem? (i := 92) rfl)) rfl
set_option maxRecDepth 20000 in
theorem tw_1533 : Cond.methodLink RL 221 yX10_count ∈ GW := gw_in (lt_7 (List.mem_of_getElem? (i := 93) rfl)) rfl
set_option maxRecDepth 20000 in
theorem tw_1534 : Cond.instanceMethod yX10_count ∈ GW := gw_in (lt_7 (List.mem_of_getElem? (i := 94) rfl)) rfl
set_option maxRecDepth 20000 in
theorem tw_1535 : Cond.selects RX10 yX10_count yX10_count ∈ GW := gw_in (lt_7 (List.mem_of_getElem? (i := 95) rfl)) rfl
set_option maxRecDepth 20000 in
theorem tw_1536 : Cond.code yX10_count cX10_count 2 (some .int) ∈ GW := gw_in (lt_7 (List.mem_of_getElem? (i := 96) rfl)) rfl
set_option maxRecDepth 20000 in
theorem tw_1537 : Cond.methodLink RX10 349 yX10_allOf ∈ GW := gw_in (lt_7 (List.mem_of_getElem? (i := 97) rfl)) rfl
set_option maxRecDepth 20000 in
theorem tw_1539 : Cond.instanceMethod yX10_allOf ∈ GW := gw_in (lt_7 (List.mem_of_getElem? (i := 99) rfl)) rfl
set_option maxRecDepth 20000 in
theorem tw_1540 : Cond.code yX10_allOf cX10_allOf 4 (some .int) ∈ GW := gw_in (lt_7 (List.mem_of_getElem? (i := 100) rfl)) rfl
theorem ok_J13_bitCount_95d88 : okM yJ13_bitCount_95d88 1 := ⟨by decide +kernel, by decide +kernel, by decide +kernel⟩
theorem ok_J6_bitCount_0f7a4 : okM yJ6_bitCount_0f7a4 1 := ⟨by decide +kernel, by decide +kernel, by decide +kernel⟩
theorem ok_J7_fill_53178 : okM yJ7_fill_53178 2 := ⟨by decide +kernel, by decide +kernel, by decide +kernel⟩
theorem ok_X0_addStall : okM yX0_addStall 2 := ⟨by decide +kernel, by decide +kernel, by decide +kernel⟩
theorem ok_X0_allPages : okM yX0_allPages 1 := ⟨by decide +kernel, by decide +kernel, by decide +kernel⟩
theorem ok_X0_badness : okM yX0_badness 1 := ⟨by decide +kernel, by decide +kernel, by decide +kernel⟩
theorem ok_X0_copyFrom : okM yX0_copyFrom 1 := ⟨by decide +kernel, by decide +kernel, by decide +kernel⟩
theorem ok_X0_fadeStalls : okM yX0_fadeStalls 0 := ⟨by decide +kernel, by decide +kernel, by decide +kernel⟩
theorem ok_X0_firstFree : okM yX0_firstFree 0 := ⟨by decide +kernel, by decide +kernel, by decide +kernel⟩
theorem ok_X0_has : okM yX0_has 1 := ⟨by decide +kernel, by decide +kernel, by decide +kernel⟩
theorem ok_X0_hasTodo : okM yX0_hasTodo 0 := ⟨by decide +kernel, by decide +kernel, by decide +kernel⟩
theorem ok_X0_held : okM yX0_held 1 := ⟨by decide +kernel, by decide +kernel, by decide +kernel⟩
theorem ok_X0_init : okM yX0_init 0 := ⟨by decide +kernel, by decide +kernel, by decide +kernel⟩
theorem ok_X0_ownPages : okM yX0_ownPages 1 := ⟨by decide +kernel, by decide +kernel, by decide +kernel⟩
theorem ok_X0_pagesIn : okM yX0_pagesIn 2 := ⟨by decide +kernel, by decide +kernel, by decide +kernel⟩
theorem ok_X0_putProcess : okM yX0_putProcess 3 := ⟨by decide +kernel, by decide +kernel, by decide +kernel⟩
theorem ok_X0_richestIn : okM yX0_richestIn 2 := ⟨by decide +kernel, by decide +kernel, by decide +kernel⟩
theorem ok_X0_sumByGroup : okM yX0_sumByGroup 2 := ⟨by decide +kernel, by decide +kernel, by decide +kernel⟩
theorem ok_X10_adds : okM yX10_adds 3 := ⟨by decide +kernel, by decide +kernel, by decide +kernel⟩
theorem ok_X10_allOf : okM yX10_allOf 1 := ⟨by decide +kernel, by decide +kernel, by decide +kernel⟩
theorem ok_X10_areWithin : okM yX10_areWithin 2 := ⟨by decide +kernel, by decide +kernel, by decide +kernel⟩
theorem ok_X10_average : okM yX10_average 3 := ⟨by decide +kernel, by decide +kernel, by decide +kernel⟩
theorem ok_X10_averages : okM yX10_averages 3 := ⟨by decide +kernel, by decide +kernel, by decide +kernel⟩
theorem ok_X10_badnessOf : okM yX10_badnessOf 1 := ⟨by decide +kernel, by decide +kernel, by decide +kernel⟩
theorem ok_X10_batch : okM yX10_batch 1 := ⟨by decide +kernel, by decide +kernel, by decide +kernel⟩
theorem ok_X10_begins : okM yX10_begins 0 := ⟨by decide +kernel, by decide +kernel, by decide +kernel⟩
theorem ok_X10_below : okM yX10_below 1 := ⟨by decide +kernel, by decide +kernel, by decide +kernel⟩
theorem ok_X10_bits : okM yX10_bits 1 := ⟨by decide +kernel, by decide +kernel, by decide +kernel⟩
theorem ok_X10_burst : okM yX10_burst 2 := ⟨by decide +kernel, by decide +kernel, by decide +kernel⟩
theorem ok_X10_cap : okM yX10_cap 1 := ⟨by decide +kernel, by decide +kernel, by decide +kernel⟩
theorem ok_X10_charge : okM yX10_charge 3 := ⟨by decide +kernel, by decide +kernel, by decide +kernel⟩
theorem ok_X10_charges : okM yX10_charges 3 := ⟨by decide +kernel, by decide +kernel, by decide +kernel⟩
theorem ok_X10_closesPaper : okM yX10_closesPaper 0 := ⟨by decide +kernel, by decide +kernel, by decide +kernel⟩
theorem ok_X10_comes : okM yX10_comes 2 := ⟨by decide +kernel, by decide +kernel, by decide +kernel⟩
theorem ok_X10_common : okM yX10_common 2 := ⟨by decide +kernel, by decide +kernel, by decide +kernel⟩
theorem ok_X10_copies : okM yX10_copies 4 := ⟨by decide +kernel, by decide +kernel, by decide +kernel⟩
theorem ok_X10_count : okM yX10_count 1 := ⟨by decide +kernel, by decide +kernel, by decide +kernel⟩
theorem ok_X10_deathBelow : okM yX10_deathBelow 1 := ⟨by decide +kernel, by decide +kernel, by decide +kernel⟩
theorem ok_X10_deaths : okM yX10_deaths 2 := ⟨by decide +kernel, by decide +kernel, by decide +kernel⟩
theorem ok_X10_deathsBy : okM yX10_deathsBy 2 := ⟨by decide +kernel, by decide +kernel, by decide +kernel⟩
theorem ok_X10_dies : okM yX10_dies 1 := ⟨by decide +kernel, by decide +kernel, by decide +kernel⟩
theorem ok_X10_drain : okM yX10_drain 1 := ⟨by decide +kernel, by decide +kernel, by decide +kernel⟩
theorem ok_X10_drains : okM yX10_drains 1 := ⟨by decide +kernel, by decide +kernel, by decide +kernel⟩
theorem ok_X10_due : okM yX10_due 1 := ⟨by decide +kernel, by decide +kernel, by decide +kernel⟩
theorem ok_X10_dying : okM yX10_dying 1 := ⟨by decide +kernel, by decide +kernel, by decide +kernel⟩
theorem ok_X10_dyingBelow : okM yX10_dyingBelow 1 := ⟨by decide +kernel, by decide +kernel, by decide +kernel⟩
theorem ok_X10_ends : okM yX10_ends 2 := ⟨by decide +kernel, by decide +kernel, by decide +kernel⟩
theorem ok_X10_events : okM yX10_events 2 := ⟨by decide +kernel, by decide +kernel, by decide +kernel⟩
theorem ok_X10_fired : okM yX10_fired 2 := ⟨by decide +kernel, by decide +kernel, by decide +kernel⟩
theorem ok_X10_firstAbove : okM yX10_firstAbove 2 := ⟨by decide +kernel, by decide +kernel, by decide +kernel⟩
theorem ok_X10_forget : okM yX10_forget 0 := ⟨by decide +kernel, by decide +kernel, by decide +kernel⟩
theorem ok_X10_fork : okM yX10_fork 1 := ⟨by decide +kernel, by decide +kernel, by decide +kernel⟩
theorem ok_X10_freeIn : okM yX10_freeIn 2 := ⟨by decide +kernel, by decide +kernel, by decide +kernel⟩
theorem ok_X10_givesBack : okM yX10_givesBack 2 := ⟨by decide +kernel, by decide +kernel, by decide +kernel⟩
theorem ok_X10_greater : okM yX10_greater 2 := ⟨by decide +kernel, by decide +kernel, by decide +kernel⟩
theorem ok_X10_group : okM yX10_group 1 := ⟨by decide +kernel, by decide +kernel, by decide +kernel⟩
theorem ok_X10_groupOf : okM yX10_groupOf 1 := ⟨by decide +kernel, by decide +kernel, by decide +kernel⟩
theorem ok_X10_groupsBelow : okM yX10_groupsBelow 1 := ⟨by decide +kernel, by decide +kernel, by decide +kernel⟩
theorem ok_X10_has : okM yX10_has 2 := ⟨by decide +kernel, by decide +kernel, by decide +kernel⟩
theorem ok_X10_hasRoomFor : okM yX10_hasRoomFor 2 := ⟨by decide +kernel, by decide +kernel, by decide +kernel⟩
theorem ok_X10_idle : okM yX10_idle 0 := ⟨by decide +kernel, by decide +kernel, by decide +kernel⟩
theorem ok_X10_image : okM yX10_image 1 := ⟨by decide +kernel, by decide +kernel, by decide +kernel⟩
theorem ok_X10_init : okM yX10_init 0 := ⟨by decide +kernel, by decide +kernel, by decide +kernel⟩
theorem ok_X10_isBelow : okM yX10_isBelow 2 := ⟨by decide +kernel, by decide +kernel, by decide +kernel⟩
theorem ok_X10_isFull : okM yX10_isFull 1 := ⟨by decide +kernel, by decide +kernel, by decide +kernel⟩
theorem ok_X10_isGroup : okM yX10_isGroup 1 := ⟨by decide +kernel, by decide +kernel, by decide +kernel⟩
theorem ok_X10_isIdle : okM yX10_isIdle 0 := ⟨by decide +kernel, by decide +kernel, by decide +kernel⟩
theorem ok_X10_isInUse : okM yX10_isInUse 1 := ⟨by decide +kernel, by decide +kernel, by decide +kernel⟩
theorem ok_X10_isOf : okM yX10_isOf 2 := ⟨by decide +kernel, by decide +kernel, by decide +kernel⟩
theorem ok_X10_isOver : okM yX10_isOver 1 := ⟨by decide +kernel, by decide +kernel, by decide +kernel⟩
theorem ok_X10_isPair : okM yX10_isPair 2 := ⟨by decide +kernel, by decide +kernel, by decide +kernel⟩
theorem ok_X10_isProcess : okM yX10_isProcess 1 := ⟨by decide +kernel, by decide +kernel, by decide +kernel⟩
theorem ok_X10_isStalled : okM yX10_isStalled 2 := ⟨by decide +kernel, by decide +kernel, by decide +kernel⟩
theorem ok_X10_kill : okM yX10_kill 1 := ⟨by decide +kernel, by decide +kernel, by decide +kernel⟩
theorem ok_X10_latestOf : okM yX10_latestOf 2 := ⟨by decide +kernel, by decide +kernel, by decide +kernel⟩
theorem ok_X10_lays : okM yX10_lays 3 := ⟨by decide +kernel, by decide +kernel, by decide +kernel⟩
theorem ok_X10_laysAsks : okM yX10_laysAsks 1 := ⟨by decide +kernel, by decide +kernel, by decide +kernel⟩
theorem ok_X10_laysGroup : okM yX10_laysGroup 2 := ⟨by decide +kernel, by decide +kernel, by decide +kernel⟩
theorem ok_X10_laysLatest : okM yX10_laysLatest 3 := ⟨by decide +kernel, by decide +kernel, by decide +kernel⟩
theorem ok_X10_laysProcess : okM yX10_laysProcess 3 := ⟨by decide +kernel, by decide +kernel, by decide +kernel⟩
theorem ok_X10_laysShares : okM yX10_laysShares 2 := ⟨by decide +kernel, by decide +kernel, by decide +kernel⟩
theorem ok_X10_laysTotals : okM yX10_laysTotals 0 := ⟨by decide +kernel, by decide +kernel, by decide +kernel⟩
theorem ok_X10_laysUnits : okM yX10_laysUnits 0 := ⟨by decide +kernel, by decide +kernel, by decide +kernel⟩
theorem ok_X10_leastRoom : okM yX10_leastRoom 1 := ⟨by decide +kernel, by decide +kernel, by decide +kernel⟩
theorem ok_X10_lesser : okM yX10_lesser 2 := ⟨by decide +kernel, by decide +kernel, by decide +kernel⟩
theorem ok_X10_limit : okM yX10_limit 3 := ⟨by decide +kernel, by decide +kernel, by decide +kernel⟩
theorem ok_X10_limits : okM yX10_limits 3 := ⟨by decide +kernel, by decide +kernel, by decide +kernel⟩
theorem ok_X10_makesRoom : okM yX10_makesRoom 2 := ⟨by decide +kernel, by decide +kernel, by decide +kernel⟩
theorem ok_X10_meetsHigh : okM yX10_meetsHigh 1 := ⟨by decide +kernel, by decide +kernel, by decide +kernel⟩
theorem ok_X10_mostIn : okM yX10_mostIn 2 := ⟨by decide +kernel, by decide +kernel, by decide +kernel⟩
theorem ok_X10_move : okM yX10_move 2 := ⟨by decide +kernel, by decide +kernel, by decide +kernel⟩
theorem ok_X10_next : okM yX10_next 3 := ⟨by decide +kernel, by decide +kernel, by decide +kernel⟩
theorem ok_X10_nextOf : okM yX10_nextOf 3 := ⟨by decide +kernel, by decide +kernel, by decide +kernel⟩
theorem ok_X10_notes : okM yX10_notes 0 := ⟨by decide +kernel, by decide +kernel, by decide +kernel⟩
theorem ok_X10_of : okM yX10_of 3 := ⟨by decide +kernel, by decide +kernel, by decide +kernel⟩
theorem ok_X10_ofProcess : okM yX10_ofProcess 3 := ⟨by decide +kernel, by decide +kernel, by decide +kernel⟩
theorem ok_X10_of_ : okM yX10_of_ 2 := ⟨by decide +kernel, by decide +kernel, by decide +kernel⟩
theorem ok_X10_opensPaper : okM yX10_opensPaper 0 := ⟨by decide +kernel, by decide +kernel, by decide +kernel⟩
theorem ok_X10_outOf : okM yX10_outOf 1 := ⟨by decide +kernel, by decide +kernel, by decide +kernel⟩
theorem ok_X10_ownOf : okM yX10_ownOf 1 := ⟨by decide +kernel, by decide +kernel, by decide +kernel⟩
theorem ok_X10_pagesIn : okM yX10_pagesIn 2 := ⟨by decide +kernel, by decide +kernel, by decide +kernel⟩
theorem ok_X10_pagesOf : okM yX10_pagesOf 1 := ⟨by decide +kernel, by decide +kernel, by decide +kernel⟩
theorem ok_X10_parentOf : okM yX10_parentOf 1 := ⟨by decide +kernel, by decide +kernel, by decide +kernel⟩
theorem ok_X10_parts : okM yX10_parts 1 := ⟨by decide +kernel, by decide +kernel, by decide +kernel⟩
theorem ok_X10_place : okM yX10_place 1 := ⟨by decide +kernel, by decide +kernel, by decide +kernel⟩
theorem ok_X10_pressed : okM yX10_pressed 1 := ⟨by decide +kernel, by decide +kernel, by decide +kernel⟩
theorem ok_X10_pressure : okM yX10_pressure 3 := ⟨by decide +kernel, by decide +kernel, by decide +kernel⟩
theorem ok_X10_pressureOf : okM yX10_pressureOf 3 := ⟨by decide +kernel, by decide +kernel, by decide +kernel⟩
theorem ok_X10_proc : okM yX10_proc 2 := ⟨by decide +kernel, by decide +kernel, by decide +kernel⟩
theorem ok_X10_process : okM yX10_process 2 := ⟨by decide +kernel, by decide +kernel, by decide +kernel⟩
theorem ok_X10_processesBelow : okM yX10_processesBelow 1 := ⟨by decide +kernel, by decide +kernel, by decide +kernel⟩
theorem ok_X10_procs : okM yX10_procs 1 := ⟨by decide +kernel, by decide +kernel, by decide +kernel⟩
theorem ok_X10_refusedBy : okM yX10_refusedBy 3 := ⟨by decide +kernel, by decide +kernel, by decide +kernel⟩
theorem ok_X10_remove : okM yX10_remove 1 := ⟨by decide +kernel, by decide +kernel, by decide +kernel⟩
theorem ok_X10_restore : okM yX10_restore 1 := ⟨by decide +kernel, by decide +kernel, by decide +kernel⟩
theorem ok_X10_room : okM yX10_room 1 := ⟨by decide +kernel, by decide +kernel, by decide +kernel⟩
theorem ok_X10_roomBehind : okM yX10_roomBehind 2 := ⟨by decide +kernel, by decide +kernel, by decide +kernel⟩
theorem ok_X10_round : okM yX10_round 2 := ⟨by decide +kernel, by decide +kernel, by decide +kernel⟩
theorem ok_X10_share : okM yX10_share 3 := ⟨by decide +kernel, by decide +kernel, by decide +kernel⟩
theorem ok_X10_sharedOut : okM yX10_sharedOut 2 := ⟨by decide +kernel, by decide +kernel, by decide +kernel⟩
theorem ok_X10_spare : okM yX10_spare 4 := ⟨by decide +kernel, by decide +kernel, by decide +kernel⟩
theorem ok_X10_spareOf : okM yX10_spareOf 3 := ⟨by decide +kernel, by decide +kernel, by decide +kernel⟩
theorem ok_X10_stalled : okM yX10_stalled 3 := ⟨by decide +kernel, by decide +kernel, by decide +kernel⟩
theorem ok_X10_stalls : okM yX10_stalls 2 := ⟨by decide +kernel, by decide +kernel, by decide +kernel⟩
theorem ok_X10_stallsMore : okM yX10_stallsMore 2 := ⟨by decide +kernel, by decide +kernel, by decide +kernel⟩
theorem ok_X10_swap : okM yX10_swap 1 := ⟨by decide +kernel, by decide +kernel, by decide +kernel⟩
theorem ok_X10_take : okM yX10_take 2 := ⟨by decide +kernel, by decide +kernel, by decide +kernel⟩
theorem ok_X10_taken : okM yX10_taken 4 := ⟨by decide +kernel, by decide +kernel, by decide +kernel⟩
theorem ok_X10_takes : okM yX10_takes 2 := ⟨by decide +kernel, by decide +kernel, by decide +kernel⟩
theorem ok_X10_takesOf : okM yX10_takesOf 4 := ⟨by decide +kernel, by decide +kernel, by decide +kernel⟩
theorem ok_X10_tick : okM yX10_tick 1 := ⟨by decide +kernel, by decide +kernel, by decide +kernel⟩
theorem ok_X10_ticks : okM yX10_ticks 0 := ⟨by decide +kernel, by decide +kernel, by decide +kernel⟩
theorem ok_X10_totalOf : okM yX10_totalOf 1 := ⟨by decide +kernel, by decide +kernel, by decide +kernel⟩
theorem ok_X10_trigger : okM yX10_trigger 3 := ⟨by decide +kernel, by decide +kernel, by decide +kernel⟩
theorem ok_X10_uncharge : okM yX10_uncharge 3 := ⟨by decide +kernel, by decide +kernel, by decide +kernel⟩
theorem ok_X10_undo : okM yX10_undo 1 := ⟨by decide +kernel, by decide +kernel, by decide +kernel⟩
theorem ok_X10_units : okM yX10_units 2 := ⟨by decide +kernel, by decide +kernel, by decide +kernel⟩
theorem ok_X10_use : okM yX10_use 2 := ⟨by decide +kernel, by decide +kernel, by decide +kernel⟩
theorem ok_X10_victim : okM yX10_victim 1 := ⟨by decide +kernel, by decide +kernel, by decide +kernel⟩
theorem ok_X10_victimBelow : okM yX10_victimBelow 1 := ⟨by decide +kernel, by decide +kernel, by decide +kernel⟩
theorem ok_X10_weigh : okM yX10_weigh 2 := ⟨by decide +kernel, by decide +kernel, by decide +kernel⟩
theorem ok_X10_weightOf : okM yX10_weightOf 1 := ⟨by decide +kernel, by decide +kernel, by decide +kernel⟩
theorem ok_X10_within : okM yX10_within 3 := ⟨by decide +kernel, by decide +kernel, by decide +kernel⟩
theorem ok_X10_work : okM yX10_work 2 := ⟨by decide +kernel, by decide +kernel, by decide +kernel⟩
theorem ok_X10_works : okM yX10_works 0 := ⟨by decide +kernel, by decide +kernel, by decide +kernel⟩
theorem ok_X10_worst : okM yX10_worst 0 := ⟨by decide +kernel, by decide +kernel, by decide +kernel⟩
theorem ok_X10_would : okM yX10_would 3 := ⟨by decide +kernel, by decide +kernel, by decide +kernel⟩
theorem ok_X10_wouldTell : okM yX10_wouldTell 3 := ⟨by decide +kernel, by decide +kernel, by decide +kernel⟩
theorem ok_X1_clearGroup : okM yX1_clearGroup 1 := ⟨by decide +kernel, by decide +kernel, by decide +kernel⟩
theorem ok_X1_copyFrom : okM yX1_copyFrom 1 := ⟨by decide +kernel, by decide +kernel, by decide +kernel⟩
theorem ok_X1_init : okM yX1_init 0 := ⟨by decide +kernel, by decide +kernel, by decide +kernel⟩
theorem ok_X1_lowBits : okM yX1_lowBits 1 := ⟨by decide +kernel, by decide +kernel, by decide +kernel⟩
theorem ok_X1_note : okM yX1_note 3 := ⟨by decide +kernel, by decide +kernel, by decide +kernel⟩
theorem ok_X1_recent : okM yX1_recent 3 := ⟨by decide +kernel, by decide +kernel, by decide +kernel⟩
theorem ok_X1_recentAhead : okM yX1_recentAhead 3 := ⟨by decide +kernel, by decide +kernel, by decide +kernel⟩
theorem ok_X2_askingWeight : okM yX2_askingWeight 3 := ⟨by decide +kernel, by decide +kernel, by decide +kernel⟩
theorem ok_X2_collectAsks : okM yX2_collectAsks 1 := ⟨by decide +kernel, by decide +kernel, by decide +kernel⟩
theorem ok_X2_doWork : okM yX2_doWork 1 := ⟨by decide +kernel, by decide +kernel, by decide +kernel⟩
theorem ok_X2_giveRound : okM yX2_giveRound 3 := ⟨by decide +kernel, by decide +kernel, by decide +kernel⟩
theorem ok_X2_init : okM yX2_init 0 := ⟨by decide +kernel, by decide +kernel, by decide +kernel⟩
theorem ok_X2_plan : okM yX2_plan 1 := ⟨by decide +kernel, by decide +kernel, by decide +kernel⟩
theorem ok_X2_quotaLeft : okM yX2_quotaLeft 2 := ⟨by decide +kernel, by decide +kernel, by decide +kernel⟩
theorem ok_X3_admit : okM yX3_admit 4 := ⟨by decide +kernel, by decide +kernel, by decide +kernel⟩
theorem ok_X3_fitsUnderMax : okM yX3_fitsUnderMax 3 := ⟨by decide +kernel, by decide +kernel, by decide +kernel⟩
theorem ok_X3_init : okM yX3_init 1 := ⟨by decide +kernel, by decide +kernel, by decide +kernel⟩
theorem ok_X3_leftBehindMove : okM yX3_leftBehindMove 3 := ⟨by decide +kernel, by decide +kernel, by decide +kernel⟩
theorem ok_X3_makeRoom : okM yX3_makeRoom 3 := ⟨by decide +kernel, by decide +kernel, by decide +kernel⟩
theorem ok_X3_mayNotJoin : okM yX3_mayNotJoin 4 := ⟨by decide +kernel, by decide +kernel, by decide +kernel⟩
theorem ok_X3_moveProcess : okM yX3_moveProcess 3 := ⟨by decide +kernel, by decide +kernel, by decide +kernel⟩
theorem ok_X3_pressToHigh : okM yX3_pressToHigh 3 := ⟨by decide +kernel, by decide +kernel, by decide +kernel⟩
theorem ok_X3_setLimit : okM yX3_setLimit 4 := ⟨by decide +kernel, by decide +kernel, by decide +kernel⟩
theorem ok_X4_countKept : okM yX4_countKept 0 := ⟨by decide +kernel, by decide +kernel, by decide +kernel⟩
theorem ok_X4_dropTry : okM yX4_dropTry 1 := ⟨by decide +kernel, by decide +kernel, by decide +kernel⟩
theorem ok_X4_goBack : okM yX4_goBack 2 := ⟨by decide +kernel, by decide +kernel, by decide +kernel⟩
theorem ok_X4_init : okM yX4_init 0 := ⟨by decide +kernel, by decide +kernel, by decide +kernel⟩
theorem ok_X4_keep : okM yX4_keep 1 := ⟨by decide +kernel, by decide +kernel, by decide +kernel⟩
theorem ok_X4_slot : okM yX4_slot 1 := ⟨by decide +kernel, by decide +kernel, by decide +kernel⟩
theorem ok_X5_init : okM yX5_init 0 := ⟨by decide +kernel, by decide +kernel, by decide +kernel⟩
theorem ok_X5_measureSpares : okM yX5_measureSpares 4 := ⟨by decide +kernel, by decide +kernel, by decide +kernel⟩
theorem ok_X5_measureSwap : okM yX5_measureSwap 1 := ⟨by decide +kernel, by decide +kernel, by decide +kernel⟩
theorem ok_X5_partShares : okM yX5_partShares 3 := ⟨by decide +kernel, by decide +kernel, by decide +kernel⟩
theorem ok_X5_richestGroup : okM yX5_richestGroup 0 := ⟨by decide +kernel, by decide +kernel, by decide +kernel⟩
theorem ok_X5_takePages : okM yX5_takePages 3 := ⟨by decide +kernel, by decide +kernel, by decide +kernel⟩
theorem ok_X5_takeStep : okM yX5_takeStep 4 := ⟨by decide +kernel, by decide +kernel, by decide +kernel⟩
theorem ok_X6_addOut : okM yX6_addOut 2 := ⟨by decide +kernel, by decide +kernel, by decide +kernel⟩
theorem ok_X6_addStock : okM yX6_addStock 2 := ⟨by decide +kernel, by decide +kernel, by decide +kernel⟩
theorem ok_X6_addTotal : okM yX6_addTotal 2 := ⟨by decide +kernel, by decide +kernel, by decide +kernel⟩
theorem ok_X6_bitsBelow : okM yX6_bitsBelow 1 := ⟨by decide +kernel, by decide +kernel, by decide +kernel⟩
theorem ok_X6_copyFrom : okM yX6_copyFrom 1 := ⟨by decide +kernel, by decide +kernel, by decide +kernel⟩
theorem ok_X6_dropGroup : okM yX6_dropGroup 1 := ⟨by decide +kernel, by decide +kernel, by decide +kernel⟩
theorem ok_X6_emptyStocks : okM yX6_emptyStocks 1 := ⟨by decide +kernel, by decide +kernel, by decide +kernel⟩
theorem ok_X6_firstAboveMax : okM yX6_firstAboveMax 2 := ⟨by decide +kernel, by decide +kernel, by decide +kernel⟩
theorem ok_X6_firstFree : okM yX6_firstFree 0 := ⟨by decide +kernel, by decide +kernel, by decide +kernel⟩
theorem ok_X6_has : okM yX6_has 1 := ⟨by decide +kernel, by decide +kernel, by decide +kernel⟩
theorem ok_X6_init : okM yX6_init 0 := ⟨by decide +kernel, by decide +kernel, by decide +kernel⟩
theorem ok_X6_leastLeft : okM yX6_leastLeft 1 := ⟨by decide +kernel, by decide +kernel, by decide +kernel⟩
theorem ok_X6_lowestCommon : okM yX6_lowestCommon 2 := ⟨by decide +kernel, by decide +kernel, by decide +kernel⟩
theorem ok_X6_pathBits : okM yX6_pathBits 1 := ⟨by decide +kernel, by decide +kernel, by decide +kernel⟩
theorem ok_X6_putGroup : okM yX6_putGroup 2 := ⟨by decide +kernel, by decide +kernel, by decide +kernel⟩
theorem ok_X7_add : okM yX7_add 3 := ⟨by decide +kernel, by decide +kernel, by decide +kernel⟩
theorem ok_X7_copyFrom : okM yX7_copyFrom 1 := ⟨by decide +kernel, by decide +kernel, by decide +kernel⟩
theorem ok_X7_dropOf : okM yX7_dropOf 1 := ⟨by decide +kernel, by decide +kernel, by decide +kernel⟩
theorem ok_X7_fire : okM yX7_fire 1 := ⟨by decide +kernel, by decide +kernel, by decide +kernel⟩
theorem ok_X7_init : okM yX7_init 0 := ⟨by decide +kernel, by decide +kernel, by decide +kernel⟩
theorem ok_X8_addPages : okM yX8_addPages 3 := ⟨by decide +kernel, by decide +kernel, by decide +kernel⟩
theorem ok_X8_bitsOfProcesses : okM yX8_bitsOfProcesses 1 := ⟨by decide +kernel, by decide +kernel, by decide +kernel⟩
theorem ok_X8_bury : okM yX8_bury 1 := ⟨by decide +kernel, by decide +kernel, by decide +kernel⟩
theorem ok_X8_copyFrom : okM yX8_copyFrom 1 := ⟨by decide +kernel, by decide +kernel, by decide +kernel⟩
theorem ok_X8_dyingBelow : okM yX8_dyingBelow 1 := ⟨by decide +kernel, by decide +kernel, by decide +kernel⟩
theorem ok_X8_giveBack : okM yX8_giveBack 3 := ⟨by decide +kernel, by decide +kernel, by decide +kernel⟩
theorem ok_X8_init : okM yX8_init 0 := ⟨by decide +kernel, by decide +kernel, by decide +kernel⟩
theorem ok_X8_mortalBelow : okM yX8_mortalBelow 1 := ⟨by decide +kernel, by decide +kernel, by decide +kernel⟩
theorem ok_X8_noteStalls : okM yX8_noteStalls 0 := ⟨by decide +kernel, by decide +kernel, by decide +kernel⟩
theorem ok_X8_passTick : okM yX8_passTick 0 := ⟨by decide +kernel, by decide +kernel, by decide +kernel⟩
theorem ok_X8_pidsFull : okM yX8_pidsFull 2 := ⟨by decide +kernel, by decide +kernel, by decide +kernel⟩
theorem ok_X8_relocate : okM yX8_relocate 2 := ⟨by decide +kernel, by decide +kernel, by decide +kernel⟩
theorem ok_X8_strike : okM yX8_strike 1 := ⟨by decide +kernel, by decide +kernel, by decide +kernel⟩
theorem ok_X8_swapOut : okM yX8_swapOut 2 := ⟨by decide +kernel, by decide +kernel, by decide +kernel⟩
theorem ok_X8_victimBelow : okM yX8_victimBelow 1 := ⟨by decide +kernel, by decide +kernel, by decide +kernel⟩
theorem ok_X9_average : okM yX9_average 3 := ⟨by decide +kernel, by decide +kernel, by decide +kernel⟩
theorem ok_X9_batch : okM yX9_batch 1 := ⟨by decide +kernel, by decide +kernel, by decide +kernel⟩
theorem ok_X9_below : okM yX9_below 1 := ⟨by decide +kernel, by decide +kernel, by decide +kernel⟩
theorem ok_X9_burst : okM yX9_burst 2 := ⟨by decide +kernel, by decide +kernel, by decide +kernel⟩
theorem ok_X9_cap : okM yX9_cap 1 := ⟨by decide +kernel, by decide +kernel, by decide +kernel⟩
theorem ok_X9_charge : okM yX9_charge 3 := ⟨by decide +kernel, by decide +kernel, by decide +kernel⟩
theorem ok_X9_common : okM yX9_common 2 := ⟨by decide +kernel, by decide +kernel, by decide +kernel⟩
theorem ok_X9_count : okM yX9_count 1 := ⟨by decide +kernel, by decide +kernel, by decide +kernel⟩
theorem ok_X9_deaths : okM yX9_deaths 2 := ⟨by decide +kernel, by decide +kernel, by decide +kernel⟩
theorem ok_X9_drain : okM yX9_drain 1 := ⟨by decide +kernel, by decide +kernel, by decide +kernel⟩
theorem ok_X9_due : okM yX9_due 1 := ⟨by decide +kernel, by decide +kernel, by decide +kernel⟩
theorem ok_X9_dying : okM yX9_dying 1 := ⟨by decide +kernel, by decide +kernel, by decide +kernel⟩
theorem ok_X9_events : okM yX9_events 2 := ⟨by decide +kernel, by decide +kernel, by decide +kernel⟩
theorem ok_X9_fired : okM yX9_fired 2 := ⟨by decide +kernel, by decide +kernel, by decide +kernel⟩
theorem ok_X9_forget : okM yX9_forget 0 := ⟨by decide +kernel, by decide +kernel, by decide +kernel⟩
theorem ok_X9_fork : okM yX9_fork 1 := ⟨by decide +kernel, by decide +kernel, by decide +kernel⟩
theorem ok_X9_group : okM yX9_group 1 := ⟨by decide +kernel, by decide +kernel, by decide +kernel⟩
theorem ok_X9_idle : okM yX9_idle 0 := ⟨by decide +kernel, by decide +kernel, by decide +kernel⟩
theorem ok_X9_image : okM yX9_image 1 := ⟨by decide +kernel, by decide +kernel, by decide +kernel⟩
theorem ok_X9_init : okM yX9_init 0 := ⟨by decide +kernel, by decide +kernel, by decide +kernel⟩
theorem ok_X9_isBelow : okM yX9_isBelow 2 := ⟨by decide +kernel, by decide +kernel, by decide +kernel⟩
theorem ok_X9_kill : okM yX9_kill 1 := ⟨by decide +kernel, by decide +kernel, by decide +kernel⟩
theorem ok_X9_limit : okM yX9_limit 3 := ⟨by decide +kernel, by decide +kernel, by decide +kernel⟩
theorem ok_X9_move : okM yX9_move 2 := ⟨by decide +kernel, by decide +kernel, by decide +kernel⟩
theorem ok_X9_next : okM yX9_next 3 := ⟨by decide +kernel, by decide +kernel, by decide +kernel⟩
theorem ok_X9_of : okM yX9_of 2 := ⟨by decide +kernel, by decide +kernel, by decide +kernel⟩
theorem ok_X9_outlives : okM yX9_outlives 1 := ⟨by decide +kernel, by decide +kernel, by decide +kernel⟩
theorem ok_X9_outside : okM yX9_outside 3 := ⟨by decide +kernel, by decide +kernel, by decide +kernel⟩
theorem ok_X9_place : okM yX9_place 1 := ⟨by decide +kernel, by decide +kernel, by decide +kernel⟩
theorem ok_X9_pressed : okM yX9_pressed 1 := ⟨by decide +kernel, by decide +kernel, by decide +kernel⟩
theorem ok_X9_pressure : okM yX9_pressure 3 := ⟨by decide +kernel, by decide +kernel, by decide +kernel⟩
theorem ok_X9_proc : okM yX9_proc 2 := ⟨by decide +kernel, by decide +kernel, by decide +kernel⟩
theorem ok_X9_process : okM yX9_process 2 := ⟨by decide +kernel, by decide +kernel, by decide +kernel⟩
theorem ok_X9_procs : okM yX9_procs 1 := ⟨by decide +kernel, by decide +kernel, by decide +kernel⟩
theorem ok_X9_remove : okM yX9_remove 1 := ⟨by decide +kernel, by decide +kernel, by decide +kernel⟩
theorem ok_X9_restore : okM yX9_restore 1 := ⟨by decide +kernel, by decide +kernel, by decide +kernel⟩
theorem ok_X9_room : okM yX9_room 1 := ⟨by decide +kernel, by decide +kernel, by decide +kernel⟩
theorem ok_X9_settle : okM yX9_settle 1 := ⟨by decide +kernel, by decide +kernel, by decide +kernel⟩
theorem ok_X9_share : okM yX9_share 3 := ⟨by decide +kernel, by decide +kernel, by decide +kernel⟩
theorem ok_X9_spare : okM yX9_spare 4 := ⟨by decide +kernel, by decide +kernel, by decide +kernel⟩
theorem ok_X9_stallFor : okM yX9_stallFor 1 := ⟨by decide +kernel, by decide +kernel, by decide +kernel⟩
theorem ok_X9_stalled : okM yX9_stalled 3 := ⟨by decide +kernel, by decide +kernel, by decide +kernel⟩
theorem ok_X9_stalls : okM yX9_stalls 2 := ⟨by decide +kernel, by decide +kernel, by decide +kernel⟩
theorem ok_X9_startProcess : okM yX9_startProcess 2 := ⟨by decide +kernel, by decide +kernel, by decide +kernel⟩
theorem ok_X9_swap : okM yX9_swap 1 := ⟨by decide +kernel, by decide +kernel, by decide +kernel⟩
theorem ok_X9_take : okM yX9_take 2 := ⟨by decide +kernel, by decide +kernel, by decide +kernel⟩
theorem ok_X9_taken : okM yX9_taken 4 := ⟨by decide +kernel, by decide +kernel, by decide +kernel⟩
theorem ok_X9_tick : okM yX9_tick 1 := ⟨by decide +kernel, by decide +kernel, by decide +kernel⟩
theorem ok_X9_trigger : okM yX9_trigger 3 := ⟨by decide +kernel, by decide +kernel, by decide +kernel⟩
theorem ok_X9_uncharge : okM yX9_uncharge 3 := ⟨by decide +kernel, by decide +kernel, by decide +kernel⟩
theorem ok_X9_undo : okM yX9_undo 1 := ⟨by decide +kernel, by decide +kernel, by decide +kernel⟩
theorem ok_X9_units : okM yX9_units 2 := ⟨by decide +kernel, by decide +kernel, by decide +kernel⟩
theorem ok_X9_use : okM yX9_use 2 := ⟨by decide +kernel, by decide +kernel, by decide +kernel⟩
theorem ok_X9_victim : okM yX9_victim 1 := ⟨by decide +kernel, by decide +kernel, by decide +kernel⟩
theorem ok_X9_weigh : okM yX9_weigh 2 := ⟨by decide +kernel, by decide +kernel, by decide +kernel⟩
theorem ok_X9_work : okM yX9_work 2 := ⟨by decide +kernel, by decide +kernel, by decide +kernel⟩
theorem ok_X9_worst : okM yX9_worst 0 := ⟨by decide +kernel, by decide +kernel, by decide +kernel⟩
theorem ok_X9_would : okM yX9_would 3 := ⟨by decide +kernel, by decide +kernel, by decide +kernel⟩
theorem ok_X9_wrongCharge : okM yX9_wrongCharge 3 := ⟨by decide +kernel, by decide +kernel, by decide +kernel⟩
theorem cl_L_10 : CLk RL 10 10 21 := ⟨RX10, TX10, tyX10, rfl, rfl, by decide, uw_10, tw_948, tw_949, tw_12, tyX10_ok, kdk_10, kdv_10⟩
theorem cl_L_7 : CLk RL 7 9 7 := ⟨RX9, TX9, tyX9, rfl, rfl, by decide, uw_9, tw_17, tw_18, tw_1, tyX9_ok, kdk_9, kdv_9⟩
theorem cl_X4_11 : CLk RX4 11 8 8 := ⟨RX8, TX8, tyX8, rfl, rfl, by decide, uw_8, tw_254, tw_26, tw_2, tyX8_ok, kdk_8, kdv_8⟩
theorem cl_X8_18 : CLk RX8 18 0 7 := ⟨RX0, TX0, tyX0, rfl, rfl, by decide, uw_0, tw_108, tw_109, tw_5, tyX0_ok, kdk_0, kdv_0⟩
theorem cl_X8_25 : CLk RX8 25 1 3 := ⟨RX1, TX1, tyX1, rfl, rfl, by decide, uw_1, tw_158, tw_159, tw_6, tyX1_ok, kdk_1, kdv_1⟩
theorem cl_X8_32 : CLk RX8 32 7 5 := ⟨RX7, TX7, tyX7, rfl, rfl, by decide, uw_7, tw_180, tw_181, tw_7, tyX7_ok, kdk_7, kdv_7⟩
theorem cl_X8_9 : CLk RX8 9 6 9 := ⟨RX6, TX6, tyX6, rfl, rfl, by decide, uw_6, tw_31, tw_32, tw_3, tyX6_ok, kdk_6, kdv_6⟩
theorem cl_X9_19 : CLk RX9 19 4 3 := ⟨RX4, TX4, tyX4, rfl, rfl, by decide, uw_4, tw_248, tw_249, tw_8, tyX4_ok, kdk_4, kdv_4⟩
theorem cl_X9_30 : CLk RX9 30 5 6 := ⟨RX5, TX5, tyX5, rfl, rfl, by decide, uw_5, tw_268, tw_269, tw_9, tyX5_ok, kdk_5, kdv_5⟩
theorem cl_X9_37 : CLk RX9 37 3 1 := ⟨RX3, TX3, tyX3, rfl, rfl, by decide, uw_3, tw_295, tw_296, tw_10, tyX3_ok, kdk_3, kdv_3⟩
theorem cl_X9_46 : CLk RX9 46 2 2 := ⟨RX2, TX2, tyX2, rfl, rfl, by decide, uw_2, tw_305, tw_306, tw_11, tyX2_ok, kdk_2, kdv_2⟩
theorem cl_X9_7 : CLk RX9 7 8 8 := ⟨RX8, TX8, tyX8, rfl, rfl, by decide, uw_8, tw_25, tw_26, tw_2, tyX8_ok, kdk_8, kdv_8⟩
theorem fl_X0_15 : FL RX0 15 0 1 false := ⟨RX0, TX0, 7, tyX0, rfl, by decide, rfl, uw_0, tw_121, tyX0_ok, nmX0, by decide, rfl, rfl, fun _ => rfl⟩
theorem fl_X0_20 : FL RX0 20 0 2 false := ⟨RX0, TX0, 7, tyX0, rfl, by decide, rfl, uw_0, tw_124, tyX0_ok, nmX0, by decide, rfl, rfl, fun _ => rfl⟩
theorem fl_X0_23 : FL RX0 23 0 3 false := ⟨RX0, TX0, 7, tyX0, rfl, by decide, rfl, uw_0, tw_128, tyX0_ok, nmX0, by decide, rfl, rfl, fun _ => rfl⟩
theorem fl_X0_26 : FL RX0 26 0 4 false := ⟨RX0, TX0, 7, tyX0, rfl, by decide, rfl, uw_0, tw_132, tyX0_ok, nmX0, by decide, rfl, rfl, fun _ => rfl⟩
theorem fl_X0_29 : FL RX0 29 0 5 false := ⟨RX0, TX0, 7, tyX0, rfl, by decide, rfl, uw_0, tw_136, tyX0_ok, nmX0, by decide, rfl, rfl, fun _ => rfl⟩
theorem fl_X0_32 : FL RX0 32 0 6 false := ⟨RX0, TX0, 7, tyX0, rfl, by decide, rfl, uw_0, tw_140, tyX0_ok, nmX0, by decide, rfl, rfl, fun _ => rfl⟩
theorem fl_X0_9 : FL RX0 9 0 0 false := ⟨RX0, TX0, 7, tyX0, rfl, by decide, rfl, uw_0, tw_116, tyX0_ok, nmX0, by decide, rfl, rfl, fun _ => rfl⟩
theorem fl_X10_1 : FL RX10 1 10 0 true := ⟨RX10, TX10, 21, tyX10, rfl, by decide, rfl, uw_10, tw_962, tyX10_ok, nmX10, by decide, rfl, rfl, fun _ => rfl⟩
theorem fl_X10_13 : FL RX10 13 10 1 false := ⟨RX10, TX10, 21, tyX10, rfl, by decide, rfl, uw_10, tw_963, tyX10_ok, nmX10, by decide, rfl, rfl, fun _ => rfl⟩
theorem fl_X10_17 : FL RX10 17 10 2 false := ⟨RX10, TX10, 21, tyX10, rfl, by decide, rfl, uw_10, tw_964, tyX10_ok, nmX10, by decide, rfl, rfl, fun _ => rfl⟩
theorem fl_X10_20 : FL RX10 20 10 3 false := ⟨RX10, TX10, 21, tyX10, rfl, by decide, rfl, uw_10, tw_965, tyX10_ok, nmX10, by decide, rfl, rfl, fun _ => rfl⟩
theorem fl_X10_23 : FL RX10 23 10 4 false := ⟨RX10, TX10, 21, tyX10, rfl, by decide, rfl, uw_10, tw_966, tyX10_ok, nmX10, by decide, rfl, rfl, fun _ => rfl⟩
theorem fl_X10_26 : FL RX10 26 10 5 false := ⟨RX10, TX10, 21, tyX10, rfl, by decide, rfl, uw_10, tw_967, tyX10_ok, nmX10, by decide, rfl, rfl, fun _ => rfl⟩
theorem fl_X10_29 : FL RX10 29 10 6 false := ⟨RX10, TX10, 21, tyX10, rfl, by decide, rfl, uw_10, tw_968, tyX10_ok, nmX10, by decide, rfl, rfl, fun _ => rfl⟩
theorem fl_X10_32 : FL RX10 32 10 7 false := ⟨RX10, TX10, 21, tyX10, rfl, by decide, rfl, uw_10, tw_969, tyX10_ok, nmX10, by decide, rfl, rfl, fun _ => rfl⟩
theorem fl_X10_343 : FL RX10 343 10 20 true := ⟨RX10, TX10, 21, tyX10, rfl, by decide, rfl, uw_10, tw_982, tyX10_ok, nmX10, by decide, rfl, rfl, fun _ => rfl⟩
theorem fl_X10_35 : FL RX10 35 10 9 false := ⟨RX10, TX10, 21, tyX10, rfl, by decide, rfl, uw_10, tw_971, tyX10_ok, nmX10, by decide, rfl, rfl, fun _ => rfl⟩
theorem fl_X10_39 : FL RX10 39 10 10 false := ⟨RX10, TX10, 21, tyX10, rfl, by decide, rfl, uw_10, tw_972, tyX10_ok, nmX10, by decide, rfl, rfl, fun _ => rfl⟩
theorem fl_X10_42 : FL RX10 42 10 11 false := ⟨RX10, TX10, 21, tyX10, rfl, by decide, rfl, uw_10, tw_973, tyX10_ok, nmX10, by decide, rfl, rfl, fun _ => rfl⟩
theorem fl_X10_45 : FL RX10 45 10 12 false := ⟨RX10, TX10, 21, tyX10, rfl, by decide, rfl, uw_10, tw_974, tyX10_ok, nmX10, by decide, rfl, rfl, fun _ => rfl⟩
theorem fl_X10_48 : FL RX10 48 10 13 false := ⟨RX10, TX10, 21, tyX10, rfl, by decide, rfl, uw_10, tw_975, tyX10_ok, nmX10, by decide, rfl, rfl, fun _ => rfl⟩
theorem fl_X10_51 : FL RX10 51 10 14 false := ⟨RX10, TX10, 21, tyX10, rfl, by decide, rfl, uw_10, tw_976, tyX10_ok, nmX10, by decide, rfl, rfl, fun _ => rfl⟩
theorem fl_X10_54 : FL RX10 54 10 15 false := ⟨RX10, TX10, 21, tyX10, rfl, by decide, rfl, uw_10, tw_977, tyX10_ok, nmX10, by decide, rfl, rfl, fun _ => rfl⟩
theorem fl_X10_57 : FL RX10 57 10 16 false := ⟨RX10, TX10, 21, tyX10, rfl, by decide, rfl, uw_10, tw_978, tyX10_ok, nmX10, by decide, rfl, rfl, fun _ => rfl⟩
theorem fl_X10_60 : FL RX10 60 10 17 false := ⟨RX10, TX10, 21, tyX10, rfl, by decide, rfl, uw_10, tw_979, tyX10_ok, nmX10, by decide, rfl, rfl, fun _ => rfl⟩
theorem fl_X10_63 : FL RX10 63 10 18 false := ⟨RX10, TX10, 21, tyX10, rfl, by decide, rfl, uw_10, tw_980, tyX10_ok, nmX10, by decide, rfl, rfl, fun _ => rfl⟩
theorem fl_X10_66 : FL RX10 66 10 19 false := ⟨RX10, TX10, 21, tyX10, rfl, by decide, rfl, uw_10, tw_981, tyX10_ok, nmX10, by decide, rfl, rfl, fun _ => rfl⟩
theorem fl_X10_77 : FL RX10 77 10 8 true := ⟨RX10, TX10, 21, tyX10, rfl, by decide, rfl, uw_10, tw_970, tyX10_ok, nmX10, by decide, rfl, rfl, fun _ => rfl⟩
theorem fl_X1_11 : FL RX1 11 1 0 false := ⟨RX1, TX1, 3, tyX1, rfl, by decide, rfl, uw_1, tw_167, tyX1_ok, nmX1, by decide, rfl, rfl, fun _ => rfl⟩
theorem fl_X1_18 : FL RX1 18 1 1 false := ⟨RX1, TX1, 3, tyX1, rfl, by decide, rfl, uw_1, tw_168, tyX1_ok, nmX1, by decide, rfl, rfl, fun _ => rfl⟩
theorem fl_X1_21 : FL RX1 21 1 2 false := ⟨RX1, TX1, 3, tyX1, rfl, by decide, rfl, uw_1, tw_170, tyX1_ok, nmX1, by decide, rfl, rfl, fun _ => rfl⟩
theorem fl_X2_11 : FL RX2 11 2 0 false := ⟨RX2, TX2, 2, tyX2, rfl, by decide, rfl, uw_2, tw_311, tyX2_ok, nmX2, by decide, rfl, rfl, fun _ => rfl⟩
theorem fl_X2_15 : FL RX2 15 2 1 false := ⟨RX2, TX2, 2, tyX2, rfl, by decide, rfl, uw_2, tw_313, tyX2_ok, nmX2, by decide, rfl, rfl, fun _ => rfl⟩
theorem fl_X2_28 : FL RX2 28 8 6 true := ⟨RX8, TX8, 8, tyX8, rfl, by decide, rfl, uw_8, tw_226, tyX8_ok, nmX8, by decide, rfl, rfl, fun _ => rfl⟩
theorem fl_X2_40 : FL RX2 40 8 0 false := ⟨RX8, TX8, 8, tyX8, rfl, by decide, rfl, uw_8, tw_209, tyX8_ok, nmX8, by decide, rfl, rfl, fun _ => rfl⟩
theorem fl_X2_44 : FL RX2 44 6 2 true := ⟨RX6, TX6, 9, tyX6, rfl, by decide, rfl, uw_6, tw_59, tyX6_ok, nmX6, by decide, rfl, rfl, fun _ => rfl⟩
theorem fl_X2_49 : FL RX2 49 6 1 false := ⟨RX6, TX6, 9, tyX6, rfl, by decide, rfl, uw_6, tw_55, tyX6_ok, nmX6, by decide, rfl, rfl, fun _ => rfl⟩
theorem fl_X2_56 : FL RX2 56 8 7 true := ⟨RX8, TX8, 8, tyX8, rfl, by decide, rfl, uw_8, tw_229, tyX8_ok, nmX8, by decide, rfl, rfl, fun _ => rfl⟩
theorem fl_X2_59 : FL RX2 59 6 7 false := ⟨RX6, TX6, 9, tyX6, rfl, by decide, rfl, uw_6, tw_81, tyX6_ok, nmX6, by decide, rfl, rfl, fun _ => rfl⟩
theorem fl_X2_65 : FL RX2 65 8 1 false := ⟨RX8, TX8, 8, tyX8, rfl, by decide, rfl, uw_8, tw_213, tyX8_ok, nmX8, by decide, rfl, rfl, fun _ => rfl⟩
theorem fl_X2_69 : FL RX2 69 0 5 false := ⟨RX0, TX0, 7, tyX0, rfl, by decide, rfl, uw_0, tw_137, tyX0_ok, nmX0, by decide, rfl, rfl, fun _ => rfl⟩
theorem fl_X2_74 : FL RX2 74 0 6 false := ⟨RX0, TX0, 7, tyX0, rfl, by decide, rfl, uw_0, tw_141, tyX0_ok, nmX0, by decide, rfl, rfl, fun _ => rfl⟩
theorem fl_X2_77 : FL RX2 77 0 0 false := ⟨RX0, TX0, 7, tyX0, rfl, by decide, rfl, uw_0, tw_119, tyX0_ok, nmX0, by decide, rfl, rfl, fun _ => rfl⟩
theorem fl_X2_80 : FL RX2 80 0 4 false := ⟨RX0, TX0, 7, tyX0, rfl, by decide, rfl, uw_0, tw_133, tyX0_ok, nmX0, by decide, rfl, rfl, fun _ => rfl⟩
theorem fl_X2_87 : FL RX2 87 6 0 false := ⟨RX6, TX6, 9, tyX6, rfl, by decide, rfl, uw_6, tw_52, tyX6_ok, nmX6, by decide, rfl, rfl, fun _ => rfl⟩
theorem fl_X2_90 : FL RX2 90 6 3 false := ⟨RX6, TX6, 9, tyX6, rfl, by decide, rfl, uw_6, tw_66, tyX6_ok, nmX6, by decide, rfl, rfl, fun _ => rfl⟩
theorem fl_X3_114 : FL RX3 114 0 3 false := ⟨RX0, TX0, 7, tyX0, rfl, by decide, rfl, uw_0, tw_130, tyX0_ok, nmX0, by decide, rfl, rfl, fun _ => rfl⟩
theorem fl_X3_117 : FL RX3 117 6 6 false := ⟨RX6, TX6, 9, tyX6, rfl, by decide, rfl, uw_6, tw_78, tyX6_ok, nmX6, by decide, rfl, rfl, fun _ => rfl⟩
theorem fl_X3_15 : FL RX3 15 8 1 false := ⟨RX8, TX8, 8, tyX8, rfl, by decide, rfl, uw_8, tw_211, tyX8_ok, nmX8, by decide, rfl, rfl, fun _ => rfl⟩
theorem fl_X3_21 : FL RX3 21 0 0 false := ⟨RX0, TX0, 7, tyX0, rfl, by decide, rfl, uw_0, tw_117, tyX0_ok, nmX0, by decide, rfl, rfl, fun _ => rfl⟩
theorem fl_X3_27 : FL RX3 27 8 0 false := ⟨RX8, TX8, 8, tyX8, rfl, by decide, rfl, uw_8, tw_208, tyX8_ok, nmX8, by decide, rfl, rfl, fun _ => rfl⟩
theorem fl_X3_31 : FL RX3 31 6 4 false := ⟨RX6, TX6, 9, tyX6, rfl, by decide, rfl, uw_6, tw_69, tyX6_ok, nmX6, by decide, rfl, rfl, fun _ => rfl⟩
theorem fl_X3_44 : FL RX3 44 8 4 true := ⟨RX8, TX8, 8, tyX8, rfl, by decide, rfl, uw_8, tw_220, tyX8_ok, nmX8, by decide, rfl, rfl, fun _ => rfl⟩
theorem fl_X3_73 : FL RX3 73 6 3 false := ⟨RX6, TX6, 9, tyX6, rfl, by decide, rfl, uw_6, tw_64, tyX6_ok, nmX6, by decide, rfl, rfl, fun _ => rfl⟩
theorem fl_X3_77 : FL RX3 77 6 8 false := ⟨RX6, TX6, 9, tyX6, rfl, by decide, rfl, uw_6, tw_84, tyX6_ok, nmX6, by decide, rfl, rfl, fun _ => rfl⟩
theorem fl_X3_80 : FL RX3 80 6 5 false := ⟨RX6, TX6, 9, tyX6, rfl, by decide, rfl, uw_6, tw_74, tyX6_ok, nmX6, by decide, rfl, rfl, fun _ => rfl⟩
theorem fl_X3_9 : FL RX3 9 3 0 false := ⟨RX3, TX3, 1, tyX3, rfl, by decide, rfl, uw_3, tw_301, tyX3_ok, nmX3, by decide, rfl, rfl, fun _ => rfl⟩
theorem fl_X3_94 : FL RX3 94 6 0 false := ⟨RX6, TX6, 9, tyX6, rfl, by decide, rfl, uw_6, tw_53, tyX6_ok, nmX6, by decide, rfl, rfl, fun _ => rfl⟩
theorem fl_X4_13 : FL RX4 13 4 2 false := ⟨RX4, TX4, 3, tyX4, rfl, by decide, rfl, uw_4, tw_260, tyX4_ok, nmX4, by decide, rfl, rfl, fun _ => rfl⟩
theorem fl_X4_18 : FL RX4 18 4 1 true := ⟨RX4, TX4, 3, tyX4, rfl, by decide, rfl, uw_4, tw_259, tyX4_ok, nmX4, by decide, rfl, rfl, fun _ => rfl⟩
theorem fl_X4_22 : FL RX4 22 4 0 true := ⟨RX4, TX4, 3, tyX4, rfl, by decide, rfl, uw_4, tw_257, tyX4_ok, nmX4, by decide, rfl, rfl, fun _ => rfl⟩
theorem fl_X5_113 : FL RX5 113 6 8 false := ⟨RX6, TX6, 9, tyX6, rfl, by decide, rfl, uw_6, tw_85, tyX6_ok, nmX6, by decide, rfl, rfl, fun _ => rfl⟩
theorem fl_X5_119 : FL RX5 119 0 2 false := ⟨RX0, TX0, 7, tyX0, rfl, by decide, rfl, uw_0, tw_126, tyX0_ok, nmX0, by decide, rfl, rfl, fun _ => rfl⟩
theorem fl_X5_15 : FL RX5 15 5 1 false := ⟨RX5, TX5, 6, tyX5, rfl, by decide, rfl, uw_5, tw_276, tyX5_ok, nmX5, by decide, rfl, rfl, fun _ => rfl⟩
theorem fl_X5_18 : FL RX5 18 5 2 false := ⟨RX5, TX5, 6, tyX5, rfl, by decide, rfl, uw_5, tw_278, tyX5_ok, nmX5, by decide, rfl, rfl, fun _ => rfl⟩
theorem fl_X5_21 : FL RX5 21 5 3 false := ⟨RX5, TX5, 6, tyX5, rfl, by decide, rfl, uw_5, tw_279, tyX5_ok, nmX5, by decide, rfl, rfl, fun _ => rfl⟩
theorem fl_X5_24 : FL RX5 24 5 4 false := ⟨RX5, TX5, 6, tyX5, rfl, by decide, rfl, uw_5, tw_280, tyX5_ok, nmX5, by decide, rfl, rfl, fun _ => rfl⟩
theorem fl_X5_27 : FL RX5 27 5 5 false := ⟨RX5, TX5, 6, tyX5, rfl, by decide, rfl, uw_5, tw_281, tyX5_ok, nmX5, by decide, rfl, rfl, fun _ => rfl⟩
theorem fl_X5_30 : FL RX5 30 8 0 false := ⟨RX8, TX8, 8, tyX8, rfl, by decide, rfl, uw_8, tw_206, tyX8_ok, nmX8, by decide, rfl, rfl, fun _ => rfl⟩
theorem fl_X5_36 : FL RX5 36 6 3 false := ⟨RX6, TX6, 9, tyX6, rfl, by decide, rfl, uw_6, tw_63, tyX6_ok, nmX6, by decide, rfl, rfl, fun _ => rfl⟩
theorem fl_X5_52 : FL RX5 52 6 2 true := ⟨RX6, TX6, 9, tyX6, rfl, by decide, rfl, uw_6, tw_60, tyX6_ok, nmX6, by decide, rfl, rfl, fun _ => rfl⟩
theorem fl_X5_56 : FL RX5 56 6 1 false := ⟨RX6, TX6, 9, tyX6, rfl, by decide, rfl, uw_6, tw_56, tyX6_ok, nmX6, by decide, rfl, rfl, fun _ => rfl⟩
theorem fl_X5_59 : FL RX5 59 6 5 false := ⟨RX6, TX6, 9, tyX6, rfl, by decide, rfl, uw_6, tw_73, tyX6_ok, nmX6, by decide, rfl, rfl, fun _ => rfl⟩
theorem fl_X5_68 : FL RX5 68 6 0 false := ⟨RX6, TX6, 9, tyX6, rfl, by decide, rfl, uw_6, tw_49, tyX6_ok, nmX6, by decide, rfl, rfl, fun _ => rfl⟩
theorem fl_X5_79 : FL RX5 79 8 1 false := ⟨RX8, TX8, 8, tyX8, rfl, by decide, rfl, uw_8, tw_212, tyX8_ok, nmX8, by decide, rfl, rfl, fun _ => rfl⟩
theorem fl_X5_89 : FL RX5 89 8 5 true := ⟨RX8, TX8, 8, tyX8, rfl, by decide, rfl, uw_8, tw_223, tyX8_ok, nmX8, by decide, rfl, rfl, fun _ => rfl⟩
theorem fl_X5_9 : FL RX5 9 5 0 false := ⟨RX5, TX5, 6, tyX5, rfl, by decide, rfl, uw_5, tw_274, tyX5_ok, nmX5, by decide, rfl, rfl, fun _ => rfl⟩
theorem fl_X5_92 : FL RX5 92 6 6 false := ⟨RX6, TX6, 9, tyX6, rfl, by decide, rfl, uw_6, tw_77, tyX6_ok, nmX6, by decide, rfl, rfl, fun _ => rfl⟩
theorem fl_X6_15 : FL RX6 15 6 1 false := ⟨RX6, TX6, 9, tyX6, rfl, by decide, rfl, uw_6, tw_54, tyX6_ok, nmX6, by decide, rfl, rfl, fun _ => rfl⟩
theorem fl_X6_20 : FL RX6 20 6 3 false := ⟨RX6, TX6, 9, tyX6, rfl, by decide, rfl, uw_6, tw_62, tyX6_ok, nmX6, by decide, rfl, rfl, fun _ => rfl⟩
theorem fl_X6_23 : FL RX6 23 6 4 false := ⟨RX6, TX6, 9, tyX6, rfl, by decide, rfl, uw_6, tw_68, tyX6_ok, nmX6, by decide, rfl, rfl, fun _ => rfl⟩
theorem fl_X6_26 : FL RX6 26 6 5 false := ⟨RX6, TX6, 9, tyX6, rfl, by decide, rfl, uw_6, tw_72, tyX6_ok, nmX6, by decide, rfl, rfl, fun _ => rfl⟩
theorem fl_X6_29 : FL RX6 29 6 6 false := ⟨RX6, TX6, 9, tyX6, rfl, by decide, rfl, uw_6, tw_76, tyX6_ok, nmX6, by decide, rfl, rfl, fun _ => rfl⟩
theorem fl_X6_32 : FL RX6 32 6 7 false := ⟨RX6, TX6, 9, tyX6, rfl, by decide, rfl, uw_6, tw_80, tyX6_ok, nmX6, by decide, rfl, rfl, fun _ => rfl⟩
theorem fl_X6_35 : FL RX6 35 6 8 false := ⟨RX6, TX6, 9, tyX6, rfl, by decide, rfl, uw_6, tw_83, tyX6_ok, nmX6, by decide, rfl, rfl, fun _ => rfl⟩
theorem fl_X6_54 : FL RX6 54 6 2 true := ⟨RX6, TX6, 9, tyX6, rfl, by decide, rfl, uw_6, tw_58, tyX6_ok, nmX6, by decide, rfl, rfl, fun _ => rfl⟩
theorem fl_X6_9 : FL RX6 9 6 0 false := ⟨RX6, TX6, 9, tyX6, rfl, by decide, rfl, uw_6, tw_48, tyX6_ok, nmX6, by decide, rfl, rfl, fun _ => rfl⟩
theorem fl_X7_15 : FL RX7 15 7 1 false := ⟨RX7, TX7, 5, tyX7, rfl, by decide, rfl, uw_7, tw_188, tyX7_ok, nmX7, by decide, rfl, rfl, fun _ => rfl⟩
theorem fl_X7_18 : FL RX7 18 7 2 false := ⟨RX7, TX7, 5, tyX7, rfl, by decide, rfl, uw_7, tw_189, tyX7_ok, nmX7, by decide, rfl, rfl, fun _ => rfl⟩
theorem fl_X7_21 : FL RX7 21 7 3 false := ⟨RX7, TX7, 5, tyX7, rfl, by decide, rfl, uw_7, tw_190, tyX7_ok, nmX7, by decide, rfl, rfl, fun _ => rfl⟩
theorem fl_X7_30 : FL RX7 30 7 4 true := ⟨RX7, TX7, 5, tyX7, rfl, by decide, rfl, uw_7, tw_192, tyX7_ok, nmX7, by decide, rfl, rfl, fun _ => rfl⟩
theorem fl_X7_9 : FL RX7 9 7 0 false := ⟨RX7, TX7, 5, tyX7, rfl, by decide, rfl, uw_7, tw_186, tyX7_ok, nmX7, by decide, rfl, rfl, fun _ => rfl⟩
theorem fl_X8_108 : FL RX8 108 6 4 false := ⟨RX6, TX6, 9, tyX6, rfl, by decide, rfl, uw_6, tw_70, tyX6_ok, nmX6, by decide, rfl, rfl, fun _ => rfl⟩
theorem fl_X8_117 : FL RX8 117 0 1 false := ⟨RX0, TX0, 7, tyX0, rfl, by decide, rfl, uw_0, tw_123, tyX0_ok, nmX0, by decide, rfl, rfl, fun _ => rfl⟩
theorem fl_X8_12 : FL RX8 12 8 0 false := ⟨RX8, TX8, 8, tyX8, rfl, by decide, rfl, uw_8, tw_205, tyX8_ok, nmX8, by decide, rfl, rfl, fun _ => rfl⟩
theorem fl_X8_136 : FL RX8 136 6 8 false := ⟨RX6, TX6, 9, tyX6, rfl, by decide, rfl, uw_6, tw_86, tyX6_ok, nmX6, by decide, rfl, rfl, fun _ => rfl⟩
theorem fl_X8_142 : FL RX8 142 0 4 false := ⟨RX0, TX0, 7, tyX0, rfl, by decide, rfl, uw_0, tw_134, tyX0_ok, nmX0, by decide, rfl, rfl, fun _ => rfl⟩
theorem fl_X8_145 : FL RX8 145 0 5 false := ⟨RX0, TX0, 7, tyX0, rfl, by decide, rfl, uw_0, tw_139, tyX0_ok, nmX0, by decide, rfl, rfl, fun _ => rfl⟩
theorem fl_X8_148 : FL RX8 148 6 2 true := ⟨RX6, TX6, 9, tyX6, rfl, by decide, rfl, uw_6, tw_61, tyX6_ok, nmX6, by decide, rfl, rfl, fun _ => rfl⟩
theorem fl_X8_151 : FL RX8 151 6 1 false := ⟨RX6, TX6, 9, tyX6, rfl, by decide, rfl, uw_6, tw_57, tyX6_ok, nmX6, by decide, rfl, rfl, fun _ => rfl⟩
theorem fl_X8_21 : FL RX8 21 8 1 false := ⟨RX8, TX8, 8, tyX8, rfl, by decide, rfl, uw_8, tw_210, tyX8_ok, nmX8, by decide, rfl, rfl, fun _ => rfl⟩
theorem fl_X8_28 : FL RX8 28 8 2 false := ⟨RX8, TX8, 8, tyX8, rfl, by decide, rfl, uw_8, tw_215, tyX8_ok, nmX8, by decide, rfl, rfl, fun _ => rfl⟩
theorem fl_X8_35 : FL RX8 35 8 3 false := ⟨RX8, TX8, 8, tyX8, rfl, by decide, rfl, uw_8, tw_217, tyX8_ok, nmX8, by decide, rfl, rfl, fun _ => rfl⟩
theorem fl_X8_39 : FL RX8 39 8 4 true := ⟨RX8, TX8, 8, tyX8, rfl, by decide, rfl, uw_8, tw_219, tyX8_ok, nmX8, by decide, rfl, rfl, fun _ => rfl⟩
theorem fl_X8_43 : FL RX8 43 8 5 true := ⟨RX8, TX8, 8, tyX8, rfl, by decide, rfl, uw_8, tw_222, tyX8_ok, nmX8, by decide, rfl, rfl, fun _ => rfl⟩
theorem fl_X8_46 : FL RX8 46 8 6 true := ⟨RX8, TX8, 8, tyX8, rfl, by decide, rfl, uw_8, tw_225, tyX8_ok, nmX8, by decide, rfl, rfl, fun _ => rfl⟩
theorem fl_X8_49 : FL RX8 49 8 7 true := ⟨RX8, TX8, 8, tyX8, rfl, by decide, rfl, uw_8, tw_228, tyX8_ok, nmX8, by decide, rfl, rfl, fun _ => rfl⟩
theorem fl_X8_69 : FL RX8 69 0 0 false := ⟨RX0, TX0, 7, tyX0, rfl, by decide, rfl, uw_0, tw_118, tyX0_ok, nmX0, by decide, rfl, rfl, fun _ => rfl⟩
theorem fl_X8_81 : FL RX8 81 6 3 false := ⟨RX6, TX6, 9, tyX6, rfl, by decide, rfl, uw_6, tw_65, tyX6_ok, nmX6, by decide, rfl, rfl, fun _ => rfl⟩
theorem fl_X8_85 : FL RX8 85 6 0 false := ⟨RX6, TX6, 9, tyX6, rfl, by decide, rfl, uw_6, tw_51, tyX6_ok, nmX6, by decide, rfl, rfl, fun _ => rfl⟩
theorem fl_X8_88 : FL RX8 88 0 2 false := ⟨RX0, TX0, 7, tyX0, rfl, by decide, rfl, uw_0, tw_125, tyX0_ok, nmX0, by decide, rfl, rfl, fun _ => rfl⟩
theorem fl_X8_95 : FL RX8 95 0 3 false := ⟨RX0, TX0, 7, tyX0, rfl, by decide, rfl, uw_0, tw_129, tyX0_ok, nmX0, by decide, rfl, rfl, fun _ => rfl⟩
theorem fl_X9_10 : FL RX9 10 9 0 false := ⟨RX9, TX9, 7, tyX9, rfl, by decide, rfl, uw_9, tw_319, tyX9_ok, nmX9, by decide, rfl, rfl, fun _ => rfl⟩
theorem fl_X9_102 : FL RX9 102 8 3 false := ⟨RX8, TX8, 8, tyX8, rfl, by decide, rfl, uw_8, tw_218, tyX8_ok, nmX8, by decide, rfl, rfl, fun _ => rfl⟩
theorem fl_X9_129 : FL RX9 129 8 1 false := ⟨RX8, TX8, 8, tyX8, rfl, by decide, rfl, uw_8, tw_214, tyX8_ok, nmX8, by decide, rfl, rfl, fun _ => rfl⟩
theorem fl_X9_136 : FL RX9 136 0 0 false := ⟨RX0, TX0, 7, tyX0, rfl, by decide, rfl, uw_0, tw_120, tyX0_ok, nmX0, by decide, rfl, rfl, fun _ => rfl⟩
theorem fl_X9_139 : FL RX9 139 0 1 false := ⟨RX0, TX0, 7, tyX0, rfl, by decide, rfl, uw_0, tw_122, tyX0_ok, nmX0, by decide, rfl, rfl, fun _ => rfl⟩
theorem fl_X9_153 : FL RX9 153 0 2 false := ⟨RX0, TX0, 7, tyX0, rfl, by decide, rfl, uw_0, tw_127, tyX0_ok, nmX0, by decide, rfl, rfl, fun _ => rfl⟩
theorem fl_X9_16 : FL RX9 16 9 1 false := ⟨RX9, TX9, 7, tyX9, rfl, by decide, rfl, uw_9, tw_320, tyX9_ok, nmX9, by decide, rfl, rfl, fun _ => rfl⟩
theorem fl_X9_161 : FL RX9 161 0 3 false := ⟨RX0, TX0, 7, tyX0, rfl, by decide, rfl, uw_0, tw_131, tyX0_ok, nmX0, by decide, rfl, rfl, fun _ => rfl⟩
theorem fl_X9_176 : FL RX9 176 0 5 false := ⟨RX0, TX0, 7, tyX0, rfl, by decide, rfl, uw_0, tw_138, tyX0_ok, nmX0, by decide, rfl, rfl, fun _ => rfl⟩
theorem fl_X9_199 : FL RX9 199 8 4 true := ⟨RX8, TX8, 8, tyX8, rfl, by decide, rfl, uw_8, tw_221, tyX8_ok, nmX8, by decide, rfl, rfl, fun _ => rfl⟩
theorem fl_X9_203 : FL RX9 203 6 6 false := ⟨RX6, TX6, 9, tyX6, rfl, by decide, rfl, uw_6, tw_79, tyX6_ok, nmX6, by decide, rfl, rfl, fun _ => rfl⟩
theorem fl_X9_206 : FL RX9 206 8 5 true := ⟨RX8, TX8, 8, tyX8, rfl, by decide, rfl, uw_8, tw_224, tyX8_ok, nmX8, by decide, rfl, rfl, fun _ => rfl⟩
theorem fl_X9_209 : FL RX9 209 8 6 true := ⟨RX8, TX8, 8, tyX8, rfl, by decide, rfl, uw_8, tw_227, tyX8_ok, nmX8, by decide, rfl, rfl, fun _ => rfl⟩
theorem fl_X9_22 : FL RX9 22 9 2 false := ⟨RX9, TX9, 7, tyX9, rfl, by decide, rfl, uw_9, tw_321, tyX9_ok, nmX9, by decide, rfl, rfl, fun _ => rfl⟩
theorem fl_X9_221 : FL RX9 221 8 7 true := ⟨RX8, TX8, 8, tyX8, rfl, by decide, rfl, uw_8, tw_230, tyX8_ok, nmX8, by decide, rfl, rfl, fun _ => rfl⟩
theorem fl_X9_224 : FL RX9 224 7 4 true := ⟨RX7, TX7, 5, tyX7, rfl, by decide, rfl, uw_7, tw_193, tyX7_ok, nmX7, by decide, rfl, rfl, fun _ => rfl⟩
theorem fl_X9_230 : FL RX9 230 6 3 false := ⟨RX6, TX6, 9, tyX6, rfl, by decide, rfl, uw_6, tw_67, tyX6_ok, nmX6, by decide, rfl, rfl, fun _ => rfl⟩
theorem fl_X9_236 : FL RX9 236 6 4 false := ⟨RX6, TX6, 9, tyX6, rfl, by decide, rfl, uw_6, tw_71, tyX6_ok, nmX6, by decide, rfl, rfl, fun _ => rfl⟩
theorem fl_X9_239 : FL RX9 239 6 5 false := ⟨RX6, TX6, 9, tyX6, rfl, by decide, rfl, uw_6, tw_75, tyX6_ok, nmX6, by decide, rfl, rfl, fun _ => rfl⟩
theorem fl_X9_245 : FL RX9 245 6 7 false := ⟨RX6, TX6, 9, tyX6, rfl, by decide, rfl, uw_6, tw_82, tyX6_ok, nmX6, by decide, rfl, rfl, fun _ => rfl⟩
theorem fl_X9_248 : FL RX9 248 0 4 false := ⟨RX0, TX0, 7, tyX0, rfl, by decide, rfl, uw_0, tw_135, tyX0_ok, nmX0, by decide, rfl, rfl, fun _ => rfl⟩
theorem fl_X9_254 : FL RX9 254 0 6 false := ⟨RX0, TX0, 7, tyX0, rfl, by decide, rfl, uw_0, tw_142, tyX0_ok, nmX0, by decide, rfl, rfl, fun _ => rfl⟩
theorem fl_X9_26 : FL RX9 26 9 3 false := ⟨RX9, TX9, 7, tyX9, rfl, by decide, rfl, uw_9, tw_322, tyX9_ok, nmX9, by decide, rfl, rfl, fun _ => rfl⟩
theorem fl_X9_265 : FL RX9 265 5 0 false := ⟨RX5, TX5, 6, tyX5, rfl, by decide, rfl, uw_5, tw_275, tyX5_ok, nmX5, by decide, rfl, rfl, fun _ => rfl⟩
theorem fl_X9_272 : FL RX9 272 5 1 false := ⟨RX5, TX5, 6, tyX5, rfl, by decide, rfl, uw_5, tw_277, tyX5_ok, nmX5, by decide, rfl, rfl, fun _ => rfl⟩
theorem fl_X9_284 : FL RX9 284 1 2 false := ⟨RX1, TX1, 3, tyX1, rfl, by decide, rfl, uw_1, tw_171, tyX1_ok, nmX1, by decide, rfl, rfl, fun _ => rfl⟩
theorem fl_X9_287 : FL RX9 287 1 1 false := ⟨RX1, TX1, 3, tyX1, rfl, by decide, rfl, uw_1, tw_169, tyX1_ok, nmX1, by decide, rfl, rfl, fun _ => rfl⟩
theorem fl_X9_293 : FL RX9 293 2 0 false := ⟨RX2, TX2, 2, tyX2, rfl, by decide, rfl, uw_2, tw_312, tyX2_ok, nmX2, by decide, rfl, rfl, fun _ => rfl⟩
theorem fl_X9_296 : FL RX9 296 7 3 false := ⟨RX7, TX7, 5, tyX7, rfl, by decide, rfl, uw_7, tw_191, tyX7_ok, nmX7, by decide, rfl, rfl, fun _ => rfl⟩
theorem fl_X9_299 : FL RX9 299 7 0 false := ⟨RX7, TX7, 5, tyX7, rfl, by decide, rfl, uw_7, tw_187, tyX7_ok, nmX7, by decide, rfl, rfl, fun _ => rfl⟩
theorem fl_X9_302 : FL RX9 302 6 8 false := ⟨RX6, TX6, 9, tyX6, rfl, by decide, rfl, uw_6, tw_87, tyX6_ok, nmX6, by decide, rfl, rfl, fun _ => rfl⟩
theorem fl_X9_33 : FL RX9 33 9 4 false := ⟨RX9, TX9, 7, tyX9, rfl, by decide, rfl, uw_9, tw_323, tyX9_ok, nmX9, by decide, rfl, rfl, fun _ => rfl⟩
theorem fl_X9_330 : FL RX9 330 4 0 true := ⟨RX4, TX4, 3, tyX4, rfl, by decide, rfl, uw_4, tw_258, tyX4_ok, nmX4, by decide, rfl, rfl, fun _ => rfl⟩
theorem fl_X9_42 : FL RX9 42 9 5 false := ⟨RX9, TX9, 7, tyX9, rfl, by decide, rfl, uw_9, tw_324, tyX9_ok, nmX9, by decide, rfl, rfl, fun _ => rfl⟩
theorem fl_X9_49 : FL RX9 49 9 6 false := ⟨RX9, TX9, 7, tyX9, rfl, by decide, rfl, uw_9, tw_325, tyX9_ok, nmX9, by decide, rfl, rfl, fun _ => rfl⟩
theorem fl_X9_53 : FL RX9 53 8 0 false := ⟨RX8, TX8, 8, tyX8, rfl, by decide, rfl, uw_8, tw_207, tyX8_ok, nmX8, by decide, rfl, rfl, fun _ => rfl⟩
theorem fl_X9_75 : FL RX9 75 8 2 false := ⟨RX8, TX8, 8, tyX8, rfl, by decide, rfl, uw_8, tw_216, tyX8_ok, nmX8, by decide, rfl, rfl, fun _ => rfl⟩
theorem fl_X9_95 : FL RX9 95 6 0 false := ⟨RX6, TX6, 9, tyX6, rfl, by decide, rfl, uw_6, tw_50, tyX6_ok, nmX6, by decide, rfl, rfl, fun _ => rfl⟩
theorem kn_X3_61 : KN RX3 61 yX9_outlives cX9_outlives 1 (some .boolean) 1 := ⟨ok_X9_outlives, by decide, tw_599, tw_1, tw_600⟩
theorem kn_X3_88 : KN RX3 88 yX9_stallFor cX9_stallFor 1 (some .int) 1 := ⟨ok_X9_stallFor, by decide, tw_606, tw_1, tw_607⟩
theorem ko_L_12 : KO RL 12 yX10_init cX10_init 1 0 := ⟨ok_X10_init, rfl, Or.inl tw_950, tw_951, tw_12, tw_952⟩
theorem ko_L_9 : KO RL 9 yX9_init cX9_init 1 0 := ⟨ok_X9_init, rfl, Or.inl tw_19, tw_20, tw_1, tw_21⟩
theorem ko_X4_17 : KO RX4 17 yX8_init cX8_init 1 0 := ⟨ok_X8_init, rfl, Or.inr (by decide), tw_28, tw_2, tw_29⟩
theorem ko_X8_11 : KO RX8 11 yX6_init cX6_init 1 0 := ⟨ok_X6_init, rfl, Or.inl tw_33, tw_34, tw_3, tw_35⟩
theorem ko_X8_20 : KO RX8 20 yX0_init cX0_init 1 0 := ⟨ok_X0_init, rfl, Or.inl tw_110, tw_111, tw_5, tw_112⟩
theorem ko_X8_27 : KO RX8 27 yX1_init cX1_init 1 0 := ⟨ok_X1_init, rfl, Or.inr (by decide), tw_161, tw_6, tw_162⟩
theorem ko_X8_34 : KO RX8 34 yX7_init cX7_init 1 0 := ⟨ok_X7_init, rfl, Or.inr (by decide), tw_183, tw_7, tw_184⟩
theorem ko_X9_21 : KO RX9 21 yX4_init cX4_init 2 0 := ⟨ok_X4_init, rfl, Or.inl tw_250, tw_251, tw_8, tw_252⟩
theorem ko_X9_32 : KO RX9 32 yX5_init cX5_init 1 0 := ⟨ok_X5_init, rfl, Or.inr (by decide), tw_271, tw_9, tw_272⟩
theorem ko_X9_39 : KO RX9 39 yX3_init cX3_init 2 1 := ⟨ok_X3_init, rfl, Or.inl tw_297, tw_298, tw_10, tw_299⟩
theorem ko_X9_48 : KO RX9 48 yX2_init cX2_init 1 0 := ⟨ok_X2_init, rfl, Or.inr (by decide), tw_308, tw_11, tw_309⟩
theorem ko_X9_9 : KO RX9 9 yX8_init cX8_init 1 0 := ⟨ok_X8_init, rfl, Or.inr (by decide), tw_28, tw_2, tw_29⟩
theorem ks_X0_35 : KS RX0 35 yJ7_fill_53178 cJ7_fill_53178 4 none 2 := ⟨ok_J7_fill_53178, tw_115, tw_40, tw_4, tw_41⟩
theorem ks_X10_137 : KS RX10 137 yX10_lesser cX10_lesser 2 (some .int) 2 := ⟨ok_X10_lesser, tw_1138, tw_1139, tw_12, tw_1140⟩
theorem ks_X10_143 : KS RX10 143 yX10_greater cX10_greater 2 (some .int) 2 := ⟨ok_X10_greater, tw_1149, tw_1150, tw_12, tw_1151⟩
theorem ks_X10_208 : KS RX10 208 yX10_freeIn cX10_freeIn 3 (some .int) 2 := ⟨ok_X10_freeIn, tw_1042, tw_1043, tw_12, tw_1044⟩
theorem ks_X10_234 : KS RX10 234 yX10_bits cX10_bits 3 (some .int) 1 := ⟨ok_X10_bits, tw_1198, tw_1199, tw_12, tw_1200⟩
theorem ks_X10_73 : KS RX10 73 yX10_copies cX10_copies 5 none 4 := ⟨ok_X10_copies, tw_1049, tw_1050, tw_12, tw_1051⟩
theorem ks_X10_85 : KS RX10 85 yX10_within cX10_within 6 (some .boolean) 3 := ⟨ok_X10_within, tw_1036, tw_1037, tw_12, tw_1038⟩
theorem ks_X10_89 : KS RX10 89 yX10_has cX10_has 2 (some .boolean) 2 := ⟨ok_X10_has, tw_1039, tw_1040, tw_12, tw_1041⟩
theorem ks_X1_34 : KS RX1 34 yX1_lowBits cX1_lowBits 1 (some .long) 1 := ⟨ok_X1_lowBits, tw_739, tw_740, tw_6, tw_741⟩
theorem ks_X1_38 : KS RX1 38 yJ13_bitCount_95d88 cJ13_bitCount_95d88 2 (some .int) 1 := ⟨ok_J13_bitCount_95d88, tw_742, tw_743, tw_16, tw_744⟩
theorem ks_X2_22 : KS RX2 22 yJ7_fill_53178 cJ7_fill_53178 4 none 2 := ⟨ok_J7_fill_53178, tw_698, tw_40, tw_4, tw_41⟩
theorem ks_X2_83 : KS RX2 83 yX2_quotaLeft cX2_quotaLeft 4 (some .int) 2 := ⟨ok_X2_quotaLeft, tw_707, tw_708, tw_11, tw_709⟩
theorem ks_X5_46 : KS RX5 46 yJ7_fill_53178 cJ7_fill_53178 4 none 2 := ⟨ok_J7_fill_53178, tw_466, tw_40, tw_4, tw_41⟩
theorem ks_X6_38 : KS RX6 38 yJ7_fill_53178 cJ7_fill_53178 4 none 2 := ⟨ok_J7_fill_53178, tw_39, tw_40, tw_4, tw_41⟩
theorem ks_X8_76 : KS RX8 76 yJ6_bitCount_0f7a4 cJ6_bitCount_0f7a4 1 (some .int) 1 := ⟨ok_J6_bitCount_0f7a4, tw_540, tw_541, tw_15, tw_542⟩
theorem ks_X9_111 : KS RX9 111 yX9_outside cX9_outside 3 (some .boolean) 3 := ⟨ok_X9_outside, tw_437, tw_438, tw_1, tw_439⟩
theorem ks_X9_164 : KS RX9 164 yX9_outlives cX9_outlives 1 (some .boolean) 1 := ⟨ok_X9_outlives, tw_627, tw_599, tw_1, tw_600⟩
theorem ks_X9_170 : KS RX9 170 yX9_stallFor cX9_stallFor 1 (some .int) 1 := ⟨ok_X9_stallFor, tw_629, tw_606, tw_1, tw_607⟩
theorem ks_X9_320 : KS RX9 320 yJ7_fill_53178 cJ7_fill_53178 4 none 2 := ⟨ok_J7_fill_53178, tw_895, tw_40, tw_4, tw_41⟩
theorem kv_L_100 : KV RL 100 10 yX10_proc cX10_proc 3 (some .int) 2 := ⟨_, rfl, by decide, rfl, ok_X10_proc, tw_1375, tw_1376, tw_1377, tw_12, tw_1378⟩
theorem kv_L_101 : KV RL 101 9 yX9_share cX9_share 4 (some .int) 3 := ⟨_, rfl, by decide, rfl, ok_X9_share, tw_791, tw_792, tw_793, tw_1, tw_794⟩
theorem kv_L_104 : KV RL 104 10 yX10_share cX10_share 4 (some .int) 3 := ⟨_, rfl, by decide, rfl, ok_X10_share, tw_1379, tw_1380, tw_1381, tw_12, tw_1382⟩
theorem kv_L_105 : KV RL 105 9 yX9_spare cX9_spare 5 (some .int) 4 := ⟨_, rfl, by decide, rfl, ok_X9_spare, tw_800, tw_801, tw_802, tw_1, tw_803⟩
theorem kv_L_109 : KV RL 109 10 yX10_spare cX10_spare 5 (some .int) 4 := ⟨_, rfl, by decide, rfl, ok_X10_spare, tw_1387, tw_1388, tw_1389, tw_12, tw_1390⟩
theorem kv_L_110 : KV RL 110 9 yX9_next cX9_next 4 (some .int) 3 := ⟨_, rfl, by decide, rfl, ok_X9_next, tw_805, tw_806, tw_807, tw_1, tw_808⟩
theorem kv_L_113 : KV RL 113 10 yX10_next cX10_next 4 (some .int) 3 := ⟨_, rfl, by decide, rfl, ok_X10_next, tw_1391, tw_1392, tw_1393, tw_12, tw_1394⟩
theorem kv_L_114 : KV RL 114 9 yX9_below cX9_below 2 (some .int) 1 := ⟨_, rfl, by decide, rfl, ok_X9_below, tw_810, tw_811, tw_812, tw_1, tw_813⟩
theorem kv_L_117 : KV RL 117 10 yX10_below cX10_below 2 (some .int) 1 := ⟨_, rfl, by decide, rfl, ok_X10_below, tw_1395, tw_1396, tw_1397, tw_12, tw_1398⟩
theorem kv_L_118 : KV RL 118 9 yX9_procs cX9_procs 2 (some .int) 1 := ⟨_, rfl, by decide, rfl, ok_X9_procs, tw_814, tw_815, tw_816, tw_1, tw_817⟩
theorem kv_L_121 : KV RL 121 10 yX10_procs cX10_procs 2 (some .int) 1 := ⟨_, rfl, by decide, rfl, ok_X10_procs, tw_1403, tw_1404, tw_1405, tw_12, tw_1406⟩
theorem kv_L_122 : KV RL 122 9 yX9_common cX9_common 3 (some .int) 2 := ⟨_, rfl, by decide, rfl, ok_X9_common, tw_818, tw_819, tw_820, tw_1, tw_821⟩
theorem kv_L_125 : KV RL 125 10 yX10_common cX10_common 4 (some .int) 2 := ⟨_, rfl, by decide, rfl, ok_X10_common, tw_1407, tw_1408, tw_1409, tw_12, tw_1410⟩
theorem kv_L_126 : KV RL 126 9 yX9_pressure cX9_pressure 4 (some .int) 3 := ⟨_, rfl, by decide, rfl, ok_X9_pressure, tw_823, tw_824, tw_825, tw_1, tw_826⟩
theorem kv_L_129 : KV RL 129 10 yX10_pressure cX10_pressure 4 (some .int) 3 := ⟨_, rfl, by decide, rfl, ok_X10_pressure, tw_1411, tw_1412, tw_1413, tw_12, tw_1414⟩
theorem kv_L_13 : KV RL 13 9 yX9_group cX9_group 3 (some .int) 1 := ⟨_, rfl, by decide, rfl, ok_X9_group, tw_341, tw_342, tw_343, tw_1, tw_344⟩
theorem kv_L_130 : KV RL 130 9 yX9_average cX9_average 4 (some .int) 3 := ⟨_, rfl, by decide, rfl, ok_X9_average, tw_828, tw_829, tw_830, tw_1, tw_831⟩
theorem kv_L_133 : KV RL 133 10 yX10_average cX10_average 4 (some .int) 3 := ⟨_, rfl, by decide, rfl, ok_X10_average, tw_1419, tw_1420, tw_1421, tw_12, tw_1422⟩
theorem kv_L_134 : KV RL 134 9 yX9_stalls cX9_stalls 3 (some .int) 2 := ⟨_, rfl, by decide, rfl, ok_X9_stalls, tw_832, tw_833, tw_834, tw_1, tw_835⟩
theorem kv_L_137 : KV RL 137 10 yX10_stalls cX10_stalls 3 (some .int) 2 := ⟨_, rfl, by decide, rfl, ok_X10_stalls, tw_1415, tw_1416, tw_1417, tw_12, tw_1418⟩
theorem kv_L_138 : KV RL 138 9 yX9_worst cX9_worst 5 (some .int) 0 := ⟨_, rfl, by decide, rfl, ok_X9_worst, tw_836, tw_837, tw_838, tw_1, tw_839⟩
theorem kv_L_141 : KV RL 141 10 yX10_worst cX10_worst 4 (some .int) 0 := ⟨_, rfl, by decide, rfl, ok_X10_worst, tw_1423, tw_1424, tw_1425, tw_12, tw_1426⟩
theorem kv_L_142 : KV RL 142 9 yX9_units cX9_units 5 (some .int) 2 := ⟨_, rfl, by decide, rfl, ok_X9_units, tw_840, tw_841, tw_842, tw_1, tw_843⟩
theorem kv_L_145 : KV RL 145 10 yX10_units cX10_units 3 (some .int) 2 := ⟨_, rfl, by decide, rfl, ok_X10_units, tw_1427, tw_1428, tw_1429, tw_12, tw_1430⟩
theorem kv_L_146 : KV RL 146 9 yX9_fired cX9_fired 3 (some .int) 2 := ⟨_, rfl, by decide, rfl, ok_X9_fired, tw_845, tw_846, tw_847, tw_1, tw_848⟩
theorem kv_L_149 : KV RL 149 10 yX10_fired cX10_fired 3 (some .int) 2 := ⟨_, rfl, by decide, rfl, ok_X10_fired, tw_1455, tw_1456, tw_1457, tw_12, tw_1458⟩
theorem kv_L_150 : KV RL 150 9 yX9_events cX9_events 3 (some .int) 2 := ⟨_, rfl, by decide, rfl, ok_X9_events, tw_849, tw_850, tw_851, tw_1, tw_852⟩
theorem kv_L_153 : KV RL 153 10 yX10_events cX10_events 3 (some .int) 2 := ⟨_, rfl, by decide, rfl, ok_X10_events, tw_1459, tw_1460, tw_1461, tw_12, tw_1462⟩
theorem kv_L_154 : KV RL 154 9 yX9_victim cX9_victim 2 (some .int) 1 := ⟨_, rfl, by decide, rfl, ok_X9_victim, tw_853, tw_854, tw_855, tw_1, tw_856⟩
theorem kv_L_157 : KV RL 157 10 yX10_victim cX10_victim 2 (some .int) 1 := ⟨_, rfl, by decide, rfl, ok_X10_victim, tw_1464, tw_1465, tw_1466, tw_12, tw_1467⟩
theorem kv_L_158 : KV RL 158 9 yX9_dying cX9_dying 2 (some .int) 1 := ⟨_, rfl, by decide, rfl, ok_X9_dying, tw_858, tw_859, tw_860, tw_1, tw_861⟩
theorem kv_L_161 : KV RL 161 10 yX10_dying cX10_dying 2 (some .int) 1 := ⟨_, rfl, by decide, rfl, ok_X10_dying, tw_1468, tw_1469, tw_1470, tw_12, tw_1471⟩
theorem kv_L_162 : KV RL 162 9 yX9_room cX9_room 2 (some .int) 1 := ⟨_, rfl, by decide, rfl, ok_X9_room, tw_863, tw_864, tw_865, tw_1, tw_866⟩
theorem kv_L_165 : KV RL 165 10 yX10_room cX10_room 2 (some .int) 1 := ⟨_, rfl, by decide, rfl, ok_X10_room, tw_1484, tw_1485, tw_1486, tw_12, tw_1487⟩
theorem kv_L_166 : KV RL 166 9 yX9_deaths cX9_deaths 3 (some .int) 2 := ⟨_, rfl, by decide, rfl, ok_X9_deaths, tw_872, tw_873, tw_874, tw_1, tw_875⟩
theorem kv_L_169 : KV RL 169 10 yX10_deaths cX10_deaths 3 (some .int) 2 := ⟨_, rfl, by decide, rfl, ok_X10_deaths, tw_1472, tw_1473, tw_1474, tw_12, tw_1475⟩
theorem kv_L_17 : KV RL 17 10 yX10_group cX10_group 3 (some .int) 1 := ⟨_, rfl, by decide, rfl, ok_X10_group, tw_1027, tw_1028, tw_1029, tw_12, tw_1030⟩
theorem kv_L_170 : KV RL 170 9 yX9_taken cX9_taken 7 (some .int) 4 := ⟨_, rfl, by decide, rfl, ok_X9_taken, tw_877, tw_878, tw_879, tw_1, tw_880⟩
theorem kv_L_173 : KV RL 173 10 yX10_taken cX10_taken 8 (some .int) 4 := ⟨_, rfl, by decide, rfl, ok_X10_taken, tw_1480, tw_1481, tw_1482, tw_12, tw_1483⟩
theorem kv_L_174 : KV RL 174 9 yX9_place cX9_place 7 (some .int) 1 := ⟨_, rfl, by decide, rfl, ok_X9_place, tw_881, tw_882, tw_883, tw_1, tw_884⟩
theorem kv_L_177 : KV RL 177 10 yX10_place cX10_place 5 (some .int) 1 := ⟨_, rfl, by decide, rfl, ok_X10_place, tw_1493, tw_1494, tw_1495, tw_12, tw_1496⟩
theorem kv_L_178 : KV RL 178 9 yX9_due cX9_due 2 (some .int) 1 := ⟨_, rfl, by decide, rfl, ok_X9_due, tw_891, tw_892, tw_893, tw_1, tw_894⟩
theorem kv_L_18 : KV RL 18 9 yX9_remove cX9_remove 4 (some .int) 1 := ⟨_, rfl, by decide, rfl, ok_X9_remove, tw_404, tw_405, tw_406, tw_1, tw_407⟩
theorem kv_L_181 : KV RL 181 10 yX10_due cX10_due 3 (some .int) 1 := ⟨_, rfl, by decide, rfl, ok_X10_due, tw_1439, tw_1440, tw_1441, tw_12, tw_1442⟩
theorem kv_L_182 : KV RL 182 9 yX9_idle cX9_idle 2 (some .int) 0 := ⟨_, rfl, by decide, rfl, ok_X9_idle, tw_896, tw_897, tw_898, tw_1, tw_899⟩
theorem kv_L_185 : KV RL 185 10 yX10_idle cX10_idle 3 (some .int) 0 := ⟨_, rfl, by decide, rfl, ok_X10_idle, tw_1443, tw_1444, tw_1445, tw_12, tw_1446⟩
theorem kv_L_186 : KV RL 186 9 yX9_weigh cX9_weigh 4 (some .int) 2 := ⟨_, rfl, by decide, rfl, ok_X9_weigh, tw_904, tw_905, tw_906, tw_1, tw_907⟩
theorem kv_L_189 : KV RL 189 10 yX10_weigh cX10_weigh 5 (some .int) 2 := ⟨_, rfl, by decide, rfl, ok_X10_weigh, tw_1451, tw_1452, tw_1453, tw_12, tw_1454⟩
theorem kv_L_190 : KV RL 190 9 yX9_pressed cX9_pressed 2 (some .int) 1 := ⟨_, rfl, by decide, rfl, ok_X9_pressed, tw_908, tw_909, tw_910, tw_1, tw_911⟩
theorem kv_L_193 : KV RL 193 10 yX10_pressed cX10_pressed 4 (some .int) 1 := ⟨_, rfl, by decide, rfl, ok_X10_pressed, tw_1501, tw_1502, tw_1503, tw_12, tw_1504⟩
theorem kv_L_194 : KV RL 194 9 yX9_would cX9_would 5 (some .int) 3 := ⟨_, rfl, by decide, rfl, ok_X9_would, tw_912, tw_913, tw_914, tw_1, tw_915⟩
theorem kv_L_197 : KV RL 197 10 yX10_would cX10_would 5 (some .int) 3 := ⟨_, rfl, by decide, rfl, ok_X10_would, tw_1505, tw_1506, tw_1507, tw_12, tw_1508⟩
theorem kv_L_198 : KV RL 198 9 yX9_burst cX9_burst 6 (some .int) 2 := ⟨_, rfl, by decide, rfl, ok_X9_burst, tw_916, tw_917, tw_918, tw_1, tw_919⟩
theorem kv_L_201 : KV RL 201 10 yX10_burst cX10_burst 5 (some .int) 2 := ⟨_, rfl, by decide, rfl, ok_X10_burst, tw_1513, tw_1514, tw_1515, tw_12, tw_1516⟩
theorem kv_L_202 : KV RL 202 9 yX9_stalled cX9_stalled 6 (some .int) 3 := ⟨_, rfl, by decide, rfl, ok_X9_stalled, tw_920, tw_921, tw_922, tw_1, tw_923⟩
theorem kv_L_205 : KV RL 205 10 yX10_stalled cX10_stalled 6 (some .int) 3 := ⟨_, rfl, by decide, rfl, ok_X10_stalled, tw_1517, tw_1518, tw_1519, tw_12, tw_1520⟩
theorem kv_L_206 : KV RL 206 9 yX9_undo cX9_undo 2 (some .int) 1 := ⟨_, rfl, by decide, rfl, ok_X9_undo, tw_924, tw_925, tw_926, tw_1, tw_927⟩
theorem kv_L_209 : KV RL 209 10 yX10_undo cX10_undo 2 (some .int) 1 := ⟨_, rfl, by decide, rfl, ok_X10_undo, tw_1521, tw_1522, tw_1523, tw_12, tw_1524⟩
theorem kv_L_21 : KV RL 21 10 yX10_remove cX10_remove 7 (some .int) 1 := ⟨_, rfl, by decide, rfl, ok_X10_remove, tw_1060, tw_1061, tw_1062, tw_12, tw_1063⟩
theorem kv_L_210 : KV RL 210 9 yX9_image cX9_image 2 (some .int) 1 := ⟨_, rfl, by decide, rfl, ok_X9_image, tw_932, tw_933, tw_934, tw_1, tw_935⟩
theorem kv_L_213 : KV RL 213 10 yX10_image cX10_image 2 (some .int) 1 := ⟨_, rfl, by decide, rfl, ok_X10_image, tw_1525, tw_1526, tw_1527, tw_12, tw_1528⟩
theorem kv_L_214 : KV RL 214 9 yX9_restore cX9_restore 2 (some .int) 1 := ⟨_, rfl, by decide, rfl, ok_X9_restore, tw_936, tw_937, tw_938, tw_1, tw_939⟩
theorem kv_L_217 : KV RL 217 10 yX10_restore cX10_restore 2 (some .int) 1 := ⟨_, rfl, by decide, rfl, ok_X10_restore, tw_1529, tw_1530, tw_1531, tw_12, tw_1532⟩
theorem kv_L_218 : KV RL 218 9 yX9_count cX9_count 2 (some .int) 1 := ⟨_, rfl, by decide, rfl, ok_X9_count, tw_940, tw_941, tw_942, tw_1, tw_943⟩
theorem kv_L_22 : KV RL 22 9 yX9_limit cX9_limit 4 (some .int) 3 := ⟨_, rfl, by decide, rfl, ok_X9_limit, tw_433, tw_434, tw_435, tw_1, tw_436⟩
theorem kv_L_221 : KV RL 221 10 yX10_count cX10_count 2 (some .int) 1 := ⟨_, rfl, by decide, rfl, ok_X10_count, tw_1533, tw_1534, tw_1535, tw_12, tw_1536⟩
theorem kv_L_26 : KV RL 26 10 yX10_limit cX10_limit 5 (some .int) 3 := ⟨_, rfl, by decide, rfl, ok_X10_limit, tw_1089, tw_1090, tw_1091, tw_12, tw_1092⟩
theorem kv_L_27 : KV RL 27 9 yX9_process cX9_process 3 (some .int) 2 := ⟨_, rfl, by decide, rfl, ok_X9_process, tw_546, tw_547, tw_548, tw_1, tw_549⟩
theorem kv_L_31 : KV RL 31 10 yX10_process cX10_process 3 (some .int) 2 := ⟨_, rfl, by decide, rfl, ok_X10_process, tw_1184, tw_1185, tw_1186, tw_12, tw_1187⟩
theorem kv_L_32 : KV RL 32 9 yX9_fork cX9_fork 2 (some .int) 1 := ⟨_, rfl, by decide, rfl, ok_X9_fork, tw_563, tw_564, tw_565, tw_1, tw_566⟩
theorem kv_L_35 : KV RL 35 10 yX10_fork cX10_fork 2 (some .int) 1 := ⟨_, rfl, by decide, rfl, ok_X10_fork, tw_1201, tw_1202, tw_1203, tw_12, tw_1204⟩
theorem kv_L_36 : KV RL 36 9 yX9_charge cX9_charge 5 (some .int) 3 := ⟨_, rfl, by decide, rfl, ok_X9_charge, tw_571, tw_572, tw_573, tw_1, tw_574⟩
theorem kv_L_39 : KV RL 39 10 yX10_charge cX10_charge 6 (some .int) 3 := ⟨_, rfl, by decide, rfl, ok_X10_charge, tw_1205, tw_1206, tw_1207, tw_12, tw_1208⟩
theorem kv_L_40 : KV RL 40 9 yX9_uncharge cX9_uncharge 5 (some .int) 3 := ⟨_, rfl, by decide, rfl, ok_X9_uncharge, tw_613, tw_614, tw_615, tw_1, tw_616⟩
theorem kv_L_43 : KV RL 43 10 yX10_uncharge cX10_uncharge 6 (some .int) 3 := ⟨_, rfl, by decide, rfl, ok_X10_uncharge, tw_1238, tw_1239, tw_1240, tw_12, tw_1241⟩
theorem kv_L_44 : KV RL 44 9 yX9_use cX9_use 4 (some .int) 2 := ⟨_, rfl, by decide, rfl, ok_X9_use, tw_623, tw_624, tw_625, tw_1, tw_626⟩
theorem kv_L_47 : KV RL 47 10 yX10_use cX10_use 5 (some .int) 2 := ⟨_, rfl, by decide, rfl, ok_X10_use, tw_1246, tw_1247, tw_1248, tw_12, tw_1249⟩
theorem kv_L_48 : KV RL 48 9 yX9_work cX9_work 3 (some .int) 2 := ⟨_, rfl, by decide, rfl, ok_X9_work, tw_631, tw_632, tw_633, tw_1, tw_634⟩
theorem kv_L_51 : KV RL 51 10 yX10_work cX10_work 3 (some .int) 2 := ⟨_, rfl, by decide, rfl, ok_X10_work, tw_1251, tw_1252, tw_1253, tw_12, tw_1254⟩
theorem kv_L_52 : KV RL 52 9 yX9_move cX9_move 3 (some .int) 2 := ⟨_, rfl, by decide, rfl, ok_X9_move, tw_636, tw_637, tw_638, tw_1, tw_639⟩
theorem kv_L_55 : KV RL 55 10 yX10_move cX10_move 9 (some .int) 2 := ⟨_, rfl, by decide, rfl, ok_X10_move, tw_1256, tw_1257, tw_1258, tw_12, tw_1259⟩
theorem kv_L_56 : KV RL 56 9 yX9_kill cX9_kill 3 (some .int) 1 := ⟨_, rfl, by decide, rfl, ok_X9_kill, tw_662, tw_663, tw_664, tw_1, tw_665⟩
theorem kv_L_59 : KV RL 59 10 yX10_kill cX10_kill 3 (some .int) 1 := ⟨_, rfl, by decide, rfl, ok_X10_kill, tw_1264, tw_1265, tw_1266, tw_12, tw_1267⟩
theorem kv_L_60 : KV RL 60 9 yX9_take cX9_take 3 (some .int) 2 := ⟨_, rfl, by decide, rfl, ok_X9_take, tw_668, tw_669, tw_670, tw_1, tw_671⟩
theorem kv_L_63 : KV RL 63 10 yX10_take cX10_take 3 (some .int) 2 := ⟨_, rfl, by decide, rfl, ok_X10_take, tw_1268, tw_1269, tw_1270, tw_12, tw_1271⟩
theorem kv_L_64 : KV RL 64 9 yX9_drain cX9_drain 2 (some .int) 1 := ⟨_, rfl, by decide, rfl, ok_X9_drain, tw_673, tw_674, tw_675, tw_1, tw_676⟩
theorem kv_L_67 : KV RL 67 10 yX10_drain cX10_drain 2 (some .int) 1 := ⟨_, rfl, by decide, rfl, ok_X10_drain, tw_1272, tw_1273, tw_1274, tw_12, tw_1275⟩
theorem kv_L_68 : KV RL 68 9 yX9_batch cX9_batch 3 (some .int) 1 := ⟨_, rfl, by decide, rfl, ok_X9_batch, tw_678, tw_679, tw_680, tw_1, tw_681⟩
theorem kv_L_71 : KV RL 71 10 yX10_batch cX10_batch 3 (some .int) 1 := ⟨_, rfl, by decide, rfl, ok_X10_batch, tw_1276, tw_1277, tw_1278, tw_12, tw_1279⟩
theorem kv_L_72 : KV RL 72 9 yX9_swap cX9_swap 3 (some .int) 1 := ⟨_, rfl, by decide, rfl, ok_X9_swap, tw_682, tw_683, tw_684, tw_1, tw_685⟩
theorem kv_L_75 : KV RL 75 10 yX10_swap cX10_swap 3 (some .int) 1 := ⟨_, rfl, by decide, rfl, ok_X10_swap, tw_1280, tw_1281, tw_1282, tw_12, tw_1283⟩
theorem kv_L_76 : KV RL 76 9 yX9_cap cX9_cap 3 (some .int) 1 := ⟨_, rfl, by decide, rfl, ok_X9_cap, tw_686, tw_687, tw_688, tw_1, tw_689⟩
theorem kv_L_79 : KV RL 79 10 yX10_cap cX10_cap 3 (some .int) 1 := ⟨_, rfl, by decide, rfl, ok_X10_cap, tw_1288, tw_1289, tw_1290, tw_12, tw_1291⟩
theorem kv_L_80 : KV RL 80 9 yX9_tick cX9_tick 3 (some .int) 1 := ⟨_, rfl, by decide, rfl, ok_X9_tick, tw_690, tw_691, tw_692, tw_1, tw_693⟩
theorem kv_L_83 : KV RL 83 10 yX10_tick cX10_tick 3 (some .int) 1 := ⟨_, rfl, by decide, rfl, ok_X10_tick, tw_1292, tw_1293, tw_1294, tw_12, tw_1295⟩
theorem kv_L_84 : KV RL 84 9 yX9_trigger cX9_trigger 4 (some .int) 3 := ⟨_, rfl, by decide, rfl, ok_X9_trigger, tw_761, tw_762, tw_763, tw_1, tw_764⟩
theorem kv_L_87 : KV RL 87 10 yX10_trigger cX10_trigger 6 (some .int) 3 := ⟨_, rfl, by decide, rfl, ok_X10_trigger, tw_1354, tw_1355, tw_1356, tw_12, tw_1357⟩
theorem kv_L_88 : KV RL 88 9 yX9_forget cX9_forget 2 (some .int) 0 := ⟨_, rfl, by decide, rfl, ok_X9_forget, tw_769, tw_770, tw_771, tw_1, tw_772⟩
theorem kv_L_92 : KV RL 92 10 yX10_forget cX10_forget 2 (some .int) 0 := ⟨_, rfl, by decide, rfl, ok_X10_forget, tw_1358, tw_1359, tw_1360, tw_12, tw_1361⟩
theorem kv_L_93 : KV RL 93 9 yX9_of cX9_of 3 (some .int) 2 := ⟨_, rfl, by decide, rfl, ok_X9_of, tw_773, tw_774, tw_775, tw_1, tw_776⟩
theorem kv_L_96 : KV RL 96 10 yX10_of_ cX10_of_ 3 (some .int) 2 := ⟨_, rfl, by decide, rfl, ok_X10_of_, tw_1362, tw_1363, tw_1364, tw_12, tw_1365⟩
theorem kv_L_97 : KV RL 97 9 yX9_proc cX9_proc 3 (some .int) 2 := ⟨_, rfl, by decide, rfl, ok_X9_proc, tw_786, tw_787, tw_788, tw_1, tw_789⟩
theorem kv_X0_47 : KV RX0 47 0 yX0_held cX0_held 2 (some .int) 1 := ⟨_, rfl, by decide, rfl, ok_X0_held, tw_523, tw_524, tw_525, tw_5, tw_526⟩
theorem kv_X0_51 : KV RX0 51 0 yX0_pagesIn cX0_pagesIn 5 (some .int) 2 := ⟨_, rfl, by decide, rfl, ok_X0_pagesIn, tw_781, tw_782, tw_783, tw_5, tw_784⟩
theorem kv_X10_103 : KV RX10 103 10 yX10_parentOf cX10_parentOf 2 (some .int) 1 := ⟨_, rfl, by decide, rfl, ok_X10_parentOf, tw_1068, tw_1070, tw_p20, tw_12, tw_1071⟩
theorem kv_X10_107 : KV RX10 107 10 yX10_isGroup cX10_isGroup 2 (some .boolean) 1 := ⟨_, rfl, by decide, rfl, ok_X10_isGroup, tw_1031, tw_1033, tw_p15, tw_12, tw_1034⟩
theorem kv_X10_111 : KV RX10 111 10 yX10_isBelow cX10_isBelow 4 (some .boolean) 2 := ⟨_, rfl, by decide, rfl, ok_X10_isBelow, tw_1122, tw_1124, tw_p32, tw_12, tw_1125⟩
theorem kv_X10_114 : KV RX10 114 10 yX10_ofProcess cX10_ofProcess 4 (some .int) 3 := ⟨_, rfl, by decide, rfl, ok_X10_ofProcess, tw_1085, tw_1087, tw_p24, tw_12, tw_1088⟩
theorem kv_X10_117 : KV RX10 117 10 yX10_isProcess cX10_isProcess 2 (some .boolean) 1 := ⟨_, rfl, by decide, rfl, ok_X10_isProcess, tw_1076, tw_1078, tw_p22, tw_12, tw_1079⟩
theorem kv_X10_120 : KV RX10 120 10 yX10_groupOf cX10_groupOf 2 (some .int) 1 := ⟨_, rfl, by decide, rfl, ok_X10_groupOf, tw_1081, tw_1083, tw_p23, tw_12, tw_1084⟩
theorem kv_X10_123 : KV RX10 123 10 yX10_pagesIn cX10_pagesIn 5 (some .int) 2 := ⟨_, rfl, by decide, rfl, ok_X10_pagesIn, tw_1370, tw_1372, tw_p73, tw_12, tw_1373⟩
theorem kv_X10_127 : KV RX10 127 10 yX10_laysTotals cX10_laysTotals 2 none 0 := ⟨_, rfl, by decide, rfl, ok_X10_laysTotals, tw_1102, tw_1104, tw_p27, tw_12, tw_1105⟩
theorem kv_X10_130 : KV RX10 130 10 yX10_adds cX10_adds 5 none 3 := ⟨_, rfl, by decide, rfl, ok_X10_adds, tw_1106, tw_1108, tw_p28, tw_12, tw_1109⟩
theorem kv_X10_134 : KV RX10 134 10 yX10_pagesOf cX10_pagesOf 2 (some .int) 1 := ⟨_, rfl, by decide, rfl, ok_X10_pagesOf, tw_1110, tw_1112, tw_p29, tw_12, tw_1113⟩
theorem kv_X10_140 : KV RX10 140 10 yX10_sharedOut cX10_sharedOut 4 (some .int) 2 := ⟨_, rfl, by decide, rfl, ok_X10_sharedOut, tw_1141, tw_1143, tw_p36, tw_12, tw_1144⟩
theorem kv_X10_146 : KV RX10 146 10 yX10_laysShares cX10_laysShares 5 none 2 := ⟨_, rfl, by decide, rfl, ok_X10_laysShares, tw_1134, tw_1136, tw_p35, tw_12, tw_1137⟩
theorem kv_X10_149 : KV RX10 149 10 yX10_spareOf cX10_spareOf 6 (some .int) 3 := ⟨_, rfl, by decide, rfl, ok_X10_spareOf, tw_1145, tw_1147, tw_p37, tw_12, tw_1148⟩
theorem kv_X10_152 : KV RX10 152 10 yX10_drains cX10_drains 4 (some .int) 1 := ⟨_, rfl, by decide, rfl, ok_X10_drains, tw_1118, tw_1120, tw_p31, tw_12, tw_1121⟩
theorem kv_X10_155 : KV RX10 155 10 yX10_takesOf cX10_takesOf 9 (some .int) 4 := ⟨_, rfl, by decide, rfl, ok_X10_takesOf, tw_1126, tw_1128, tw_p33, tw_12, tw_1129⟩
theorem kv_X10_159 : KV RX10 159 10 yX10_nextOf cX10_nextOf 7 (some .int) 3 := ⟨_, rfl, by decide, rfl, ok_X10_nextOf, tw_1130, tw_1132, tw_p34, tw_12, tw_1133⟩
theorem kv_X10_162 : KV RX10 162 10 yX10_mostIn cX10_mostIn 5 (some .int) 2 := ⟨_, rfl, by decide, rfl, ok_X10_mostIn, tw_1152, tw_1154, tw_p38, tw_12, tw_1155⟩
theorem kv_X10_165 : KV RX10 165 10 yX10_badnessOf cX10_badnessOf 2 (some .int) 1 := ⟨_, rfl, by decide, rfl, ok_X10_badnessOf, tw_1168, tw_1170, tw_p42, tw_12, tw_1171⟩
theorem kv_X10_168 : KV RX10 168 10 yX10_victimBelow cX10_victimBelow 4 (some .int) 1 := ⟨_, rfl, by decide, rfl, ok_X10_victimBelow, tw_1164, tw_1166, tw_p41, tw_12, tw_1167⟩
theorem kv_X10_171 : KV RX10 171 10 yX10_processesBelow cX10_processesBelow 4 (some .int) 1 := ⟨_, rfl, by decide, rfl, ok_X10_processesBelow, tw_1172, tw_1174, tw_p43, tw_12, tw_1175⟩
theorem kv_X10_174 : KV RX10 174 10 yX10_laysProcess cX10_laysProcess 4 none 3 := ⟨_, rfl, by decide, rfl, ok_X10_laysProcess, tw_1180, tw_1182, tw_p45, tw_12, tw_1183⟩
theorem kv_X10_177 : KV RX10 177 10 yX10_dyingBelow cX10_dyingBelow 6 (some .int) 1 := ⟨_, rfl, by decide, rfl, ok_X10_dyingBelow, tw_1160, tw_1162, tw_p40, tw_12, tw_1163⟩
theorem kv_X10_180 : KV RX10 180 10 yX10_dies cX10_dies 3 none 1 := ⟨_, rfl, by decide, rfl, ok_X10_dies, tw_1176, tw_1178, tw_p44, tw_12, tw_1179⟩
theorem kv_X10_184 : KV RX10 184 10 yX10_totalOf cX10_totalOf 2 (some .int) 1 := ⟨_, rfl, by decide, rfl, ok_X10_totalOf, tw_1098, tw_1100, tw_p26, tw_12, tw_1101⟩
theorem kv_X10_187 : KV RX10 187 10 yX10_firstAbove cX10_firstAbove 4 (some .int) 2 := ⟨_, rfl, by decide, rfl, ok_X10_firstAbove, tw_1226, tw_1228, tw_p52, tw_12, tw_1229⟩
theorem kv_X10_190 : KV RX10 190 10 yX10_takes cX10_takes 5 (some .int) 2 := ⟨_, rfl, by decide, rfl, ok_X10_takes, tw_1114, tw_1116, tw_p30, tw_12, tw_1117⟩
theorem kv_X10_193 : KV RX10 193 10 yX10_deathBelow cX10_deathBelow 4 (some .int) 1 := ⟨_, rfl, by decide, rfl, ok_X10_deathBelow, tw_1156, tw_1158, tw_p39, tw_12, tw_1159⟩
theorem kv_X10_196 : KV RX10 196 10 yX10_stallsMore cX10_stallsMore 3 none 2 := ⟨_, rfl, by decide, rfl, ok_X10_stallsMore, tw_1234, tw_1236, tw_p54, tw_12, tw_1237⟩
theorem kv_X10_199 : KV RX10 199 10 yX10_areWithin cX10_areWithin 4 (some .boolean) 2 := ⟨_, rfl, by decide, rfl, ok_X10_areWithin, tw_1218, tw_1220, tw_p50, tw_12, tw_1221⟩
theorem kv_X10_202 : KV RX10 202 10 yX10_makesRoom cX10_makesRoom 7 (some .int) 2 := ⟨_, rfl, by decide, rfl, ok_X10_makesRoom, tw_1222, tw_1224, tw_p51, tw_12, tw_1225⟩
theorem kv_X10_205 : KV RX10 205 10 yX10_meetsHigh cX10_meetsHigh 5 none 1 := ⟨_, rfl, by decide, rfl, ok_X10_meetsHigh, tw_1230, tw_1232, tw_p53, tw_12, tw_1233⟩
theorem kv_X10_211 : KV RX10 211 10 yX10_begins cX10_begins 1 none 0 := ⟨_, rfl, by decide, rfl, ok_X10_begins, tw_1045, tw_1047, tw_p16, tw_12, tw_1048⟩
theorem kv_X10_214 : KV RX10 214 10 yX10_ends cX10_ends 3 (some .int) 2 := ⟨_, rfl, by decide, rfl, ok_X10_ends, tw_1052, tw_1054, tw_p17, tw_12, tw_1055⟩
theorem kv_X10_218 : KV RX10 218 10 yX10_isInUse cX10_isInUse 3 (some .boolean) 1 := ⟨_, rfl, by decide, rfl, ok_X10_isInUse, tw_1064, tw_1066, tw_p19, tw_12, tw_1067⟩
theorem kv_X10_223 : KV RX10 223 10 yX10_limits cX10_limits 5 (some .boolean) 3 := ⟨_, rfl, by decide, rfl, ok_X10_limits, tw_1094, tw_1096, tw_p25, tw_12, tw_1097⟩
theorem kv_X10_231 : KV RX10 231 10 yX10_comes cX10_comes 6 (some .int) 2 := ⟨_, rfl, by decide, rfl, ok_X10_comes, tw_1190, tw_1192, tw_p46, tw_12, tw_1193⟩
theorem kv_X10_237 : KV RX10 237 10 yX10_isFull cX10_isFull 2 (some .boolean) 1 := ⟨_, rfl, by decide, rfl, ok_X10_isFull, tw_1194, tw_1196, tw_p47, tw_12, tw_1197⟩
theorem kv_X10_242 : KV RX10 242 10 yX10_refusedBy cX10_refusedBy 4 (some .int) 3 := ⟨_, rfl, by decide, rfl, ok_X10_refusedBy, tw_1209, tw_1211, tw_p48, tw_12, tw_1212⟩
theorem kv_X10_245 : KV RX10 245 10 yX10_charges cX10_charges 7 (some .int) 3 := ⟨_, rfl, by decide, rfl, ok_X10_charges, tw_1214, tw_1216, tw_p49, tw_12, tw_1217⟩
theorem kv_X10_248 : KV RX10 248 10 yX10_givesBack cX10_givesBack 3 none 2 := ⟨_, rfl, by decide, rfl, ok_X10_givesBack, tw_1242, tw_1244, tw_p55, tw_12, tw_1245⟩
theorem kv_X10_255 : KV RX10 255 10 yX10_hasRoomFor cX10_hasRoomFor 4 (some .boolean) 2 := ⟨_, rfl, by decide, rfl, ok_X10_hasRoomFor, tw_1260, tw_1262, tw_p56, tw_12, tw_1263⟩
theorem kv_X10_258 : KV RX10 258 10 yX10_outOf cX10_outOf 2 (some .int) 1 := ⟨_, rfl, by decide, rfl, ok_X10_outOf, tw_1284, tw_1286, tw_p57, tw_12, tw_1287⟩
theorem kv_X10_261 : KV RX10 261 10 yX10_laysAsks cX10_laysAsks 4 (some .int) 1 := ⟨_, rfl, by decide, rfl, ok_X10_laysAsks, tw_1309, tw_1311, tw_p61, tw_12, tw_1312⟩
theorem kv_X10_264 : KV RX10 264 10 yX10_isOf cX10_isOf 3 (some .boolean) 2 := ⟨_, rfl, by decide, rfl, ok_X10_isOf, tw_1321, tw_1323, tw_p64, tw_12, tw_1324⟩
theorem kv_X10_267 : KV RX10 267 10 yX10_weightOf cX10_weightOf 2 (some .int) 1 := ⟨_, rfl, by decide, rfl, ok_X10_weightOf, tw_1325, tw_1327, tw_p65, tw_12, tw_1328⟩
theorem kv_X10_270 : KV RX10 270 10 yX10_round cX10_round 8 (some .int) 2 := ⟨_, rfl, by decide, rfl, ok_X10_round, tw_1317, tw_1319, tw_p63, tw_12, tw_1320⟩
theorem kv_X10_273 : KV RX10 273 10 yX10_parts cX10_parts 5 none 1 := ⟨_, rfl, by decide, rfl, ok_X10_parts, tw_1313, tw_1315, tw_p62, tw_12, tw_1316⟩
theorem kv_X10_276 : KV RX10 276 10 yX10_laysUnits cX10_laysUnits 2 none 0 := ⟨_, rfl, by decide, rfl, ok_X10_laysUnits, tw_1305, tw_1307, tw_p60, tw_12, tw_1308⟩
theorem kv_X10_281 : KV RX10 281 10 yX10_latestOf cX10_latestOf 3 (some .long) 2 := ⟨_, rfl, by decide, rfl, ok_X10_latestOf, tw_1337, tw_1339, tw_p68, tw_12, tw_1340⟩
theorem kv_X10_285 : KV RX10 285 10 yX10_pressureOf cX10_pressureOf 8 (some .int) 3 := ⟨_, rfl, by decide, rfl, ok_X10_pressureOf, tw_1333, tw_1335, tw_p67, tw_12, tw_1336⟩
theorem kv_X10_288 : KV RX10 288 10 yX10_works cX10_works 2 none 0 := ⟨_, rfl, by decide, rfl, ok_X10_works, tw_1301, tw_1303, tw_p59, tw_12, tw_1304⟩
theorem kv_X10_291 : KV RX10 291 10 yX10_isOver cX10_isOver 3 (some .boolean) 1 := ⟨_, rfl, by decide, rfl, ok_X10_isOver, tw_1329, tw_1331, tw_p66, tw_12, tw_1332⟩
theorem kv_X10_294 : KV RX10 294 10 yX10_isStalled cX10_isStalled 7 (some .boolean) 2 := ⟨_, rfl, by decide, rfl, ok_X10_isStalled, tw_1341, tw_1343, tw_p69, tw_12, tw_1344⟩
theorem kv_X10_297 : KV RX10 297 10 yX10_laysLatest cX10_laysLatest 5 none 3 := ⟨_, rfl, by decide, rfl, ok_X10_laysLatest, tw_1345, tw_1347, tw_p70, tw_12, tw_1348⟩
theorem kv_X10_301 : KV RX10 301 10 yX10_averages cX10_averages 6 none 3 := ⟨_, rfl, by decide, rfl, ok_X10_averages, tw_1350, tw_1352, tw_p71, tw_12, tw_1353⟩
theorem kv_X10_307 : KV RX10 307 10 yX10_ticks cX10_ticks 5 none 0 := ⟨_, rfl, by decide, rfl, ok_X10_ticks, tw_1297, tw_1299, tw_p58, tw_12, tw_1300⟩
theorem kv_X10_310 : KV RX10 310 10 yX10_ownOf cX10_ownOf 2 (some .int) 1 := ⟨_, rfl, by decide, rfl, ok_X10_ownOf, tw_1366, tw_1368, tw_p72, tw_12, tw_1369⟩
theorem kv_X10_315 : KV RX10 315 10 yX10_isPair cX10_isPair 3 (some .boolean) 2 := ⟨_, rfl, by decide, rfl, ok_X10_isPair, tw_1383, tw_1385, tw_p74, tw_12, tw_1386⟩
theorem kv_X10_318 : KV RX10 318 10 yX10_groupsBelow cX10_groupsBelow 4 (some .int) 1 := ⟨_, rfl, by decide, rfl, ok_X10_groupsBelow, tw_1399, tw_1401, tw_p75, tw_12, tw_1402⟩
theorem kv_X10_321 : KV RX10 321 10 yX10_opensPaper cX10_opensPaper 1 none 0 := ⟨_, rfl, by decide, rfl, ok_X10_opensPaper, tw_1431, tw_1433, tw_p76, tw_12, tw_1434⟩
theorem kv_X10_324 : KV RX10 324 10 yX10_closesPaper cX10_closesPaper 1 none 0 := ⟨_, rfl, by decide, rfl, ok_X10_closesPaper, tw_1435, tw_1437, tw_p77, tw_12, tw_1438⟩
theorem kv_X10_327 : KV RX10 327 10 yX10_isIdle cX10_isIdle 2 (some .boolean) 0 := ⟨_, rfl, by decide, rfl, ok_X10_isIdle, tw_1447, tw_1449, tw_p78, tw_12, tw_1450⟩
theorem kv_X10_333 : KV RX10 333 10 yX10_deathsBy cX10_deathsBy 6 (some .int) 2 := ⟨_, rfl, by decide, rfl, ok_X10_deathsBy, tw_1476, tw_1478, tw_p79, tw_12, tw_1479⟩
theorem kv_X10_337 : KV RX10 337 10 yX10_leastRoom cX10_leastRoom 4 (some .int) 1 := ⟨_, rfl, by decide, rfl, ok_X10_leastRoom, tw_1488, tw_1490, tw_p80, tw_12, tw_1491⟩
theorem kv_X10_340 : KV RX10 340 10 yX10_roomBehind cX10_roomBehind 5 (some .int) 2 := ⟨_, rfl, by decide, rfl, ok_X10_roomBehind, tw_1497, tw_1499, tw_p81, tw_12, tw_1500⟩
theorem kv_X10_346 : KV RX10 346 10 yX10_wouldTell cX10_wouldTell 5 (some .int) 3 := ⟨_, rfl, by decide, rfl, ok_X10_wouldTell, tw_1509, tw_1511, tw_p82, tw_12, tw_1512⟩
theorem kv_X10_349 : KV RX10 349 10 yX10_allOf cX10_allOf 4 (some .int) 1 := ⟨_, rfl, by decide, rfl, ok_X10_allOf, tw_1537, tw_1539, tw_p83, tw_12, tw_1540⟩
theorem kv_X10_69 : KV RX10 69 10 yX10_laysGroup cX10_laysGroup 4 none 2 := ⟨_, rfl, by decide, rfl, ok_X10_laysGroup, tw_954, tw_956, tw_p13, tw_12, tw_957⟩
theorem kv_X10_80 : KV RX10 80 10 yX10_notes cX10_notes 2 none 0 := ⟨_, rfl, by decide, rfl, ok_X10_notes, tw_1056, tw_1058, tw_p18, tw_12, tw_1059⟩
theorem kv_X10_95 : KV RX10 95 10 yX10_lays cX10_lays 4 none 3 := ⟨_, rfl, by decide, rfl, ok_X10_lays, tw_958, tw_960, tw_p14, tw_12, tw_961⟩
theorem kv_X10_99 : KV RX10 99 10 yX10_of cX10_of 4 (some .int) 3 := ⟨_, rfl, by decide, rfl, ok_X10_of, tw_1072, tw_1074, tw_p21, tw_12, tw_1075⟩
theorem kv_X2_18 : KV RX2 18 2 yX2_collectAsks cX2_collectAsks 4 none 1 := ⟨_, rfl, by decide, rfl, ok_X2_collectAsks, tw_703, tw_705, tw_p9, tw_11, tw_706⟩
theorem kv_X2_52 : KV RX2 52 2 yX2_giveRound cX2_giveRound 9 (some .int) 3 := ⟨_, rfl, by decide, rfl, ok_X2_giveRound, tw_712, tw_714, tw_p10, tw_11, tw_715⟩
theorem kv_X2_62 : KV RX2 62 2 yX2_plan cX2_plan 6 none 1 := ⟨_, rfl, by decide, rfl, ok_X2_plan, tw_699, tw_700, tw_701, tw_11, tw_702⟩
theorem kv_X2_97 : KV RX2 97 2 yX2_askingWeight cX2_askingWeight 4 (some .int) 3 := ⟨_, rfl, by decide, rfl, ok_X2_askingWeight, tw_716, tw_718, tw_p11, tw_11, tw_719⟩
theorem kv_X3_100 : KV RX3 100 3 yX3_mayNotJoin cX3_mayNotJoin 8 (some .boolean) 4 := ⟨_, rfl, by decide, rfl, ok_X3_mayNotJoin, tw_652, tw_654, tw_p8, tw_10, tw_655⟩
theorem kv_X3_104 : KV RX3 104 0 yX0_held cX0_held 2 (some .int) 1 := ⟨_, rfl, by decide, rfl, ok_X0_held, tw_657, tw_524, tw_525, tw_5, tw_526⟩
theorem kv_X3_107 : KV RX3 107 8 yX8_relocate cX8_relocate 3 none 2 := ⟨_, rfl, by decide, rfl, ok_X8_relocate, tw_658, tw_659, tw_660, tw_2, tw_661⟩
theorem kv_X3_110 : KV RX3 110 8 yX8_pidsFull cX8_pidsFull 5 (some .boolean) 2 := ⟨_, rfl, by decide, rfl, ok_X8_pidsFull, tw_656, tw_559, tw_560, tw_2, tw_561⟩
theorem kv_X3_120 : KV RX3 120 6 yX6_leastLeft cX6_leastLeft 5 (some .int) 1 := ⟨_, rfl, by decide, rfl, ok_X6_leastLeft, tw_889, tw_868, tw_869, tw_3, tw_870⟩
theorem kv_X3_36 : KV RX3 36 6 yX6_addStock cX6_addStock 3 none 2 := ⟨_, rfl, by decide, rfl, ok_X6_addStock, tw_583, tw_422, tw_423, tw_3, tw_424⟩
theorem kv_X3_40 : KV RX3 40 8 yX8_addPages cX8_addPages 4 none 3 := ⟨_, rfl, by decide, rfl, ok_X8_addPages, tw_584, tw_494, tw_495, tw_2, tw_496⟩
theorem kv_X3_54 : KV RX3 54 6 yX6_firstAboveMax cX6_firstAboveMax 5 (some .int) 2 := ⟨_, rfl, by decide, rfl, ok_X6_firstAboveMax, tw_586, tw_587, tw_588, tw_3, tw_589⟩
theorem kv_X3_57 : KV RX3 57 3 yX3_makeRoom cX3_makeRoom 9 (some .int) 3 := ⟨_, rfl, by decide, rfl, ok_X3_makeRoom, tw_590, tw_592, tw_p6, tw_10, tw_593⟩
theorem kv_X3_65 : KV RX3 65 3 yX3_fitsUnderMax cX3_fitsUnderMax 5 (some .boolean) 3 := ⟨_, rfl, by decide, rfl, ok_X3_fitsUnderMax, tw_594, tw_596, tw_p7, tw_10, tw_597⟩
theorem kv_X3_69 : KV RX3 69 8 yX8_strike cX8_strike 4 (some .int) 1 := ⟨_, rfl, by decide, rfl, ok_X8_strike, tw_506, tw_507, tw_508, tw_2, tw_509⟩
theorem kv_X3_83 : KV RX3 83 5 yX5_takePages cX5_takePages 9 (some .int) 3 := ⟨_, rfl, by decide, rfl, ok_X5_takePages, tw_448, tw_449, tw_450, tw_9, tw_451⟩
theorem kv_X3_91 : KV RX3 91 0 yX0_addStall cX0_addStall 3 none 2 := ⟨_, rfl, by decide, rfl, ok_X0_addStall, tw_608, tw_609, tw_610, tw_5, tw_611⟩
theorem kv_X3_97 : KV RX3 97 6 yX6_lowestCommon cX6_lowestCommon 6 (some .int) 2 := ⟨_, rfl, by decide, rfl, ok_X6_lowestCommon, tw_644, tw_645, tw_646, tw_3, tw_647⟩
theorem kv_X4_25 : KV RX4 25 4 yX4_slot cX4_slot 2 (some (.object "GroupLimits$World")) 1 := ⟨_, rfl, by decide, rfl, ok_X4_slot, tw_357, tw_359, tw_p0, tw_8, tw_360⟩
theorem kv_X4_29 : KV RX4 29 8 yX8_copyFrom cX8_copyFrom 2 none 1 := ⟨_, rfl, by decide, rfl, ok_X8_copyFrom, tw_361, tw_362, tw_363, tw_2, tw_364⟩
theorem kv_X5_101 : KV RX5 101 5 yX5_measureSpares cX5_measureSpares 11 none 4 := ⟨_, rfl, by decide, rfl, ok_X5_measureSpares, tw_457, tw_458, tw_459, tw_9, tw_460⟩
theorem kv_X5_105 : KV RX5 105 5 yX5_richestGroup cX5_richestGroup 4 (some .int) 0 := ⟨_, rfl, by decide, rfl, ok_X5_richestGroup, tw_481, tw_482, tw_483, tw_9, tw_484⟩
theorem kv_X5_109 : KV RX5 109 5 yX5_takeStep cX5_takeStep 8 (some .int) 4 := ⟨_, rfl, by decide, rfl, ok_X5_takeStep, tw_485, tw_487, tw_p3, tw_9, tw_488⟩
theorem kv_X5_116 : KV RX5 116 0 yX0_richestIn cX0_richestIn 6 (some .int) 2 := ⟨_, rfl, by decide, rfl, ok_X0_richestIn, tw_489, tw_490, tw_491, tw_5, tw_492⟩
theorem kv_X5_122 : KV RX5 122 8 yX8_addPages cX8_addPages 4 none 3 := ⟨_, rfl, by decide, rfl, ok_X8_addPages, tw_493, tw_494, tw_495, tw_2, tw_496⟩
theorem kv_X5_126 : KV RX5 126 8 yX8_swapOut cX8_swapOut 3 none 2 := ⟨_, rfl, by decide, rfl, ok_X8_swapOut, tw_498, tw_499, tw_500, tw_2, tw_501⟩
theorem kv_X5_42 : KV RX5 42 6 yX6_bitsBelow cX6_bitsBelow 4 (some .int) 1 := ⟨_, rfl, by decide, rfl, ok_X6_bitsBelow, tw_465, tw_409, tw_410, tw_3, tw_411⟩
theorem kv_X5_71 : KV RX5 71 5 yX5_partShares cX5_partShares 11 none 3 := ⟨_, rfl, by decide, rfl, ok_X5_partShares, tw_461, tw_462, tw_463, tw_9, tw_464⟩
theorem kv_X5_75 : KV RX5 75 5 yX5_measureSwap cX5_measureSwap 7 none 1 := ⟨_, rfl, by decide, rfl, ok_X5_measureSwap, tw_470, tw_472, tw_p2, tw_9, tw_473⟩
theorem kv_X5_83 : KV RX5 83 0 yX0_sumByGroup cX0_sumByGroup 4 none 2 := ⟨_, rfl, by decide, rfl, ok_X0_sumByGroup, tw_477, tw_478, tw_479, tw_5, tw_480⟩
theorem kv_X5_98 : KV RX5 98 6 yX6_emptyStocks cX6_emptyStocks 5 (some .int) 1 := ⟨_, rfl, by decide, rfl, ok_X6_emptyStocks, tw_452, tw_453, tw_454, tw_3, tw_455⟩
theorem kv_X6_44 : KV RX6 44 6 yX6_putGroup cX6_putGroup 4 none 2 := ⟨_, rfl, by decide, rfl, ok_X6_putGroup, tw_42, tw_43, tw_44, tw_3, tw_45⟩
theorem kv_X6_61 : KV RX6 61 6 yX6_addStock cX6_addStock 3 none 2 := ⟨_, rfl, by decide, rfl, ok_X6_addStock, tw_421, tw_422, tw_423, tw_3, tw_424⟩
theorem kv_X6_64 : KV RX6 64 6 yX6_pathBits cX6_pathBits 5 (some .int) 1 := ⟨_, rfl, by decide, rfl, ok_X6_pathBits, tw_648, tw_649, tw_650, tw_3, tw_651⟩
theorem kv_X6_74 : KV RX6 74 6 yX6_addTotal cX6_addTotal 5 none 2 := ⟨_, rfl, by decide, rfl, ok_X6_addTotal, tw_425, tw_426, tw_427, tw_3, tw_428⟩
theorem kv_X6_77 : KV RX6 77 6 yX6_bitsBelow cX6_bitsBelow 4 (some .int) 1 := ⟨_, rfl, by decide, rfl, ok_X6_bitsBelow, tw_456, tw_409, tw_410, tw_3, tw_411⟩
theorem kv_X7_34 : KV RX7 34 1 yX1_recent cX1_recent 4 (some .int) 3 := ⟨_, rfl, by decide, rfl, ok_X1_recent, tw_735, tw_736, tw_737, tw_6, tw_738⟩
theorem kv_X7_40 : KV RX7 40 1 yX1_recentAhead cX1_recentAhead 4 (some .int) 3 := ⟨_, rfl, by decide, rfl, ok_X1_recentAhead, tw_748, tw_749, tw_750, tw_6, tw_751⟩
theorem kv_X8_101 : KV RX8 101 8 yX8_addPages cX8_addPages 4 none 3 := ⟨_, rfl, by decide, rfl, ok_X8_addPages, tw_621, tw_494, tw_495, tw_2, tw_496⟩
theorem kv_X8_105 : KV RX8 105 6 yX6_addStock cX6_addStock 3 none 2 := ⟨_, rfl, by decide, rfl, ok_X6_addStock, tw_622, tw_422, tw_423, tw_3, tw_424⟩
theorem kv_X8_111 : KV RX8 111 0 yX0_held cX0_held 2 (some .int) 1 := ⟨_, rfl, by decide, rfl, ok_X0_held, tw_535, tw_524, tw_525, tw_5, tw_526⟩
theorem kv_X8_114 : KV RX8 114 0 yX0_putProcess cX0_putProcess 4 none 3 := ⟨_, rfl, by decide, rfl, ok_X0_putProcess, tw_536, tw_537, tw_538, tw_5, tw_539⟩
theorem kv_X8_120 : KV RX8 120 0 yX0_badness cX0_badness 2 (some .int) 1 := ⟨_, rfl, by decide, rfl, ok_X0_badness, tw_519, tw_520, tw_521, tw_5, tw_522⟩
theorem kv_X8_123 : KV RX8 123 8 yX8_victimBelow cX8_victimBelow 6 (some .int) 1 := ⟨_, rfl, by decide, rfl, ok_X8_victimBelow, tw_514, tw_515, tw_516, tw_2, tw_517⟩
theorem kv_X8_126 : KV RX8 126 8 yX8_mortalBelow cX8_mortalBelow 4 (some .int) 1 := ⟨_, rfl, by decide, rfl, ok_X8_mortalBelow, tw_527, tw_528, tw_529, tw_2, tw_530⟩
theorem kv_X8_129 : KV RX8 129 8 yX8_dyingBelow cX8_dyingBelow 6 (some .int) 1 := ⟨_, rfl, by decide, rfl, ok_X8_dyingBelow, tw_510, tw_511, tw_512, tw_2, tw_513⟩
theorem kv_X8_132 : KV RX8 132 8 yX8_bury cX8_bury 2 none 1 := ⟨_, rfl, by decide, rfl, ok_X8_bury, tw_531, tw_532, tw_533, tw_2, tw_534⟩
theorem kv_X8_139 : KV RX8 139 6 yX6_pathBits cX6_pathBits 5 (some .int) 1 := ⟨_, rfl, by decide, rfl, ok_X6_pathBits, tw_724, tw_649, tw_650, tw_3, tw_651⟩
theorem kv_X8_154 : KV RX8 154 1 yX1_note cX1_note 7 none 3 := ⟨_, rfl, by decide, rfl, ok_X1_note, tw_725, tw_726, tw_727, tw_6, tw_728⟩
theorem kv_X8_158 : KV RX8 158 7 yX7_fire cX7_fire 5 none 1 := ⟨_, rfl, by decide, rfl, ok_X7_fire, tw_731, tw_732, tw_733, tw_7, tw_734⟩
theorem kv_X8_161 : KV RX8 161 0 yX0_fadeStalls cX0_fadeStalls 2 none 0 := ⟨_, rfl, by decide, rfl, ok_X0_fadeStalls, tw_756, tw_757, tw_758, tw_5, tw_759⟩
theorem kv_X8_52 : KV RX8 52 6 yX6_copyFrom cX6_copyFrom 3 none 1 := ⟨_, rfl, by decide, rfl, ok_X6_copyFrom, tw_365, tw_366, tw_367, tw_3, tw_368⟩
theorem kv_X8_56 : KV RX8 56 0 yX0_copyFrom cX0_copyFrom 2 none 1 := ⟨_, rfl, by decide, rfl, ok_X0_copyFrom, tw_372, tw_373, tw_374, tw_5, tw_375⟩
theorem kv_X8_59 : KV RX8 59 1 yX1_copyFrom cX1_copyFrom 3 none 1 := ⟨_, rfl, by decide, rfl, ok_X1_copyFrom, tw_377, tw_378, tw_379, tw_6, tw_380⟩
theorem kv_X8_62 : KV RX8 62 7 yX7_copyFrom cX7_copyFrom 2 none 1 := ⟨_, rfl, by decide, rfl, ok_X7_copyFrom, tw_382, tw_383, tw_384, tw_7, tw_385⟩
theorem kv_X8_65 : KV RX8 65 6 yX6_bitsBelow cX6_bitsBelow 4 (some .int) 1 := ⟨_, rfl, by decide, rfl, ok_X6_bitsBelow, tw_416, tw_409, tw_410, tw_3, tw_411⟩
theorem kv_X8_73 : KV RX8 73 8 yX8_bitsOfProcesses cX8_bitsOfProcesses 5 (some .int) 1 := ⟨_, rfl, by decide, rfl, ok_X8_bitsOfProcesses, tw_518, tw_413, tw_414, tw_2, tw_415⟩
theorem kv_X8_91 : KV RX8 91 6 yX6_addTotal cX6_addTotal 5 none 2 := ⟨_, rfl, by decide, rfl, ok_X6_addTotal, tw_497, tw_426, tw_427, tw_3, tw_428⟩
theorem kv_X8_98 : KV RX8 98 6 yX6_addOut cX6_addOut 5 none 2 := ⟨_, rfl, by decide, rfl, ok_X6_addOut, tw_502, tw_503, tw_504, tw_3, tw_505⟩
theorem kv_X9_106 : KV RX9 106 7 yX7_dropOf cX7_dropOf 4 none 1 := ⟨_, rfl, by decide, rfl, ok_X7_dropOf, tw_429, tw_430, tw_431, tw_7, tw_432⟩
theorem kv_X9_121 : KV RX9 121 3 yX3_setLimit cX3_setLimit 8 (some .int) 4 := ⟨_, rfl, by decide, rfl, ok_X3_setLimit, tw_444, tw_445, tw_446, tw_10, tw_447⟩
theorem kv_X9_125 : KV RX9 125 9 yX9_startProcess cX9_startProcess 4 (some .int) 2 := ⟨_, rfl, by decide, rfl, ok_X9_startProcess, tw_550, tw_552, tw_p4, tw_1, tw_553⟩
theorem kv_X9_133 : KV RX9 133 0 yX0_has cX0_has 2 (some .boolean) 1 := ⟨_, rfl, by decide, rfl, ok_X0_has, tw_567, tw_568, tw_569, tw_5, tw_570⟩
theorem kv_X9_142 : KV RX9 142 9 yX9_wrongCharge cX9_wrongCharge 4 (some .int) 3 := ⟨_, rfl, by decide, rfl, ok_X9_wrongCharge, tw_575, tw_577, tw_p5, tw_1, tw_578⟩
theorem kv_X9_146 : KV RX9 146 3 yX3_admit cX3_admit 8 (some .int) 4 := ⟨_, rfl, by decide, rfl, ok_X3_admit, tw_579, tw_580, tw_581, tw_10, tw_582⟩
theorem kv_X9_149 : KV RX9 149 3 yX3_pressToHigh cX3_pressToHigh 8 (some .int) 3 := ⟨_, rfl, by decide, rfl, ok_X3_pressToHigh, tw_601, tw_602, tw_603, tw_10, tw_604⟩
theorem kv_X9_157 : KV RX9 157 8 yX8_giveBack cX8_giveBack 5 none 3 := ⟨_, rfl, by decide, rfl, ok_X8_giveBack, tw_617, tw_618, tw_619, tw_2, tw_620⟩
theorem kv_X9_167 : KV RX9 167 8 yX8_swapOut cX8_swapOut 3 none 2 := ⟨_, rfl, by decide, rfl, ok_X8_swapOut, tw_628, tw_499, tw_500, tw_2, tw_501⟩
theorem kv_X9_173 : KV RX9 173 0 yX0_addStall cX0_addStall 3 none 2 := ⟨_, rfl, by decide, rfl, ok_X0_addStall, tw_630, tw_609, tw_610, tw_5, tw_611⟩
theorem kv_X9_184 : KV RX9 184 3 yX3_moveProcess cX3_moveProcess 10 (some .int) 3 := ⟨_, rfl, by decide, rfl, ok_X3_moveProcess, tw_640, tw_641, tw_642, tw_10, tw_643⟩
theorem kv_X9_187 : KV RX9 187 0 yX0_held cX0_held 2 (some .int) 1 := ⟨_, rfl, by decide, rfl, ok_X0_held, tw_666, tw_524, tw_525, tw_5, tw_526⟩
theorem kv_X9_190 : KV RX9 190 8 yX8_bury cX8_bury 2 none 1 := ⟨_, rfl, by decide, rfl, ok_X8_bury, tw_667, tw_532, tw_533, tw_2, tw_534⟩
theorem kv_X9_193 : KV RX9 193 5 yX5_takePages cX5_takePages 9 (some .int) 3 := ⟨_, rfl, by decide, rfl, ok_X5_takePages, tw_672, tw_449, tw_450, tw_9, tw_451⟩
theorem kv_X9_196 : KV RX9 196 6 yX6_emptyStocks cX6_emptyStocks 5 (some .int) 1 := ⟨_, rfl, by decide, rfl, ok_X6_emptyStocks, tw_677, tw_453, tw_454, tw_3, tw_455⟩
theorem kv_X9_212 : KV RX9 212 2 yX2_doWork cX2_doWork 3 none 1 := ⟨_, rfl, by decide, rfl, ok_X2_doWork, tw_694, tw_695, tw_696, tw_11, tw_697⟩
theorem kv_X9_215 : KV RX9 215 8 yX8_noteStalls cX8_noteStalls 6 none 0 := ⟨_, rfl, by decide, rfl, ok_X8_noteStalls, tw_720, tw_721, tw_722, tw_2, tw_723⟩
theorem kv_X9_218 : KV RX9 218 8 yX8_passTick cX8_passTick 1 none 0 := ⟨_, rfl, by decide, rfl, ok_X8_passTick, tw_752, tw_753, tw_754, tw_2, tw_755⟩
theorem kv_X9_227 : KV RX9 227 7 yX7_add cX7_add 5 (some .int) 3 := ⟨_, rfl, by decide, rfl, ok_X7_add, tw_765, tw_766, tw_767, tw_7, tw_768⟩
theorem kv_X9_233 : KV RX9 233 0 yX0_ownPages cX0_ownPages 2 (some .int) 1 := ⟨_, rfl, by decide, rfl, ok_X0_ownPages, tw_777, tw_778, tw_779, tw_5, tw_780⟩
theorem kv_X9_242 : KV RX9 242 0 yX0_pagesIn cX0_pagesIn 5 (some .int) 2 := ⟨_, rfl, by decide, rfl, ok_X0_pagesIn, tw_785, tw_782, tw_783, tw_5, tw_784⟩
theorem kv_X9_251 : KV RX9 251 0 yX0_badness cX0_badness 2 (some .int) 1 := ⟨_, rfl, by decide, rfl, ok_X0_badness, tw_790, tw_520, tw_521, tw_5, tw_522⟩
theorem kv_X9_257 : KV RX9 257 9 yX9_isBelow cX9_isBelow 3 (some .boolean) 2 := ⟨_, rfl, by decide, rfl, ok_X9_isBelow, tw_795, tw_797, tw_p12, tw_1, tw_798⟩
theorem kv_X9_261 : KV RX9 261 5 yX5_partShares cX5_partShares 11 none 3 := ⟨_, rfl, by decide, rfl, ok_X5_partShares, tw_799, tw_462, tw_463, tw_9, tw_464⟩
theorem kv_X9_268 : KV RX9 268 5 yX5_measureSpares cX5_measureSpares 11 none 4 := ⟨_, rfl, by decide, rfl, ok_X5_measureSpares, tw_804, tw_458, tw_459, tw_9, tw_460⟩
theorem kv_X9_275 : KV RX9 275 5 yX5_richestGroup cX5_richestGroup 4 (some .int) 0 := ⟨_, rfl, by decide, rfl, ok_X5_richestGroup, tw_809, tw_482, tw_483, tw_9, tw_484⟩
theorem kv_X9_278 : KV RX9 278 6 yX6_lowestCommon cX6_lowestCommon 6 (some .int) 2 := ⟨_, rfl, by decide, rfl, ok_X6_lowestCommon, tw_822, tw_645, tw_646, tw_3, tw_647⟩
theorem kv_X9_281 : KV RX9 281 1 yX1_recent cX1_recent 4 (some .int) 3 := ⟨_, rfl, by decide, rfl, ok_X1_recent, tw_827, tw_736, tw_737, tw_6, tw_738⟩
theorem kv_X9_290 : KV RX9 290 2 yX2_plan cX2_plan 6 none 1 := ⟨_, rfl, by decide, rfl, ok_X2_plan, tw_844, tw_700, tw_701, tw_11, tw_702⟩
theorem kv_X9_305 : KV RX9 305 8 yX8_victimBelow cX8_victimBelow 6 (some .int) 1 := ⟨_, rfl, by decide, rfl, ok_X8_victimBelow, tw_857, tw_515, tw_516, tw_2, tw_517⟩
theorem kv_X9_308 : KV RX9 308 8 yX8_dyingBelow cX8_dyingBelow 6 (some .int) 1 := ⟨_, rfl, by decide, rfl, ok_X8_dyingBelow, tw_862, tw_511, tw_512, tw_2, tw_513⟩
theorem kv_X9_311 : KV RX9 311 6 yX6_leastLeft cX6_leastLeft 5 (some .int) 1 := ⟨_, rfl, by decide, rfl, ok_X6_leastLeft, tw_867, tw_868, tw_869, tw_3, tw_870⟩
theorem kv_X9_314 : KV RX9 314 8 yX8_copyFrom cX8_copyFrom 2 none 1 := ⟨_, rfl, by decide, rfl, ok_X8_copyFrom, tw_876, tw_362, tw_363, tw_2, tw_364⟩
theorem kv_X9_317 : KV RX9 317 3 yX3_leftBehindMove cX3_leftBehindMove 9 (some .int) 3 := ⟨_, rfl, by decide, rfl, ok_X3_leftBehindMove, tw_885, tw_886, tw_887, tw_10, tw_888⟩
theorem kv_X9_326 : KV RX9 326 0 yX0_hasTodo cX0_hasTodo 2 (some .boolean) 0 := ⟨_, rfl, by decide, rfl, ok_X0_hasTodo, tw_900, tw_901, tw_902, tw_5, tw_903⟩
theorem kv_X9_331 : KV RX9 331 4 yX4_goBack cX4_goBack 3 (some .int) 2 := ⟨_, rfl, by decide, rfl, ok_X4_goBack, tw_928, tw_929, tw_930, tw_8, tw_931⟩
theorem kv_X9_335 : KV RX9 335 0 yX0_allPages cX0_allPages 4 (some .int) 1 := ⟨_, rfl, by decide, rfl, ok_X0_allPages, tw_944, tw_945, tw_946, tw_5, tw_947⟩
theorem kv_X9_338 : KV RX9 338 0 yX0_firstFree cX0_firstFree 2 (some .int) 0 := ⟨_, rfl, by decide, rfl, ok_X0_firstFree, tw_554, tw_555, tw_556, tw_5, tw_557⟩
theorem kv_X9_339 : KV RX9 339 8 yX8_pidsFull cX8_pidsFull 5 (some .boolean) 2 := ⟨_, rfl, by decide, rfl, ok_X8_pidsFull, tw_558, tw_559, tw_560, tw_2, tw_561⟩
theorem kv_X9_342 : KV RX9 342 0 yX0_putProcess cX0_putProcess 4 none 3 := ⟨_, rfl, by decide, rfl, ok_X0_putProcess, tw_562, tw_537, tw_538, tw_5, tw_539⟩
theorem kv_X9_345 : KV RX9 345 4 yX4_dropTry cX4_dropTry 2 none 1 := ⟨_, rfl, by decide, rfl, ok_X4_dropTry, tw_396, tw_397, tw_398, tw_8, tw_399⟩
theorem kv_X9_348 : KV RX9 348 4 yX4_countKept cX4_countKept 1 none 0 := ⟨_, rfl, by decide, rfl, ok_X4_countKept, tw_400, tw_401, tw_402, tw_8, tw_403⟩
theorem kv_X9_57 : KV RX9 57 6 yX6_has cX6_has 2 (some .boolean) 1 := ⟨_, rfl, by decide, rfl, ok_X6_has, tw_345, tw_346, tw_347, tw_3, tw_348⟩
theorem kv_X9_63 : KV RX9 63 6 yX6_firstFree cX6_firstFree 2 (some .int) 0 := ⟨_, rfl, by decide, rfl, ok_X6_firstFree, tw_349, tw_350, tw_351, tw_3, tw_352⟩
theorem kv_X9_67 : KV RX9 67 4 yX4_keep cX4_keep 2 none 1 := ⟨_, rfl, by decide, rfl, ok_X4_keep, tw_353, tw_354, tw_355, tw_8, tw_356⟩
theorem kv_X9_71 : KV RX9 71 6 yX6_putGroup cX6_putGroup 4 none 2 := ⟨_, rfl, by decide, rfl, ok_X6_putGroup, tw_387, tw_43, tw_44, tw_3, tw_45⟩
theorem kv_X9_79 : KV RX9 79 1 yX1_clearGroup cX1_clearGroup 3 none 1 := ⟨_, rfl, by decide, rfl, ok_X1_clearGroup, tw_388, tw_389, tw_390, tw_6, tw_391⟩
theorem kv_X9_85 : KV RX9 85 9 yX9_settle cX9_settle 2 (some .int) 1 := ⟨_, rfl, by decide, rfl, ok_X9_settle, tw_392, tw_394, tw_p1, tw_1, tw_395⟩
theorem kv_X9_89 : KV RX9 89 6 yX6_bitsBelow cX6_bitsBelow 4 (some .int) 1 := ⟨_, rfl, by decide, rfl, ok_X6_bitsBelow, tw_408, tw_409, tw_410, tw_3, tw_411⟩
theorem kv_X9_92 : KV RX9 92 8 yX8_bitsOfProcesses cX8_bitsOfProcesses 5 (some .int) 1 := ⟨_, rfl, by decide, rfl, ok_X8_bitsOfProcesses, tw_412, tw_413, tw_414, tw_2, tw_415⟩
theorem kv_X9_99 : KV RX9 99 6 yX6_dropGroup cX6_dropGroup 4 none 1 := ⟨_, rfl, by decide, rfl, ok_X6_dropGroup, tw_417, tw_418, tw_419, tw_3, tw_420⟩
