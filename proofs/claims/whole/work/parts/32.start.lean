def F_L_law (L : Nat) (xs : Nat → Int32) (h : Hp) : Option (Int32 × Hp) :=
  bl (nwO h 9) fun h1 =>
  (F_X9_init h1 (mN h)).bind fun h2 =>
  bl (nwO h2 10) fun h3 =>
  (F_X10_init h3 (mN h2)).bind fun h4 =>
  (loopF (fun x => F_law_L18 L xs (mN h) (mN h2) x.1 x.2) 6000 (0, h4)).bind (sE (fun x => some x) (fun h5 => some (1, h5)))
set_option maxRecDepth 100000 in
set_option maxHeartbeats 4000000 in
theorem law_walk {p : Program} {l : Launch} {e : Env} {s : State} {m : MethodId} {args : Array Value} {below : List Frame} {meth : Method} {c : Code} {Q : State → Prop} {G : GG} {B b L : Nat} {xs : Nat → Int32} (CX : Cxt p m c code 4 s args RL G B) (SC : SCr b L xs s B) (hL : L ≤ 2560) {h hr : Hp} {H : Heap} {locs : List Loc} {ls : Array Slot} (P : Pic G B h s H locs) (hl : lv_has ls 4 [(0, .ref b)]) (hF : F_L_law L xs h = some (1, hr))
    (hret : ∀ (H : Heap) (locs : List Loc) (cells slots pc : Nat) (ls : Array Slot), cells ≤ 600000 → slots ≤ 7302250 → Pic G B hr s H locs → decode code pc = .ok (.ireturn, 1) → W p l e room_1 s m args below meth c H locs cells slots Q (F0 m pc ls [.int 1])) : W p l e room_1 s m args below meth c H locs 0 0 Q (F0 m 0 ls []) := by
  obtain ⟨⟨hx, hb, hml, hown, hts⟩, -, -⟩ := id CX
  unfold F_L_law at hF
  refine r_nwO (pc := 0) CX P hF cl_L_7 (Nat.le_of_ble_eq_true rfl) (Nat.le_of_ble_eq_true rfl) dL_law_0 (fun h1 H eN P hF => ?_)
  refine lv_dup (pc := 3) hx hb dL_law_3 rfl ?_
  refine r_cO (pc := 4) (As := []) (rest := [.ref (B + mN h)]) CX P hl.1 hF ko_L_9 (fun h1 q => c_X9_init l G B _ _ _ q) rfl rfl ⟨(Nat.le_of_ble_eq_true rfl), (Nat.le_of_ble_eq_true rfl)⟩ (Nat.le_of_ble_eq_true rfl) ⟨(Nat.le_of_ble_eq_true rfl), (Nat.le_of_ble_eq_true rfl)⟩ dL_law_4 (fun h2 H locs P hF => ?_)
  refine lv_astore_n (pc := 7) hx hb dL_law_7 rfl hl (by decide) rfl (fun ls hl => ?_)
  replace hl : lv_has ls 4 [(1, .ref (B + mN h)), (0, .ref b)] := hl
  refine r_nwO (pc := 8) CX P hF cl_L_10 (Nat.le_of_ble_eq_true rfl) (Nat.le_of_ble_eq_true rfl) dL_law_8 (fun h3 H eN P hF => ?_)
  refine lv_dup (pc := 11) hx hb dL_law_11 rfl ?_
  refine r_cO (pc := 12) (As := []) (rest := [.ref (B + mN h2)]) CX P hl.1 hF ko_L_12 (fun h1 q => c_X10_init l G B _ _ _ q) rfl rfl ⟨(Nat.le_of_ble_eq_true rfl), (Nat.le_of_ble_eq_true rfl)⟩ (Nat.le_of_ble_eq_true rfl) ⟨(Nat.le_of_ble_eq_true rfl), (Nat.le_of_ble_eq_true rfl)⟩ dL_law_12 (fun h4 H locs P hF => ?_)
  refine lv_astore_n (pc := 15) hx hb dL_law_15 rfl hl (by decide) rfl (fun ls hl => ?_)
  replace hl : lv_has ls 4 [(2, .ref (B + mN h2)), (1, .ref (B + mN h)), (0, .ref b)] := hl
  refine lv_iconst (pc := 16) (v := 0) hx hb dL_law_16 (by decide) ?_
  refine lv_istore_n (pc := 17) hx hb dL_law_17 rfl hl (by decide) rfl (fun ls hl => ?_)
  replace hl : lv_has ls 4 [(3, .int 0), (2, .ref (B + mN h2)), (1, .ref (B + mN h)), (0, .ref b)] := hl
  obtain ⟨r, hLp, hK⟩ := bd_some hF
  refine W.widen (k := 775 + 57 * 0) (n := 16739 + 614 * 0) (by decide) (by decide) ?_
  refine w_law_loop CX SC hL (r := r) (hr := hr) (fun h1 q => ?_) (fun h5 H locs ls j hj P q => ?_) _ 0 0 h4 _ _ _ rfl (Nat.zero_le _) P (lv_sub hl [3, 2, 1, 0] rfl) hLp
  · subst q
    have := sE_li hK
    exact absurd (show (0 : Int32) = 1 from congrArg Prod.fst (Option.some.inj this)) (by decide)
  · subst q
    have hF := sE_ri hK
    cases hF
    refine lv_iconst (pc := 1811) (v := 1) hx hb dL_law_1811 (by decide) ?_
    exact hret _ _ _ _ _ _ (by omega) (by omega) P dL_law_1812
theorem gl_eqi {args : Array Value} {s : State} {t : Term} {z : Int32} (h : (Cond.eq t (.int z)).before args s = true) : t.eval args s none [] s = some (.int z) := by
  cases hv : t.eval args s none [] s with
  | none => simp [Cond.before, Cond.holds, Cond.value, hv] at h
  | some w =>
    have hz : (Term.int z).eval args s none [] s = some (.int z) := rfl
    simp only [Cond.before, Cond.holds, Cond.value, hv, hz] at h
    cases w <;> simp_all
set_option maxRecDepth 20000 in
theorem gl_st0 {args : Array Value} {s : State} (hs : ∀ c ∈ flatC (Jvm.Cond.and given_1 narrow_1), c.before args s = true) (hw : ∀ w ∈ lw_tbl, w.before args s = true) : ∃ t : Nat, va_Z "GroupLimits" "LIMIT_AT_FIRST" "[I" (.ref t) (fun q => s.heap.size ≤ q) s s.heap ∧ va_T .int t (stt 0).length (fun j => .int ((stt 0).getD j 0)) (fun q => s.heap.size ≤ q) s s.heap := by
  have hA : ∀ a : Nat, a < s.heap.size → ¬ s.heap.size ≤ a := fun a h => Nat.not_le.mpr h
  have hel : ∀ j : Nat, j < 9 → (Term.elem (Term.static "GroupLimits" "LIMIT_AT_FIRST" "[I") (.int (Int32.ofNat j))).eval args s none [] s = some (.int ((stt 0).getD j 0)) := fun j hj => match j, hj with
    | 0, _ => gl_eqi (hs (.eq (.elem (Term.static "GroupLimits" "LIMIT_AT_FIRST" "[I") (.int 0)) (.int 0)) (List.mem_of_getElem? (i := 7) rfl))
    | 1, _ => gl_eqi (hs (.eq (.elem (Term.static "GroupLimits" "LIMIT_AT_FIRST" "[I") (.int 1)) (.int 0)) (List.mem_of_getElem? (i := 8) rfl))
    | 2, _ => gl_eqi (hs (.eq (.elem (Term.static "GroupLimits" "LIMIT_AT_FIRST" "[I") (.int 2)) (.int 999)) (List.mem_of_getElem? (i := 9) rfl))
    | 3, _ => gl_eqi (hs (.eq (.elem (Term.static "GroupLimits" "LIMIT_AT_FIRST" "[I") (.int 3)) (.int 999)) (List.mem_of_getElem? (i := 10) rfl))
    | 4, _ => gl_eqi (hs (.eq (.elem (Term.static "GroupLimits" "LIMIT_AT_FIRST" "[I") (.int 4)) (.int 0)) (List.mem_of_getElem? (i := 11) rfl))
    | 5, _ => gl_eqi (hs (.eq (.elem (Term.static "GroupLimits" "LIMIT_AT_FIRST" "[I") (.int 5)) (.int 999)) (List.mem_of_getElem? (i := 12) rfl))
    | 6, _ => gl_eqi (hs (.eq (.elem (Term.static "GroupLimits" "LIMIT_AT_FIRST" "[I") (.int 6)) (.int 1)) (List.mem_of_getElem? (i := 13) rfl))
    | 7, _ => gl_eqi (hs (.eq (.elem (Term.static "GroupLimits" "LIMIT_AT_FIRST" "[I") (.int 7)) (.int 99)) (List.mem_of_getElem? (i := 14) rfl))
    | 8, _ => gl_eqi (hs (.eq (.elem (Term.static "GroupLimits" "LIMIT_AT_FIRST" "[I") (.int 8)) (.int 16)) (List.mem_of_getElem? (i := 15) rfl))
    | j + 9, hj => absurd hj (by omega)
  obtain ⟨t, h1, h2⟩ := va_Tof (A := fun q => s.heap.size ≤ q) (N := 9) (f := fun j => .int ((stt 0).getD j 0)) (by decide) (hs (.arrayOf (Term.static "GroupLimits" "LIMIT_AT_FIRST" "[I") .int) (List.mem_of_getElem? (i := 5) rfl)) (gl_eqi (hs (.eq (.length (Term.static "GroupLimits" "LIMIT_AT_FIRST" "[I")) (.int 9)) (List.mem_of_getElem? (i := 6) rfl))) hel hA
  exact ⟨t, va_Zof (hw (.laysStatic "GroupLimits" "LIMIT_AT_FIRST" "[I") (lt_1 (List.mem_of_getElem? (i := 47) rfl))) (hw (.initialized "GroupLimits") (lt_1 (List.mem_of_getElem? (i := 1) rfl))) h1 hA, h2⟩
set_option maxRecDepth 20000 in
theorem gl_st1 {args : Array Value} {s : State} (hs : ∀ c ∈ flatC (Jvm.Cond.and given_1 narrow_1), c.before args s = true) (hw : ∀ w ∈ lw_tbl, w.before args s = true) : ∃ t : Nat, va_Z "GroupLimits" "LIMIT_LEAST" "[I" (.ref t) (fun q => s.heap.size ≤ q) s s.heap ∧ va_T .int t (stt 1).length (fun j => .int ((stt 1).getD j 0)) (fun q => s.heap.size ≤ q) s s.heap := by
  have hA : ∀ a : Nat, a < s.heap.size → ¬ s.heap.size ≤ a := fun a h => Nat.not_le.mpr h
  have hel : ∀ j : Nat, j < 9 → (Term.elem (Term.static "GroupLimits" "LIMIT_LEAST" "[I") (.int (Int32.ofNat j))).eval args s none [] s = some (.int ((stt 1).getD j 0)) := fun j hj => match j, hj with
    | 0, _ => gl_eqi (hs (.eq (.elem (Term.static "GroupLimits" "LIMIT_LEAST" "[I") (.int 0)) (.int 0)) (List.mem_of_getElem? (i := 19) rfl))
    | 1, _ => gl_eqi (hs (.eq (.elem (Term.static "GroupLimits" "LIMIT_LEAST" "[I") (.int 1)) (.int 0)) (List.mem_of_getElem? (i := 20) rfl))
    | 2, _ => gl_eqi (hs (.eq (.elem (Term.static "GroupLimits" "LIMIT_LEAST" "[I") (.int 2)) (.int 0)) (List.mem_of_getElem? (i := 21) rfl))
    | 3, _ => gl_eqi (hs (.eq (.elem (Term.static "GroupLimits" "LIMIT_LEAST" "[I") (.int 3)) (.int 0)) (List.mem_of_getElem? (i := 22) rfl))
    | 4, _ => gl_eqi (hs (.eq (.elem (Term.static "GroupLimits" "LIMIT_LEAST" "[I") (.int 4)) (.int 0)) (List.mem_of_getElem? (i := 23) rfl))
    | 5, _ => gl_eqi (hs (.eq (.elem (Term.static "GroupLimits" "LIMIT_LEAST" "[I") (.int 5)) (.int 0)) (List.mem_of_getElem? (i := 24) rfl))
    | 6, _ => gl_eqi (hs (.eq (.elem (Term.static "GroupLimits" "LIMIT_LEAST" "[I") (.int 6)) (.int 1)) (List.mem_of_getElem? (i := 25) rfl))
    | 7, _ => gl_eqi (hs (.eq (.elem (Term.static "GroupLimits" "LIMIT_LEAST" "[I") (.int 7)) (.int 0)) (List.mem_of_getElem? (i := 26) rfl))
    | 8, _ => gl_eqi (hs (.eq (.elem (Term.static "GroupLimits" "LIMIT_LEAST" "[I") (.int 8)) (.int 0)) (List.mem_of_getElem? (i := 27) rfl))
    | j + 9, hj => absurd hj (by omega)
  obtain ⟨t, h1, h2⟩ := va_Tof (A := fun q => s.heap.size ≤ q) (N := 9) (f := fun j => .int ((stt 1).getD j 0)) (by decide) (hs (.arrayOf (Term.static "GroupLimits" "LIMIT_LEAST" "[I") .int) (List.mem_of_getElem? (i := 17) rfl)) (gl_eqi (hs (.eq (.length (Term.static "GroupLimits" "LIMIT_LEAST" "[I")) (.int 9)) (List.mem_of_getElem? (i := 18) rfl))) hel hA
  exact ⟨t, va_Zof (hw (.laysStatic "GroupLimits" "LIMIT_LEAST" "[I") (lt_2 (List.mem_of_getElem? (i := 201) rfl))) (hw (.initialized "GroupLimits") (lt_1 (List.mem_of_getElem? (i := 1) rfl))) h1 hA, h2⟩
set_option maxRecDepth 20000 in
theorem gl_st2 {args : Array Value} {s : State} (hs : ∀ c ∈ flatC (Jvm.Cond.and given_1 narrow_1), c.before args s = true) (hw : ∀ w ∈ lw_tbl, w.before args s = true) : ∃ t : Nat, va_Z "GroupLimits" "LIMIT_MOST" "[I" (.ref t) (fun q => s.heap.size ≤ q) s s.heap ∧ va_T .int t (stt 2).length (fun j => .int ((stt 2).getD j 0)) (fun q => s.heap.size ≤ q) s s.heap := by
  have hA : ∀ a : Nat, a < s.heap.size → ¬ s.heap.size ≤ a := fun a h => Nat.not_le.mpr h
  have hel : ∀ j : Nat, j < 9 → (Term.elem (Term.static "GroupLimits" "LIMIT_MOST" "[I") (.int (Int32.ofNat j))).eval args s none [] s = some (.int ((stt 2).getD j 0)) := fun j hj => match j, hj with
    | 0, _ => gl_eqi (hs (.eq (.elem (Term.static "GroupLimits" "LIMIT_MOST" "[I") (.int 0)) (.int 999)) (List.mem_of_getElem? (i := 31) rfl))
    | 1, _ => gl_eqi (hs (.eq (.elem (Term.static "GroupLimits" "LIMIT_MOST" "[I") (.int 1)) (.int 999)) (List.mem_of_getElem? (i := 32) rfl))
    | 2, _ => gl_eqi (hs (.eq (.elem (Term.static "GroupLimits" "LIMIT_MOST" "[I") (.int 2)) (.int 999)) (List.mem_of_getElem? (i := 33) rfl))
    | 3, _ => gl_eqi (hs (.eq (.elem (Term.static "GroupLimits" "LIMIT_MOST" "[I") (.int 3)) (.int 999)) (List.mem_of_getElem? (i := 34) rfl))
    | 4, _ => gl_eqi (hs (.eq (.elem (Term.static "GroupLimits" "LIMIT_MOST" "[I") (.int 4)) (.int 1)) (List.mem_of_getElem? (i := 35) rfl))
    | 5, _ => gl_eqi (hs (.eq (.elem (Term.static "GroupLimits" "LIMIT_MOST" "[I") (.int 5)) (.int 999)) (List.mem_of_getElem? (i := 36) rfl))
    | 6, _ => gl_eqi (hs (.eq (.elem (Term.static "GroupLimits" "LIMIT_MOST" "[I") (.int 6)) (.int 9)) (List.mem_of_getElem? (i := 37) rfl))
    | 7, _ => gl_eqi (hs (.eq (.elem (Term.static "GroupLimits" "LIMIT_MOST" "[I") (.int 7)) (.int 99)) (List.mem_of_getElem? (i := 38) rfl))
    | 8, _ => gl_eqi (hs (.eq (.elem (Term.static "GroupLimits" "LIMIT_MOST" "[I") (.int 8)) (.int 16)) (List.mem_of_getElem? (i := 39) rfl))
    | j + 9, hj => absurd hj (by omega)
  obtain ⟨t, h1, h2⟩ := va_Tof (A := fun q => s.heap.size ≤ q) (N := 9) (f := fun j => .int ((stt 2).getD j 0)) (by decide) (hs (.arrayOf (Term.static "GroupLimits" "LIMIT_MOST" "[I") .int) (List.mem_of_getElem? (i := 29) rfl)) (gl_eqi (hs (.eq (.length (Term.static "GroupLimits" "LIMIT_MOST" "[I")) (.int 9)) (List.mem_of_getElem? (i := 30) rfl))) hel hA
  exact ⟨t, va_Zof (hw (.laysStatic "GroupLimits" "LIMIT_MOST" "[I") (lt_2 (List.mem_of_getElem? (i := 203) rfl))) (hw (.initialized "GroupLimits") (lt_1 (List.mem_of_getElem? (i := 1) rfl))) h1 hA, h2⟩
set_option maxRecDepth 20000 in
theorem gl_st3 {args : Array Value} {s : State} (hs : ∀ c ∈ flatC (Jvm.Cond.and given_1 narrow_1), c.before args s = true) (hw : ∀ w ∈ lw_tbl, w.before args s = true) : ∃ t : Nat, va_Z "GroupLimits" "AVERAGE_OVER" "[I" (.ref t) (fun q => s.heap.size ≤ q) s s.heap ∧ va_T .int t (stt 3).length (fun j => .int ((stt 3).getD j 0)) (fun q => s.heap.size ≤ q) s s.heap := by
  have hA : ∀ a : Nat, a < s.heap.size → ¬ s.heap.size ≤ a := fun a h => Nat.not_le.mpr h
  have hel : ∀ j : Nat, j < 3 → (Term.elem (Term.static "GroupLimits" "AVERAGE_OVER" "[I") (.int (Int32.ofNat j))).eval args s none [] s = some (.int ((stt 3).getD j 0)) := fun j hj => match j, hj with
    | 0, _ => gl_eqi (hs (.eq (.elem (Term.static "GroupLimits" "AVERAGE_OVER" "[I") (.int 0)) (.int 5)) (List.mem_of_getElem? (i := 43) rfl))
    | 1, _ => gl_eqi (hs (.eq (.elem (Term.static "GroupLimits" "AVERAGE_OVER" "[I") (.int 1)) (.int 10)) (List.mem_of_getElem? (i := 44) rfl))
    | 2, _ => gl_eqi (hs (.eq (.elem (Term.static "GroupLimits" "AVERAGE_OVER" "[I") (.int 2)) (.int 30)) (List.mem_of_getElem? (i := 45) rfl))
    | j + 3, hj => absurd hj (by omega)
  obtain ⟨t, h1, h2⟩ := va_Tof (A := fun q => s.heap.size ≤ q) (N := 3) (f := fun j => .int ((stt 3).getD j 0)) (by decide) (hs (.arrayOf (Term.static "GroupLimits" "AVERAGE_OVER" "[I") .int) (List.mem_of_getElem? (i := 41) rfl)) (gl_eqi (hs (.eq (.length (Term.static "GroupLimits" "AVERAGE_OVER" "[I")) (.int 3)) (List.mem_of_getElem? (i := 42) rfl))) hel hA
  exact ⟨t, va_Zof (hw (.laysStatic "GroupLimits" "AVERAGE_OVER" "[I") (lt_4 (List.mem_of_getElem? (i := 10) rfl))) (hw (.initialized "GroupLimits") (lt_1 (List.mem_of_getElem? (i := 1) rfl))) h1 hA, h2⟩
def hE : Hp := (0, fun _ => (0, 0), fun _ _ => 0, fun _ _ => 0, fun _ _ => none)
theorem gl_arr {args : Array Value} {s : State} {t : FieldType} (h : (Cond.arrayClass t).before args s = true) : ∃ c : ClassId, s.vm.findClass ("[" ++ t.toString) = some c ∧ ArrOfT s c t := by
  obtain ⟨c, k, comp, h1, h2, h3⟩ := Cond.arrayClass_spec h
  exact ⟨c, h1, fun n z => ⟨fun q hq => (by cases hq), k, h2, comp, h3⟩⟩
set_option maxRecDepth 100000 in
set_option maxHeartbeats 4000000 in
theorem gl_cxt {p : Program} {s : State} {m : MethodId} {meth : Method} {c : Code} {b L : Nat} {xs : Nat → Int32} (hx : p.tables.exec = Jvm.exec) (hb : c.code = code) (hml : c.maxLocals = 4) (hown : s.vm.findClass RL = some m.cls) (hts : ∀ w ∈ lw_tbl, w.before #[Value.ref b] s = true) (hgv : (Jvm.Cond.and given_1 narrow_1).before #[Value.ref b] s = true) : ∃ G : GG, Cxt p m c code 4 s #[Value.ref b] RL G s.heap.size := by
  have hs := flat_of_before _ hgv
  have hg : ∀ w ∈ GW, w.before #[Value.ref b] s = true := fun w hw => hts w (List.mem_filter.mp hw).1
  obtain ⟨c0, i0, k0⟩ := u_known (C := RX0) (T := TX0) (N := 7) hg uw_0 (hg _ tw_109)
  obtain ⟨c1, i1, k1⟩ := u_known (C := RX1) (T := TX1) (N := 3) hg uw_1 (hg _ tw_159)
  obtain ⟨c2, i2, k2⟩ := u_known (C := RX2) (T := TX2) (N := 2) hg uw_2 (hg _ tw_306)
  obtain ⟨c3, i3, k3⟩ := u_known (C := RX3) (T := TX3) (N := 1) hg uw_3 (hg _ tw_296)
  obtain ⟨c4, i4, k4⟩ := u_known (C := RX4) (T := TX4) (N := 3) hg uw_4 (hg _ tw_249)
  obtain ⟨c5, i5, k5⟩ := u_known (C := RX5) (T := TX5) (N := 6) hg uw_5 (hg _ tw_269)
  obtain ⟨c6, i6, k6⟩ := u_known (C := RX6) (T := TX6) (N := 9) hg uw_6 (hg _ tw_32)
  obtain ⟨c7, i7, k7⟩ := u_known (C := RX7) (T := TX7) (N := 5) hg uw_7 (hg _ tw_181)
  obtain ⟨c8, i8, k8⟩ := u_known (C := RX8) (T := TX8) (N := 8) hg uw_8 (hg _ tw_26)
  obtain ⟨c9, i9, k9⟩ := u_known (C := RX9) (T := TX9) (N := 7) hg uw_9 (hg _ tw_18)
  obtain ⟨c10, i10, k10⟩ := u_known (C := RX10) (T := TX10) (N := 21) hg uw_10 (hg _ tw_949)
  obtain ⟨aI, f1, f2⟩ := gl_arr (t := .int) (hg _ tw_107)
  obtain ⟨aJ, g1, g2⟩ := gl_arr (t := .long) (hg _ tw_179)
  obtain ⟨aZ, e1, e2⟩ := gl_arr (t := .boolean) (hg _ tw_1026)
  have hW : va_AO RX8 s := va_AO.of (A := #[Value.ref b]) (hts _ (lt_2 (List.mem_of_getElem? (i := 15) rfl)))
  have hI : AOA .int s := (hts (.arrayOver (.array .int)) (lt_1 (List.mem_of_getElem? (i := 38) rfl)) : _)
  have hJ : AOA .long s := (hts (.arrayOver (.array .long)) (lt_1 (List.mem_of_getElem? (i := 165) rfl)) : _)
  obtain ⟨pW, aW, kW, w1, -, w3, w4, w5⟩ := Cond.arrayOver_spec (va_AO.use (A := #[Value.ref b]) hW)
  obtain ⟨pI, aII, kI, x1, -, x3, x4, x5⟩ := ao_spec hI
  obtain ⟨pJ, aJJ, kJ, y1, -, y3, y4, y5⟩ := ao_spec hJ
  obtain ⟨s0, z0⟩ := gl_st0 hs hts
  obtain ⟨s1, z1⟩ := gl_st1 hs hts
  obtain ⟨s2, z2⟩ := gl_st2 hs hts
  obtain ⟨s3, z3⟩ := gl_st3 hs hts
  let dC : Nat → ClassId := fun k => match k with
    | 0 => c0
    | 1 => c1
    | 2 => c2
    | 3 => c3
    | 4 => c4
    | 5 => c5
    | 6 => c6
    | 7 => c7
    | 8 => c8
    | 9 => c9
    | 10 => c10
    | _ => 0
  let dI : Nat → Nat → Nat := fun k => match k with
    | 0 => i0
    | 1 => i1
    | 2 => i2
    | 3 => i3
    | 4 => i4
    | 5 => i5
    | 6 => i6
    | 7 => i7
    | 8 => i8
    | 9 => i9
    | 10 => i10
    | _ => fun _ => 0
  let dA : Nat → ClassId := fun k => match k with
    | 11 => aI
    | 12 => aJ
    | 13 => aZ
    | 14 => aW
    | 15 => aII
    | 16 => aJJ
    | _ => 0
  let dS : Nat → Nat := fun k => match k with
    | 0 => s0
    | 1 => s1
    | 2 => s2
    | _ => s3
  refine ⟨((dC, dI), dA, dS), ⟨hx, hb, hml, hown, hg⟩, ⟨?_, ?_⟩, ⟨z0, z1, z2, z3⟩, hW, hI, hJ, List.forall_mem_cons.mpr ⟨va_Nw.of rfl (hts _ (lt_1 (List.mem_of_getElem? (i := 27) rfl))), List.forall_mem_cons.mpr ⟨va_Nw.of rfl (hts _ (lt_1 (List.mem_of_getElem? (i := 160) rfl))), List.forall_mem_cons.mpr ⟨va_Nw.of rfl (hts _ (lt_1 (List.mem_of_getElem? (i := 182) rfl))), List.forall_mem_cons.mpr ⟨va_Nw.of rfl (hts _ (lt_2 (List.mem_of_getElem? (i := 16) rfl))), List.forall_mem_cons.mpr ⟨va_Nw.of rfl (hts _ (lt_2 (List.mem_of_getElem? (i := 30) rfl))), List.forall_mem_cons.mpr ⟨va_Nw.of rfl (hts _ (lt_2 (List.mem_of_getElem? (i := 67) rfl))), List.forall_mem_cons.mpr ⟨va_Nw.of rfl (hts _ (lt_3 (List.mem_of_getElem? (i := 118) rfl))), List.forall_mem_cons.mpr ⟨va_Nw.of rfl (hts _ (lt_3 (List.mem_of_getElem? (i := 125) rfl))), fun _ h => absurd h List.not_mem_nil⟩⟩⟩⟩⟩⟩⟩⟩, List.forall_mem_cons.mpr ⟨va_Nw.of rfl (hts _ (lt_1 (List.mem_of_getElem? (i := 46) rfl))), List.forall_mem_cons.mpr ⟨va_Nw.of rfl (hts _ (lt_4 (List.mem_of_getElem? (i := 9) rfl))), fun _ h => absurd h List.not_mem_nil⟩⟩⟩
  · intro k q hq
    match k, hq with
    | 0, hq => cases hq; exact k0
    | 1, hq => cases hq; exact k1
    | 2, hq => cases hq; exact k2
    | 3, hq => cases hq; exact k3
    | 4, hq => cases hq; exact k4
    | 5, hq => cases hq; exact k5
    | 6, hq => cases hq; exact k6
    | 7, hq => cases hq; exact k7
    | 8, hq => cases hq; exact k8
    | 9, hq => cases hq; exact k9
    | 10, hq => cases hq; exact k10
    | k + 11, hq => exact absurd hq (by simp [vwCl])
  · intro k q hq
    match k, hq with
    | 0, hq => cases hq; exact ⟨f2, f1⟩
    | 1, hq => cases hq; exact ⟨g2, g1⟩
    | 2, hq => cases hq; exact ⟨e2, e1⟩
    | 3, hq => cases hq; exact ⟨fun n z => ⟨fun q hq => (by cases hq), kW, w3, pW, w4⟩, kW, pW, w3, w4, w1, w5⟩
    | 4, hq => cases hq; exact ⟨fun n z => ⟨fun q hq => (by cases hq), kI, x3, pI, x4⟩, x5⟩
    | 5, hq => cases hq; exact ⟨fun n z => ⟨fun q hq => (by cases hq), kJ, y3, pJ, y4⟩, y5⟩
    | k + 6, hq => exact absurd hq (by simp [tyl])
theorem gl_pic0 (G : GG) {s : State} : Pic G s.heap.size hE s s.heap [] := ⟨fun k q hk => by exact absurd (cel_get hk).1 (Nat.not_lt_zero _), rfl, va_S.rf, Nat.le_refl _⟩
