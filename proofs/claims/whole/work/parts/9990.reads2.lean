/-! calls that change nothing: room, common, events, stalls, average, pressure, fired -/
variable {kt : Nat}
section READS2
theorem v_in {v : Int32} {K : Nat} (hK : K < 2 ^ 30) (h : 0 ≤ v.toInt ∧ v.toInt ≤ K) : ∃ k, k ≤ K ∧ v = nI k := by
  obtain ⟨k, hk, e⟩ := inb_of (x := v) (n := K + 1) (inb_iff.mpr ⟨h.1, by omega⟩) (by omega)
  exact ⟨k, by omega, e⟩
theorem T_room (g : Int32) : TR (fun h => F_X9_room h 0 g) (fun h => F_X10_room h 756 g) := rdr fun V n o s hW => by
  have hC := hW.ti.1
  have hO := hC.1
  rcases g_cs V g with hf | ⟨k, hk, rfl, ht⟩
  · refine ⟨-2, fun P hX => ?_, fun P U hP hR => ⟨thr U, ?_, thr_same U⟩⟩
    · unfold F_X9_room
      simp only [hX.2.2.1, ol hX.1.lo, tl hX.1.lt, Option.bind_some, s_has hX.1.lt, hf, Bool.false_eq_true, if_false, if_true]
    · unfold F_X10_room
      simp only [m_thr hP, ml hP, Option.bind_some, m_isGroup hP (U := thr U) hR, hf, Bool.false_eq_true, if_false, if_true]
  · refine ⟨lftF V k 999 + V.1 14 k, fun P hX => ?_, fun P U hP hR => ?_⟩
    · have e := s_leastLeft (V := V) hX.1.lt hO hk ht
      unfold F_X9_room
      simp only [hX.2.2.1, ol hX.1.lo, tl hX.1.lt, Option.bind_some, s_has' hX.1.lt hk, ht, hk, if_true, if_neg i10, e]
      rfl
    · obtain ⟨U', a1, a2⟩ := m_leastRoom hP (U := thr U) hR hC hk ht
      have hR' := a2.rel (V := V) (U := thr U) hR
      refine ⟨U', ?_, (thr_same U).trans a2.same⟩
      unfold F_X10_room
      simp only [m_thr hP, ml hP, Option.bind_some, m_isGroup' hP (U := thr U) hR hk, ht, if_true, if_neg i10, a1, un, mo hP V, hR', hk, lft_eq hW.ti hW.mx hk ht]
theorem m_common {b n : Nat} {o : Nat → Nat} {P : WV → Hp} {V U : WV} (hP : LM b P) (hR : Rel V (U.1 1)) (hO : OrdOK V n o) {g q : Nat} (hg : g < 12) (ht : thV V g = true) (hq : q < 12) (hqt : thV V q = true) : loopF (fun x => F_X10_common_L26 b (nI q) x.1 x.2) 6000 (nI g, P U) = some (nI (lca (pfV V) g q), P U) := by
  have hT := hO.tree
  obtain ⟨y, y1, y2⟩ := loop_pH (st := fun x => F_X10_common_L26 b (nI q) x.1 x.2) (fun l (_ : Unit) => (hd l, P U)) (fun l _ => Sfx (thV V) (pfV V) l ∧ (l.find? (fun x => blw (pfV V) x q)).getD 0 = lca (pfV V) g q ∧ 0 ∈ l)
    (fun y => y = (nI (lca (pfV V) g q), P U))
    (fun x l a hI => by
      obtain ⟨hs, hf, hz⟩ := hI
      obtain ⟨hx, htx, hp, hs', hl⟩ := hs.cons hT
      cases hb : blw (pfV V) x q
      · left
        refine ⟨(), ?_, hs', ?_, ?_⟩
        · show F_X10_common_L26 b (nI q) (nI x) (P U) = _
          unfold F_X10_common_L26
          simp only [ml hP, m_isBelow hP hR hO hq hqt (show x < 2 ^ 31 by omega), hb, Bool.false_eq_true, if_false, if_true, Option.bind_some, un, m_parent hP hR hx htx, hO.hdv hs]
        · rw [List.find?_cons, hb] at hf
          exact hf
        · rcases List.mem_cons.mp hz with e | e
          · rw [← e, blw_root hT hq hqt] at hb; cases hb
          · exact e
      · right
        refine ⟨_, ?_, rfl⟩
        show F_X10_common_L26 b (nI q) (nI x) (P U) = _
        rw [List.find?_cons, hb] at hf
        have hf' : x = lca (pfV V) g q := hf
        unfold F_X10_common_L26
        simp only [ml hP, m_isBelow hP hR hO hq hqt (show x < 2 ^ 31 by omega), hb, if_true, if_neg i10, Option.bind_some, un]
        rw [hf'])
    (fun a hI => absurd hI.2.2 (List.not_mem_nil))
    (pth (pfV V) g) 6000 () (by have := pth_len (pfV V) g; omega) ⟨Sfx.pth hg ht, rfl, by have := blw_root hT hg ht; exact of_decide_eq_true this⟩
  rw [← y2, ← y1]
  show _ = loopF _ 6000 (hd (pth (pfV V) g), P U)
  rw [pth_cons hT hg ht]; rfl
theorem T_common (g q : Int32) : TR (fun h => F_X9_common h 0 g q) (fun h => F_X10_common h 756 g q) := rdr fun V n o s hW => by
  have hO := hW.ti.1.1
  rcases g_cs V g with hf | ⟨k, hk, rfl, ht⟩
  · refine ⟨-2, fun P hX => ?_, fun P U hP hR => ⟨thr U, ?_, thr_same U⟩⟩
    · unfold F_X9_common
      simp only [hX.2.2.1, ol hX.1.lo, tl hX.1.lt, Option.bind_some, s_has hX.1.lt, hf, Bool.false_eq_true, if_false, if_true]
    · unfold F_X10_common
      simp only [m_thr hP, ml hP, Option.bind_some, m_isGroup hP (U := thr U) hR, hf, Bool.false_eq_true, if_false, if_true]
  · rcases g_cs V q with hf | ⟨j, hj, rfl, htj⟩
    · refine ⟨-2, fun P hX => ?_, fun P U hP hR => ⟨thr U, ?_, thr_same U⟩⟩
      · unfold F_X9_common
        simp only [hX.2.2.1, ol hX.1.lo, tl hX.1.lt, Option.bind_some, s_has' hX.1.lt hk, s_has hX.1.lt, ht, hf, Bool.false_eq_true, if_false, if_true, if_neg i10]
      · unfold F_X10_common
        simp only [m_thr hP, ml hP, Option.bind_some, m_isGroup' hP (U := thr U) hR hk, m_isGroup hP (U := thr U) hR, ht, hf, Bool.false_eq_true, if_false, if_true, if_neg i10]
    · refine ⟨nI (lca (pfV V) k j), fun P hX => ?_, fun P U hP hR => ⟨thr U, ?_, thr_same U⟩⟩
      · unfold F_X9_common
        simp only [hX.2.2.1, ol hX.1.lo, tl hX.1.lt, Option.bind_some, s_has' hX.1.lt hk, s_has' hX.1.lt hj, ht, htj, if_true, if_neg i10, s_common hX.1.lt hO hk ht hj htj]
      · unfold F_X10_common
        simp only [m_thr hP, ml hP, Option.bind_some, m_isGroup' hP (U := thr U) hR hk, m_isGroup' hP (U := thr U) hR hj, ht, htj, if_true, if_neg i10, m_common hP (U := thr U) hR hO hk ht hj htj, bl]
theorem T_events (g v : Int32) : TR (fun h => F_X9_events h 0 g v) (fun h => F_X10_events h 756 g v) := rdr fun V n o s hW => by
  have c0 : (0 : Int64).toInt = 0 := rfl
  have c3 : (3 : Int64).toInt = 3 := rfl
  have d0 : (0 : Int32).toInt = 0 := rfl
  have d3 : (3 : Int32).toInt = 3 := rfl
  rcases g_cs V g with hf | ⟨k, hk, rfl, ht⟩
  · refine ⟨-2, fun P hX => ?_, fun P U hP hR => ⟨thr U, ?_, thr_same U⟩⟩
    · unfold F_X9_events
      simp only [hX.2.2.1, ol hX.1.lo, tl hX.1.lt, Option.bind_some, s_has hX.1.lt, hf, Bool.false_eq_true, if_false, if_true]
    · unfold F_X10_events
      simp only [m_thr hP, ml hP, Option.bind_some, m_isGroup hP (U := thr U) hR, hf, Bool.false_eq_true, if_false, if_true]
  · by_cases hv : 0 ≤ v.toInt ∧ v.toInt ≤ 3
    · obtain ⟨j, hj, rfl⟩ := v_in (K := 3) (by decide) hv
      have hj4 : j < 4 := by omega
      have ec : cg (11 + j) = 19 + j := (by decide : ∀ j, j < 4 → cg (11 + j) = 19 + j) j hj4
      refine ⟨V.1 (19 + j) k, fun P hX => ?_, fun P U hP hR => ⟨thr U, ?_, thr_same U⟩⟩
      · unfold F_X9_events
        simp only [hX.2.2.1, ol hX.1.lo, tl hX.1.lt, Option.bind_some, s_has' hX.1.lt hk, ht, if_true, if_neg i10, o_out, d0, d3, if_pos hv, hj4, hk]
      · have e := m_of hP (U := thr U) hR hk ht (show 11 + j < 34 by omega) (by rw [ec]; omega)
        rw [ec, ← nI_add] at e
        have e' : F_X10_of (P (thr U)) 756 (nI k) (11 + nI j) 0 = some (V.1 (19 + j) k, P (thr U)) := e
        unfold F_X10_events
        simp only [m_thr hP, ml hP, Option.bind_some, m_isGroup' hP (U := thr U) hR hk, ht, if_true, if_neg i10, m_within, c0, c3, if_pos hv, e', un]
    · refine ⟨-2, fun P hX => ?_, fun P U hP hR => ⟨thr U, ?_, thr_same U⟩⟩
      · unfold F_X9_events
        simp only [hX.2.2.1, ol hX.1.lo, tl hX.1.lt, Option.bind_some, s_has' hX.1.lt hk, ht, if_true, if_neg i10, o_out, d0, d3, if_neg hv]
      · unfold F_X10_events
        simp only [m_thr hP, ml hP, Option.bind_some, m_isGroup' hP (U := thr U) hR hk, ht, if_true, if_neg i10, m_within, c0, c3, if_neg hv]
theorem T_stalls (g v : Int32) : TR (fun h => F_X9_stalls h 0 g v) (fun h => F_X10_stalls h 756 g v) := rdr fun V n o s hW => by
  have c0 : (0 : Int64).toInt = 0 := rfl
  have c3 : (2 : Int64).toInt = 2 := rfl
  have d0 : (0 : Int32).toInt = 0 := rfl
  have d3 : (2 : Int32).toInt = 2 := rfl
  rcases g_cs V g with hf | ⟨k, hk, rfl, ht⟩
  · refine ⟨-2, fun P hX => ?_, fun P U hP hR => ⟨thr U, ?_, thr_same U⟩⟩
    · unfold F_X9_stalls
      simp only [hX.2.2.1, ol hX.1.lo, tl hX.1.lt, Option.bind_some, s_has hX.1.lt, hf, Bool.false_eq_true, if_false, if_true]
    · unfold F_X10_stalls
      simp only [m_thr hP, ml hP, Option.bind_some, m_isGroup hP (U := thr U) hR, hf, Bool.false_eq_true, if_false, if_true]
  · by_cases hv : 0 ≤ v.toInt ∧ v.toInt ≤ 2
    · obtain ⟨j, hj, rfl⟩ := v_in (K := 2) (by decide) hv
      have hj4 : j < 3 := by omega
      have ec : cg (15 + j) = 39 + j := (by decide : ∀ j, j < 3 → cg (15 + j) = 39 + j) j hj4
      refine ⟨V.1 (39 + j) k, fun P hX => ?_, fun P U hP hR => ⟨thr U, ?_, thr_same U⟩⟩
      · unfold F_X9_stalls
        simp only [hX.2.2.1, ol hX.1.lo, tl hX.1.lt, ga hX.1.lg, Option.bind_some, s_has' hX.1.lt hk, ht, if_true, if_neg i10, o_out, d0, d3, if_pos hv, hj4, hk]
      · have e := m_of hP (U := thr U) hR hk ht (show 15 + j < 34 by omega) (by rw [ec]; omega)
        rw [ec, ← nI_add] at e
        have e' : F_X10_of (P (thr U)) 756 (nI k) (15 + nI j) 0 = some (V.1 (39 + j) k, P (thr U)) := e
        unfold F_X10_stalls
        simp only [m_thr hP, ml hP, Option.bind_some, m_isGroup' hP (U := thr U) hR hk, ht, if_true, if_neg i10, m_within, c0, c3, if_pos hv, e', un]
    · refine ⟨-3, fun P hX => ?_, fun P U hP hR => ⟨thr U, ?_, thr_same U⟩⟩
      · unfold F_X9_stalls
        simp only [hX.2.2.1, ol hX.1.lo, tl hX.1.lt, Option.bind_some, s_has' hX.1.lt hk, ht, if_true, if_neg i10, o_out, d0, d3, if_neg hv]
      · unfold F_X10_stalls
        simp only [m_thr hP, ml hP, Option.bind_some, m_isGroup' hP (U := thr U) hR hk, ht, if_true, if_neg i10, m_within, c0, c3, if_neg hv]
theorem T_average (g v x : Int32) : TR (fun h => F_X9_average h 0 g v x) (fun h => F_X10_average h 756 g v x) := rdr fun V n o s hW => by
  have c0 : (0 : Int64).toInt = 0 := rfl
  have c3 : (2 : Int64).toInt = 2 := rfl
  have d0 : (0 : Int32).toInt = 0 := rfl
  have d3 : (2 : Int32).toInt = 2 := rfl
  rcases g_cs V g with hf | ⟨k, hk, rfl, ht⟩
  · refine ⟨-2, fun P hX => ?_, fun P U hP hR => ⟨thr U, ?_, thr_same U⟩⟩
    · unfold F_X9_average
      simp only [hX.2.2.1, ol hX.1.lo, tl hX.1.lt, Option.bind_some, s_has hX.1.lt, hf, Bool.false_eq_true, if_false, if_true]
    · unfold F_X10_average
      simp only [m_thr hP, ml hP, Option.bind_some, m_isGroup hP (U := thr U) hR, hf, Bool.false_eq_true, if_false, if_true]
  · by_cases hv : 0 ≤ v.toInt ∧ v.toInt ≤ 2
    · by_cases hx : 0 ≤ x.toInt ∧ x.toInt ≤ 2
      · obtain ⟨j, hj, rfl⟩ := v_in (K := 2) (by decide) hv
        obtain ⟨i, hi, rfl⟩ := v_in (K := 2) (by decide) hx
        have hji : j * 3 + i < 9 := by omega
        have ec : cg (25 + 3 * j + i) = 43 + (j * 3 + i) := (by decide : ∀ j, j < 3 → ∀ i, i < 3 → cg (25 + 3 * j + i) = 43 + (j * 3 + i)) j (by omega) i (by omega)
        have e3 : nI j * 3 + nI i = nI (j * 3 + i) := by
          rw [show (3 : Int32) = nI 3 from rfl, nI_mul, nI_add]
        have e4 : (25 + 3 * nI j) + nI i = nI (25 + 3 * j + i) := by
          rw [show (3 : Int32) = nI 3 from rfl, show (25 : Int32) = nI 25 from rfl, nI_mul, nI_add, nI_add]
        refine ⟨V.1 (43 + (j * 3 + i)) k, fun P hX => ?_, fun P U hP hR => ⟨thr U, ?_, thr_same U⟩⟩
        · unfold F_X9_average
          simp only [hX.2.2.1, ol hX.1.lo, tl hX.1.lt, ga hX.1.lg, Option.bind_some, s_has' hX.1.lt hk, ht, if_true, if_neg i10, o_out, d0, d3, if_pos hv, if_pos hx, e3, hji, hk]
        · have e := m_of hP (U := thr U) hR hk ht (show 25 + 3 * j + i < 34 by omega) (by rw [ec]; omega)
          rw [ec] at e
          unfold F_X10_average
          simp only [m_thr hP, ml hP, Option.bind_some, m_isGroup' hP (U := thr U) hR hk, ht, if_true, if_neg i10, m_within, c0, c3, if_pos hv, if_pos hx, e4, e, un]
      · refine ⟨-3, fun P hX => ?_, fun P U hP hR => ⟨thr U, ?_, thr_same U⟩⟩
        · unfold F_X9_average
          simp only [hX.2.2.1, ol hX.1.lo, tl hX.1.lt, Option.bind_some, s_has' hX.1.lt hk, ht, if_true, if_neg i10, o_out, d0, d3, if_pos hv, if_neg hx]
        · unfold F_X10_average
          simp only [m_thr hP, ml hP, Option.bind_some, m_isGroup' hP (U := thr U) hR hk, ht, if_true, if_neg i10, m_within, c0, c3, if_pos hv, if_neg hx]
    · refine ⟨-3, fun P hX => ?_, fun P U hP hR => ⟨thr U, ?_, thr_same U⟩⟩
      · unfold F_X9_average
        simp only [hX.2.2.1, ol hX.1.lo, tl hX.1.lt, Option.bind_some, s_has' hX.1.lt hk, ht, if_true, if_neg i10, o_out, d0, d3, if_neg hv]
      · unfold F_X10_average
        simp only [m_thr hP, ml hP, Option.bind_some, m_isGroup' hP (U := thr U) hR hk, ht, if_true, if_neg i10, m_within, c0, c3, if_neg hv]
theorem T_pressure (g v x : Int32) : TR (fun h => F_X9_pressure h 0 g v x) (fun h => F_X10_pressure h 756 g v x) := rdr fun V n o s hW => by
  have c0 : (0 : Int64).toInt = 0 := rfl
  have c1 : (1 : Int64).toInt = 1 := rfl
  have c2 : (2 : Int64).toInt = 2 := rfl
  have c40 : (40 : Int64).toInt = 40 := rfl
  have d0 : (0 : Int32).toInt = 0 := rfl
  have d1 : (1 : Int32).toInt = 1 := rfl
  have d2 : (2 : Int32).toInt = 2 := rfl
  have d40 : (40 : Int32).toInt = 40 := rfl
  rcases g_cs V g with hf | ⟨k, hk, rfl, ht⟩
  · refine ⟨-2, fun P hX => ?_, fun P U hP hR => ⟨thr U, ?_, thr_same U⟩⟩
    · unfold F_X9_pressure
      simp only [hX.2.2.1, ol hX.1.lo, tl hX.1.lt, Option.bind_some, s_has hX.1.lt, hf, Bool.false_eq_true, if_false, if_true]
    · unfold F_X10_pressure
      simp only [m_thr hP, ml hP, Option.bind_some, m_isGroup hP (U := thr U) hR, hf, Bool.false_eq_true, if_false, if_true]
  · by_cases hv : 0 ≤ v.toInt ∧ v.toInt ≤ 2
    · by_cases hx : 1 ≤ x.toInt ∧ x.toInt ≤ 40
      · obtain ⟨j, hj, rfl⟩ := v_in (K := 2) (by decide) hv
        obtain ⟨i, hi, rfl⟩ := v_in (v := x) (K := 40) (by decide) ⟨by omega, hx.2⟩
        refine ⟨nI (recV V j k 0 i), fun P hX => ?_, fun P U hP hR => ⟨thr U, ?_, thr_same U⟩⟩
        · unfold F_X9_pressure
          simp only [hX.2.2.1, ol hX.1.lo, tl hX.1.lt, ga hX.1.lg, Option.bind_some, s_has' hX.1.lt hk, ht, if_true, if_neg i10, o_out, d0, d1, d2, d40, if_pos hv, if_pos hx, s_recent hX.1.lg hk (show j < 3 by omega) (show i < 64 by omega)]
        · unfold F_X10_pressure
          simp only [m_thr hP, ml hP, Option.bind_some, m_isGroup' hP (U := thr U) hR hk, ht, if_true, if_neg i10, m_within, c0, c1, c2, c40, if_pos hv, if_pos hx, m_press hP (U := thr U) hR hk ht (show j < 3 by omega) hi, un]
      · refine ⟨-3, fun P hX => ?_, fun P U hP hR => ⟨thr U, ?_, thr_same U⟩⟩
        · unfold F_X9_pressure
          simp only [hX.2.2.1, ol hX.1.lo, tl hX.1.lt, Option.bind_some, s_has' hX.1.lt hk, ht, if_true, if_neg i10, o_out, d0, d1, d2, d40, if_pos hv, if_neg hx]
        · unfold F_X10_pressure
          simp only [m_thr hP, ml hP, Option.bind_some, m_isGroup' hP (U := thr U) hR hk, ht, if_true, if_neg i10, m_within, c0, c1, c2, c40, if_pos hv, if_neg hx]
    · refine ⟨-3, fun P hX => ?_, fun P U hP hR => ⟨thr U, ?_, thr_same U⟩⟩
      · unfold F_X9_pressure
        simp only [hX.2.2.1, ol hX.1.lo, tl hX.1.lt, Option.bind_some, s_has' hX.1.lt hk, ht, if_true, if_neg i10, o_out, d0, d1, d2, d40, if_neg hv]
      · unfold F_X10_pressure
        simp only [m_thr hP, ml hP, Option.bind_some, m_isGroup' hP (U := thr U) hR hk, ht, if_true, if_neg i10, m_within, c0, c1, c2, c40, if_neg hv]
end READS2
