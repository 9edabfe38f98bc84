/-! the law's loop -/
set_option maxRecDepth 20000 in
theorem law_step {kt L j : Nat} {xs : Nat → Int32} {im : Nat → Option Nat} {N : Nat} {G : WV} {z e : Nat} (hj : 5 * j + 5 ≤ L) (hL : L ≤ 2560) (hk : kt < 2 ^ 30) (hG : GI kt im N G z e) (hc : ¬ Int32.ofNat L - 5 < nI (5 * j)) : ∃ im' N' G' z' e', F_law_L18 L xs 0 756 (nI (5 * j)) (PG im N G) = some (.inl (nI (5 * (j + 1)), PG im' N' G')) ∧ GI (kt + 40) im' N' G' z' e' := by
  obtain ⟨s0, -⟩ := sc_all xs hj hL
  unfold F_law_L18
  rw [if_neg hc, s0, Option.bind_some]
  generalize xs (5 * j) &&& 63 = c
  by_cases h0 : c = 0
  · rw [if_pos h0]; exact law_c0 L xs j kt im N G z e hj hL hk hG
  rw [if_neg h0]
  by_cases h1 : c = 1
  · rw [if_pos h1]; exact law_c1 L xs j kt im N G z e hj hL hk hG
  rw [if_neg h1]
  by_cases h2 : c = 2
  · rw [if_pos h2]; exact law_c2 L xs j kt im N G z e hj hL hk hG
  rw [if_neg h2]
  by_cases h3 : c = 3
  · rw [if_pos h3]; exact law_c3 L xs j kt im N G z e hj hL hk hG
  rw [if_neg h3]
  by_cases h4 : c = 4
  · rw [if_pos h4]; exact law_c4 L xs j kt im N G z e hj hL hk hG
  rw [if_neg h4]
  by_cases h5 : c = 5
  · rw [if_pos h5]; exact law_c5 L xs j kt im N G z e hj hL hk hG
  rw [if_neg h5]
  by_cases h6 : c = 6
  · rw [if_pos h6]; exact law_c6 L xs j kt im N G z e hj hL hk hG
  rw [if_neg h6]
  by_cases h7 : c = 7
  · rw [if_pos h7]; exact law_c7 L xs j kt im N G z e hj hL hk hG
  rw [if_neg h7]
  by_cases h8 : c = 8
  · rw [if_pos h8]; exact law_c8 L xs j kt im N G z e hj hL hk hG
  rw [if_neg h8]
  by_cases h9 : c = 9
  · rw [if_pos h9]; exact law_c9 L xs j kt im N G z e hj hL hk hG
  rw [if_neg h9]
  by_cases h10 : c = 10
  · rw [if_pos h10]; exact law_c10 L xs j kt im N G z e hj hL hk hG
  rw [if_neg h10]
  by_cases h11 : c = 11
  · rw [if_pos h11]; exact law_c11 L xs j kt im N G z e hj hL hk hG
  rw [if_neg h11]
  by_cases h12 : c = 12
  · rw [if_pos h12]; exact law_c12 L xs j kt im N G z e hj hL hk hG
  rw [if_neg h12]
  by_cases h13 : c = 13
  · rw [if_pos h13]; exact law_c13 L xs j kt im N G z e hj hL hk hG
  rw [if_neg h13]
  by_cases h14 : c = 14
  · rw [if_pos h14]; exact law_c14 L xs j kt im N G z e hj hL hk hG
  rw [if_neg h14]
  by_cases h15 : c = 15
  · rw [if_pos h15]; exact law_c15 L xs j kt im N G z e hj hL hk hG
  rw [if_neg h15]
  by_cases h16 : c = 16
  · rw [if_pos h16]; exact law_c16 L xs j kt im N G z e hj hL hk hG
  rw [if_neg h16]
  by_cases h17 : c = 17
  · rw [if_pos h17]; exact law_c17 L xs j kt im N G z e hj hL hk hG
  rw [if_neg h17]
  by_cases h18 : c = 18
  · rw [if_pos h18]; exact law_c18 L xs j kt im N G z e hj hL hk hG
  rw [if_neg h18]
  by_cases h19 : c = 19
  · rw [if_pos h19]; exact law_c19 L xs j kt im N G z e hj hL hk hG
  rw [if_neg h19]
  by_cases h20 : c = 20
  · rw [if_pos h20]; exact law_c20 L xs j kt im N G z e hj hL hk hG
  rw [if_neg h20]
  by_cases h21 : c = 21
  · rw [if_pos h21]; exact law_c21 L xs j kt im N G z e hj hL hk hG
  rw [if_neg h21]
  by_cases h22 : c = 22
  · rw [if_pos h22]; exact law_c22 L xs j kt im N G z e hj hL hk hG
  rw [if_neg h22]
  by_cases h23 : c = 23
  · rw [if_pos h23]; exact law_c23 L xs j kt im N G z e hj hL hk hG
  rw [if_neg h23]
  by_cases h24 : c = 24
  · rw [if_pos h24]; exact law_c24 L xs j kt im N G z e hj hL hk hG
  rw [if_neg h24]
  by_cases h25 : c = 25
  · rw [if_pos h25]; exact law_c25 L xs j kt im N G z e hj hL hk hG
  rw [if_neg h25]
  by_cases h26 : c = 26
  · rw [if_pos h26]; exact law_c26 L xs j kt im N G z e hj hL hk hG
  rw [if_neg h26]
  by_cases h27 : c = 27
  · rw [if_pos h27]; exact law_c27 L xs j kt im N G z e hj hL hk hG
  rw [if_neg h27]
  by_cases h28 : c = 28
  · rw [if_pos h28]; exact law_c28 L xs j kt im N G z e hj hL hk hG
  rw [if_neg h28]
  by_cases h29 : c = 29
  · rw [if_pos h29]; exact law_c29 L xs j kt im N G z e hj hL hk hG
  rw [if_neg h29]
  by_cases h30 : c = 30
  · rw [if_pos h30]; exact law_c30 L xs j kt im N G z e hj hL hk hG
  rw [if_neg h30]
  by_cases h31 : c = 31
  · rw [if_pos h31]; exact law_c31 L xs j kt im N G z e hj hL hk hG
  rw [if_neg h31]
  by_cases h32 : c = 32
  · rw [if_pos h32]; exact law_c32 L xs j kt im N G z e hj hL hk hG
  rw [if_neg h32]
  by_cases h33 : c = 33
  · rw [if_pos h33]; exact law_c33 L xs j kt im N G z e hj hL hk hG
  rw [if_neg h33]
  by_cases h34 : c = 34
  · rw [if_pos h34]; exact law_c34 L xs j kt im N G z e hj hL hk hG
  rw [if_neg h34]
  by_cases h35 : c = 35
  · rw [if_pos h35]; exact law_c35 L xs j kt im N G z e hj hL hk hG
  rw [if_neg h35]
  by_cases h36 : c = 36
  · rw [if_pos h36]; exact law_c36 L xs j kt im N G z e hj hL hk hG
  rw [if_neg h36]
  by_cases h37 : c = 37
  · rw [if_pos h37]; exact law_c37 L xs j kt im N G z e hj hL hk hG
  rw [if_neg h37]
  by_cases h38 : c = 38
  · rw [if_pos h38]; exact law_c38 L xs j kt im N G z e hj hL hk hG
  rw [if_neg h38]
  by_cases h39 : c = 39
  · rw [if_pos h39]; exact law_c39 L xs j kt im N G z e hj hL hk hG
  rw [if_neg h39]
  by_cases h40 : c = 40
  · rw [if_pos h40]; exact law_c40 L xs j kt im N G z e hj hL hk hG
  rw [if_neg h40]
  by_cases h41 : c = 41
  · rw [if_pos h41]; exact law_c41 L xs j kt im N G z e hj hL hk hG
  rw [if_neg h41]
  by_cases h42 : c = 42
  · rw [if_pos h42]; exact law_c42 L xs j kt im N G z e hj hL hk hG
  rw [if_neg h42]
  by_cases h43 : c = 43
  · rw [if_pos h43]; exact law_c43 L xs j kt im N G z e hj hL hk hG
  rw [if_neg h43]
  by_cases h44 : c = 44
  · rw [if_pos h44]; exact law_c44 L xs j kt im N G z e hj hL hk hG
  rw [if_neg h44]
  by_cases h45 : c = 45
  · rw [if_pos h45]; exact law_c45 L xs j kt im N G z e hj hL hk hG
  rw [if_neg h45]
  by_cases h46 : c = 46
  · rw [if_pos h46]; exact law_c46 L xs j kt im N G z e hj hL hk hG
  rw [if_neg h46]
  by_cases h47 : c = 47
  · rw [if_pos h47]; exact law_c47 L xs j kt im N G z e hj hL hk hG
  rw [if_neg h47]
  by_cases h48 : c = 48
  · rw [if_pos h48]; exact law_c48 L xs j kt im N G z e hj hL hk hG
  rw [if_neg h48]
  by_cases h49 : c = 49
  · rw [if_pos h49]; exact law_c49 L xs j kt im N G z e hj hL hk hG
  rw [if_neg h49]
  by_cases h50 : c = 50
  · rw [if_pos h50]; exact law_c50 L xs j kt im N G z e hj hL hk hG
  rw [if_neg h50]
  exact ⟨im, N, G, z, e, by rw [bl, law_n], hG.mono (by omega)⟩
theorem law_run {L : Nat} {xs : Nat → Int32} (hL : L ≤ 2560) : ∀ (n j : Nat) (im : Nat → Option Nat) (N : Nat) (G : WV) (z e : Nat), j ≤ 512 → 512 < n + j → GI (40 * j) im N G z e → ∃ hr, loopF (fun x => F_law_L18 L xs 0 756 x.1 x.2) n (nI (5 * j), PG im N G) = some (.inr hr)
  | 0, j, im, N, G, z, e, h1, h2, hG => absurd h2 (by omega)
  | n + 1, j, im, N, G, z, e, h1, h2, hG => by
    by_cases hc : Int32.ofNat L - 5 < nI (5 * j)
    · refine ⟨PG im N G, ?_⟩
      have hs : F_law_L18 L xs 0 756 (nI (5 * j)) (PG im N G) = some (.inr (.inr (PG im N G))) := by
        unfold F_law_L18
        rw [if_pos hc]
      unfold loopF
      dsimp only
      rw [hs]; rfl
    · have hj2 : j < 512 := law_j hL rfl h1 hc
      have hj5 : 5 * j + 5 ≤ L := by
        have e5 : (5 : Int32) = nI 5 := by decide
        have e2 : Int32.ofNat L = nI L := rfl
        rw [e5, e2, Int32.lt_iff_toInt_lt, pk_sub_toInt (by omega) (by omega), nI_toInt (by omega)] at hc
        omega
      obtain ⟨im', N', G', z', e', a1, a2⟩ := law_step (xs := xs) hj5 hL (show 40 * j < 2 ^ 30 by omega) hG hc
      obtain ⟨hr, b1⟩ := law_run hL n (j + 1) im' N' G' z' e' (by omega) (by omega) (by rw [show 40 * (j + 1) = 40 * j + 40 by omega]; exact a2)
      refine ⟨hr, ?_⟩
      unfold loopF
      dsimp only
      rw [a1]
      exact b1
