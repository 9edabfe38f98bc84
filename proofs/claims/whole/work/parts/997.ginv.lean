/-! what holds ahead of every call -/
variable {kt : Nat}
def WO (kt : Nat) (V : WV) : Prop := ∃ n o s, WOK kt V n o s
theorem WO.mono {V : WV} {k' : Nat} (h : WO kt V) (hk : kt ≤ k') : WO k' V := by
  obtain ⟨n, o, s, hW⟩ := h
  exact ⟨n, o, s, hW.mono hk⟩
def Gd (kt : Nat) (V : WV) (M : Nat → Int32) : Prop := WO kt V ∧ Rel V M
theorem Gd.ag {A B : WV} {M : Nat → Int32} (h : AgW A B) (hG : Gd kt A M) : Gd kt B M := by
  obtain ⟨⟨n, o, s, hW⟩, hR⟩ := hG
  exact ⟨⟨n, o, s, h.wok hW⟩, h.rel hR⟩
theorem Gd.mono {A : WV} {M : Nat → Int32} {k' : Nat} (h : Gd kt A M) (hk : kt ≤ k') : Gd k' A M := ⟨h.1.mono hk, h.2⟩
theorem Gd.row {A : WV} {M M' : Nat → Int32} (h : ∀ i, i < 559 → M' i = M i) (hG : Gd kt A M) : Gd kt A M' := ⟨hG.1, hG.2.rowc h⟩
def slt (e j : Nat) : Nat := 117 + 57 * ((e + j) % 11)
def ImgOK (kt : Nat) (im : Nat → Option Nat) (N : Nat) (G : WV) (i : Nat) : Prop :=
  match im i with
  | none => G.1 764 i = 0
  | some w => isW N w ∧ 775 ≤ w ∧ G.1 764 i = 1 ∧ Gd kt (get w G) (fun x => G.1 757 (559 * (i + 1) + x))
/-- the model's constants -/
def Cst (G : WV) : Prop := (∀ i, i < 9 → G.1 761 i = (stt 1).getD i 0 ∧ G.1 762 i = (stt 2).getD i 0) ∧ G.1 763 0 = 5 ∧ G.1 763 1 = 10 ∧ G.1 763 2 = 30
def GI (kt : Nat) (im : Nat → Option Nat) (N : Nat) (G : WV) (z e : Nat) : Prop :=
  (∃ k, N = 775 + 57 * k) ∧ z ≤ 10 ∧ e < 11 ∧ G.1 115 0 = nI z ∧ G.1 115 1 = nI e ∧ G.1 756 8 = nI z ∧ Gd kt (get 1 G) (G.1 757) ∧
  (∀ j, j < z → Gd kt (get (slt e j) G) (fun i => G.1 758 (559 * j + i))) ∧ ImgOK kt im N G 0 ∧ ImgOK kt im N G 1 ∧ (∀ w, im 0 = some w → im 1 = some w → False) ∧ Cst G
section GINV
variable {im : Nat → Option Nat} {N z e : Nat} {G G' : WV}
theorem GI.n (h : GI kt im N G z e) : 775 ≤ N := by obtain ⟨⟨k, rfl⟩, -⟩ := h; omega
theorem GI.lv (h : GI kt im N G z e) : Gd kt (get 1 G) (G.1 757) := h.2.2.2.2.2.2.1
theorem slt_W (e j : Nat) : isW N (slt e j) := Or.inr (Or.inr (Or.inl ⟨(e + j) % 11, Nat.mod_lt _ (by decide), rfl⟩))
theorem slt_lt (e j : Nat) : 117 ≤ slt e j ∧ slt e j + 57 ≤ 744 := by
  unfold slt
  have := Nat.mod_lt (e + j) (show 11 > 0 by decide)
  omega
theorem ImgOK.ag {i : Nat} (hw : ∀ w, 775 ≤ w → AgW (get w G) (get w G')) (h64 : G'.1 764 = G.1 764) (h57 : ∀ x, 559 ≤ x → G'.1 757 x = G.1 757 x) (h : ImgOK kt im N G i) : ImgOK kt im N G' i := by
  unfold ImgOK at h ⊢
  cases hi : im i with
  | none => rw [hi] at h; dsimp only at h ⊢; rw [h64]; exact h
  | some w =>
    rw [hi] at h
    dsimp only at h ⊢
    obtain ⟨h1, h2, h3, h4⟩ := h
    exact ⟨h1, h2, by rw [h64]; exact h3, (h4.ag (hw w h2)).row (fun i _ => h57 _ (by omega))⟩
theorem ImgOK.mono {i k' : Nat} (h : ImgOK kt im N G i) (hk : kt ≤ k') : ImgOK k' im N G i := by
  unfold ImgOK at h ⊢
  cases hi : im i with
  | none => rw [hi] at h; exact h
  | some w =>
    rw [hi] at h
    obtain ⟨h1, h2, h3, h4⟩ := h
    exact ⟨h1, h2, h3, h4.mono hk⟩
theorem GI.mono {k' : Nat} (h : GI kt im N G z e) (hk : kt ≤ k') : GI k' im N G z e := by
  obtain ⟨g1, g2, g3, g4, g5, g6, g7, g8, g9, g10, g11, g12⟩ := h
  exact ⟨g1, g2, g3, g4, g5, g6, g7.mono hk, fun j hj => (g8 j hj).mono hk, g9.mono hk, g10.mono hk, g11, g12⟩
/-- nothing that counts is another one -/
def Irr (G G' : WV) : Prop := (∀ c, ((1 ≤ c ∧ c < 58) ∨ (115 ≤ c ∧ c < 744) ∨ 775 ≤ c) → G'.1 c = G.1 c ∧ G'.2 c = G.2 c) ∧ G'.1 757 = G.1 757 ∧ G'.1 758 = G.1 758 ∧ G'.1 761 = G.1 761 ∧ G'.1 762 = G.1 762 ∧ G'.1 763 = G.1 763 ∧ G'.1 764 = G.1 764 ∧ G'.1 756 8 = G.1 756 8
theorem Irr.refl (G : WV) : Irr G G := ⟨fun _ _ => ⟨rfl, rfl⟩, rfl, rfl, rfl, rfl, rfl, rfl, rfl⟩
theorem Irr.trans {G'' : WV} (h : Irr G G') (h' : Irr G' G'') : Irr G G'' := by
  obtain ⟨a1, a2, a3, a4, a5, a6, a7, a8⟩ := h
  obtain ⟨b1, b2, b3, b4, b5, b6, b7, b8⟩ := h'
  exact ⟨fun c hc => ⟨(b1 c hc).1.trans (a1 c hc).1, (b1 c hc).2.trans (a1 c hc).2⟩, b2.trans a2, b3.trans a3, b4.trans a4, b5.trans a5, b6.trans a6, b7.trans a7, b8.trans a8⟩
theorem Irr.agw (h : Irr G G') {w : Nat} (hw : w = 1 ∨ (117 ≤ w ∧ w + 57 ≤ 744) ∨ 775 ≤ w) : AgW (get w G) (get w G') := ag_of (fun c hc => (h.1 (w + c) (by omega)).1) (fun c hc => (h.1 (w + c) (by omega)).2)
theorem GI.irr (hG : GI kt im N G z e) (h : Irr G G') : GI kt im N G' z e := by
  obtain ⟨g1, g2, g3, g4, g5, g6, g7, g8, g9, g10, g11, g12⟩ := hG
  have h115 := (h.1 115 (by omega)).1
  obtain ⟨a1, a2, a3, a4, a5, a6, a7, a8⟩ := id h
  refine ⟨g1, g2, g3, by rw [h115]; exact g4, by rw [h115]; exact g5, by rw [a8]; exact g6, by rw [a2]; exact g7.ag (h.agw (by omega)), fun j hj => ?_, ?_, ?_, g11, ?_⟩
  · rw [a3]; exact (g8 j hj).ag (h.agw (Or.inr (Or.inl (slt_lt e j))))
  · exact g9.ag (fun w hw => h.agw (by omega)) a7 (fun x _ => by rw [a2])
  · exact g10.ag (fun w hw => h.agw (by omega)) a7 (fun x _ => by rw [a2])
  · unfold Cst at g12 ⊢
    rw [a4, a5, a6]; exact g12
theorem irr_tools (Q : WV) : Irr G (put 745 11 Q G) :=
  ⟨fun c hc => put_out (by omega), (put_out (by omega)).1, (put_out (by omega)).1, (put_out (by omega)).1, (put_out (by omega)).1, (put_out (by omega)).1, (put_out (by omega)).1, by rw [(put_out (by omega)).1]⟩
theorem irr_paper (V : WV) : Irr G (put 58 57 V G) :=
  ⟨fun c hc => put_out (by omega), (put_out (by omega)).1, (put_out (by omega)).1, (put_out (by omega)).1, (put_out (by omega)).1, (put_out (by omega)).1, (put_out (by omega)).1, by rw [(put_out (by omega)).1]⟩
/-- the model's state is the same -/
def MSame (U U' : WV) : Prop := (∀ c, (c = 1 ∨ c = 2 ∨ (5 ≤ c ∧ c ≤ 8)) → U'.1 c = U.1 c) ∧ U'.1 0 8 = U.1 0 8
theorem MSame.refl (U : WV) : MSame U U := ⟨fun _ _ => rfl, rfl⟩
theorem MSame.trans {U U' U'' : WV} (h : MSame U U') (h' : MSame U' U'') : MSame U U'' := ⟨fun c hc => (h'.1 c hc).trans (h.1 c hc), h'.2.trans h.2⟩
theorem KeepS.same {U U' : WV} (h : KeepS U U') : MSame U U' := ⟨fun c hc => h c (by omega), by rw [h 0 (by omega)]⟩
theorem KeepT.same {U U' : WV} (h : KeepT U U') : MSame U U' := ⟨fun c hc => h c (by omega), by rw [h 0 (by omega)]⟩
theorem irr_model {U' : WV} (h : MSame (get 756 G) U') : Irr G (put 756 19 U' G) := by
  have p : ∀ c, c < 19 → (put 756 19 U' G).1 (756 + c) = U'.1 c := fun c hc => (put_in hc).1
  refine ⟨fun c hc => put_out (by omega), ?_, ?_, ?_, ?_, ?_, ?_, ?_⟩
  · exact (p 1 (by omega)).trans (h.1 1 (by omega))
  · exact (p 2 (by omega)).trans (h.1 2 (by omega))
  · exact (p 5 (by omega)).trans (h.1 5 (by omega))
  · exact (p 6 (by omega)).trans (h.1 6 (by omega))
  · exact (p 7 (by omega)).trans (h.1 7 (by omega))
  · exact (p 8 (by omega)).trans (h.1 8 (by omega))
  · have := p 0 (by omega)
    show (put 756 19 U' G).1 (756 + 0) 8 = _
    rw [this]; exact h.2
/-! Past -/
theorem mod11 : ∀ k, k < 22 → nI k - nI k / 11 * 11 = nI (k % 11) := by decide
theorem c_slot (hN : 775 ≤ N) {e j : Nat} (he : e < 11) (hj : j ≤ 10) (h1 : G.1 115 1 = nI e) : F_X4_slot (PG im N G) 115 (nI j) = some (slt e j) := by
  have hm : (e + j) % 11 < 11 := Nat.mod_lt _ (by decide)
  unfold F_X4_slot rmI slt
  simp only [gl hN, Option.bind_some, h1, if_neg (show ¬ (11 : Int32) = 0 by decide), nI_add, mod11 (e + j) (by omega), hm]
theorem c_keep (hG : GI kt im N G z e) : ∃ A, F_X4_keep (PG im N G) 115 1 = some (PG im N (put (slt e z) 57 A G)) ∧ AgW (get 1 G) A := by
  have hN := hG.n
  obtain ⟨g1, g2, g3, g4, g5, -⟩ := id hG
  obtain ⟨A, a1, a2⟩ := c_copyG (im := im) (G := G) (slt_W (N := N) e z) (Or.inl rfl) (by have := slt_lt e z; omega) hN
  refine ⟨A, ?_, a2⟩
  unfold F_X4_keep
  have hw := lw_at (im := im) (slt_W (N := N) e z) hN G
  have hco : ∀ {α : Type} (x : Option α), cO (PG im N G) (slt e z) 8 x = x := fun x => by
    have := hw.co (V := get (slt e z) G) (x := x) (o := 0) (t := 8) (by decide) (by decide) rfl
    rw [put_get, Nat.add_zero] at this
    exact this
  simp only [gl hN, Option.bind_some, g4, c_slot hN g3 g2 g5, hco, a1]
/-- after a call that was told: its World is V', it can be undone -/
def CAct (G G' V' : WV) (z e : Nat) : Prop :=
  (∀ c, 756 ≤ c → G'.1 c = G.1 c ∧ G'.2 c = G.2 c) ∧ AgW V' (get 1 G') ∧ (∀ j, j < 11 → j ≠ (e + z) % 11 → AgW (get (117 + 57 * j) G) (get (117 + 57 * j) G')) ∧ AgW (get 1 G) (get (slt e z) G') ∧
  G'.1 115 0 = nI (if z < 10 then z + 1 else 10) ∧ G'.1 115 1 = nI (if z < 10 then e else (e + 1) % 11)
/-- after a call that was refused: all is as it was -/
def CNo (G G' : WV) (z e : Nat) : Prop :=
  (∀ c, 756 ≤ c → G'.1 c = G.1 c ∧ G'.2 c = G.2 c) ∧ AgW (get 1 G) (get 1 G') ∧ (∀ j, j < 11 → j ≠ (e + z) % 11 → AgW (get (117 + 57 * j) G) (get (117 + 57 * j) G')) ∧ G'.1 115 = G.1 115
def MidG (G : WV) (z e : Nat) (A V' Q' : WV) : WV := put 1 57 V' (put 745 11 Q' (put (slt e z) 57 A G))
theorem mid_out {A V' Q' : WV} {c : Nat} (h1 : c < 1 ∨ 58 ≤ c) (h2 : c < 745 ∨ 756 ≤ c) (h3 : c < slt e z ∨ slt e z + 57 ≤ c) : (MidG G z e A V' Q').1 c = G.1 c ∧ (MidG G z e A V' Q').2 c = G.2 c := by
  unfold MidG
  rw [(put_out (by omega)).1, (put_out (by omega)).2, (put_out (by omega)).1, (put_out (by omega)).2, (put_out h3).1, (put_out h3).2]
  exact ⟨rfl, rfl⟩
theorem mid_slot {A V' Q' : WV} : AgW A (get (slt e z) (MidG G z e A V' Q')) := by
  have hs := slt_lt e z
  refine ag_of (fun c hc => ?_) (fun c hc => ?_)
  · show (MidG G z e A V' Q').1 (slt e z + c) = _
    unfold MidG
    rw [(put_out (by omega)).1, (put_out (by omega)).1, (put_in hc).1]
  · show (MidG G z e A V' Q').2 (slt e z + c) = _
    unfold MidG
    rw [(put_out (by omega)).2, (put_out (by omega)).2, (put_in hc).2]
theorem c_settle (hG : GI kt im N G z e) {A V' Q' : WV} (hA : AgW (get 1 G) A) (told : Int32) : ∃ G', F_X9_settle (PG im N (MidG G z e A V' Q')) 0 told = some (told, PG im N G') ∧ (if 0 ≤ told then CAct G G' V' z e else CNo G G' z e) := by
  have hN := hG.n
  obtain ⟨g1, g2, g3, g4, g5, -⟩ := id hG
  have hs := slt_lt e z
  obtain ⟨G2, hG2⟩ : ∃ G2, G2 = MidG G z e A V' Q' := ⟨_, rfl⟩
  have o115 : G2.1 115 = G.1 115 := by rw [hG2]; exact (mid_out (by omega) (by omega) (by omega)).1
  have oth : ∀ c, ¬ (1 ≤ c ∧ c < 58) → ¬ (745 ≤ c ∧ c < 756) → ¬ (slt e z ≤ c ∧ c < slt e z + 57) → G2.1 c = G.1 c ∧ G2.2 c = G.2 c := fun c h1 h2 h3 => by
    rw [hG2]; exact mid_out (by omega) (by omega) (by omega)
  have lv : AgW V' (get 1 G2) := by rw [hG2]; exact ag_in 1 V' _
  have sl : AgW A (get (slt e z) G2) := by rw [hG2]; exact mid_slot
  have ots : ∀ j, j < 11 → j ≠ (e + z) % 11 → ∀ c, c < 57 → G2.1 (117 + 57 * j + c) = G.1 (117 + 57 * j + c) ∧ G2.2 (117 + 57 * j + c) = G.2 (117 + 57 * j + c) := fun j hj hne c hc => oth _ (by omega) (by omega) (by unfold slt; omega)
  rw [← hG2]
  unfold F_X9_settle
  by_cases ht : 0 ≤ told
  · rw [if_pos ht]
    unfold F_X4_countKept
    by_cases hz : z < 10
    · have hlt : ¬ (10 : Int32) ≤ nI z := Int32.not_le.mpr (by
        rw [Int32.lt_iff_toInt_lt, nI_toInt (by omega)]
        have : (10 : Int32).toInt = 10 := rfl
        omega)
      refine ⟨sx G2 115 (upd (G2.1 115) 0 (nI (z + 1))), ?_, ?_⟩
      · simp only [gl hN, Option.bind_some, o115, g4, if_neg hlt, nI_1]
      · rw [if_pos ht]
        have oc : ∀ c, c ≠ 115 → (sx G2 115 (upd (G2.1 115) 0 (nI (z + 1)))).1 c = G2.1 c := fun c hc => up_n _ _ hc
        refine ⟨fun c hc => ?_, ?_, fun j hj hne => ?_, ?_, ?_, ?_⟩
        · rw [oc c (by omega)]; exact oth c (by omega) (by omega) (by omega)
        · exact lv.trans (ag_of (fun c hc => oc _ (by omega)) (fun c hc => rfl))
        · exact ag_of (fun c hc => (oc _ (by omega)).trans (ots j hj hne c hc).1) (fun c hc => (ots j hj hne c hc).2)
        · exact (hA.trans sl).trans (ag_of (fun c hc => oc _ (by omega)) (fun c hc => rfl))
        · rw [if_pos hz, sx_1, up_s, upd_s]
        · rw [if_pos hz, sx_1, up_s, upd_ne _ _ (by decide), o115]; exact g5
    · have hz10 : z = 10 := by omega
      have hge : (10 : Int32) ≤ nI z := by rw [hz10]; decide
      refine ⟨sx G2 115 (upd (G2.1 115) 1 (nI ((e + 1) % 11))), ?_, ?_⟩
      · simp only [gl hN, Option.bind_some, o115, g4, g5, if_pos hge, nI_1, rmI, if_neg (show ¬ (11 : Int32) = 0 by decide), mod11 (e + 1) (by omega)]
      · rw [if_pos ht]
        have oc : ∀ c, c ≠ 115 → (sx G2 115 (upd (G2.1 115) 1 (nI ((e + 1) % 11)))).1 c = G2.1 c := fun c hc => up_n _ _ hc
        refine ⟨fun c hc => ?_, ?_, fun j hj hne => ?_, ?_, ?_, ?_⟩
        · rw [oc c (by omega)]; exact oth c (by omega) (by omega) (by omega)
        · exact lv.trans (ag_of (fun c hc => oc _ (by omega)) (fun c hc => rfl))
        · exact ag_of (fun c hc => (oc _ (by omega)).trans (ots j hj hne c hc).1) (fun c hc => (ots j hj hne c hc).2)
        · exact (hA.trans sl).trans (ag_of (fun c hc => oc _ (by omega)) (fun c hc => rfl))
        · rw [if_neg hz, sx_1, up_s, upd_ne _ _ (by decide), o115, g4, hz10]
        · rw [if_neg hz, sx_1, up_s, upd_s]
  · rw [if_neg ht]
    obtain ⟨B, b1, b2⟩ := c_copyG (im := im) (G := G2) (Or.inl rfl) (slt_W (N := N) e z) (by omega) hN
    have hco : ∀ {α : Type} (x : Option α), cO (PG im N G2) 1 8 x = x := fun x => by
      have := (lw_at (im := im) (N := N) (w := 1) (Or.inl rfl) hN G2).co (V := get 1 G2) (x := x) (o := 0) (t := 8) (by decide) (by decide) rfl
      rw [put_get] at this
      exact this
    have h5 : G2.1 115 1 = nI e := by rw [o115]; exact g5
    refine ⟨put 1 57 B G2, ?_, ?_⟩
    · unfold F_X4_dropTry
      simp only [gl hN, Option.bind_some, o115, g4, c_slot hN g3 g2 h5, hco, b1]
    · rw [if_neg ht]
      refine ⟨fun c hc => ?_, ?_, fun j hj hne => ?_, ?_⟩
      · rw [(put_out (by omega)).1, (put_out (by omega)).2]; exact oth c (by omega) (by omega) (by omega)
      · exact ((hA.trans sl).trans b2).trans (ag_in 1 B G2)
      · refine ag_of (fun c hc => ?_) (fun c hc => ?_)
        · show (put 1 57 B G2).1 _ = _
          rw [(put_out (by omega)).1]; exact (ots j hj hne c hc).1
        · show (put 1 57 B G2).2 _ = _
          rw [(put_out (by omega)).2]; exact (ots j hj hne c hc).2
      · rw [(put_out (by omega)).1]; exact o115
end GINV
