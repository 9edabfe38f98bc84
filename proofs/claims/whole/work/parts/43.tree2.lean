theorem loop_inv {σ ρ α : Type} {st : σ → Option (σ ⊕ ρ)} (e : Nat → α → σ) (fin : α → ρ) (I : Nat → α → Prop) (N : Nat) (hs : ∀ i a, i < N → I i a → ∃ a', st (e i a) = some (.inl (e (i + 1) a')) ∧ I (i + 1) a') (hx : ∀ a, I N a → st (e N a) = some (.inr (fin a))) :
    ∀ (d i n : Nat) (a : α), i + d = N → d < n → I i a → ∃ a', loopF st n (e i a) = some (fin a') ∧ I N a'
  | 0, i, n, a, hi, hn, ha => by
    obtain ⟨n, rfl⟩ : ∃ k, n = k + 1 := ⟨n - 1, by omega⟩
    have e1 : i = N := by omega
    subst e1
    exact ⟨a, by simp only [loopF, hx a ha, Option.bind_some], ha⟩
  | d + 1, i, n, a, hi, hn, ha => by
    obtain ⟨n, rfl⟩ : ∃ k, n = k + 1 := ⟨n - 1, by omega⟩
    obtain ⟨a', h1, h2⟩ := hs i a (by omega) ha
    obtain ⟨b, h3, h4⟩ := loop_inv e fin I N hs hx d (i + 1) n a' (by omega) (by omega) h2
    exact ⟨b, by simp only [loopF, h1, Option.bind_some]; exact h3, h4⟩
/-- what stands first, as the programs hold it -/
def hd : List Nat → Int32
  | [] => -1
  | x :: _ => nI x
theorem pth_rk {th : Nat → Bool} {pf : Nat → Option Nat} {rk : Nat → Nat} (h : Ranked th pf rk) : ∀ (n g : Nat), rk g < n → g < 12 → th g = true → ∀ r ∈ pth pf g, r = g ∨ rk r < rk g
  | 0, _, h1, _, _, _, _ => absurd h1 (Nat.not_lt_zero _)
  | n + 1, g, h1, hg, ht, r, hr => by
    rw [pth_cons ⟨rk, h⟩ hg ht] at hr
    rcases List.mem_cons.mp hr with rfl | hr
    · exact Or.inl rfl
    · by_cases e : g = 0
      · subst e
        rw [h.2.1] at hr
        cases hr
      · obtain ⟨q, hq, hq1, hq2, hq3⟩ := h.2.2.2 g hg ht e
        rw [hq] at hr
        rcases pth_rk h n q (by omega) hq1 hq2 r hr with rfl | h5
        · exact Or.inr hq3
        · exact Or.inr (by omega)
theorem pth_nd {th : Nat → Bool} {pf : Nat → Option Nat} {rk : Nat → Nat} (h : Ranked th pf rk) : ∀ (n g : Nat), rk g < n → g < 12 → th g = true → (pth pf g).Nodup
  | 0, _, h1, _, _ => absurd h1 (Nat.not_lt_zero _)
  | n + 1, g, h1, hg, ht => by
    rw [pth_cons ⟨rk, h⟩ hg ht]
    by_cases e : g = 0
    · subst e
      rw [h.2.1]
      simp
    · obtain ⟨q, hq, hq1, hq2, hq3⟩ := h.2.2.2 g hg ht e
      rw [hq]
      refine List.nodup_cons.mpr ⟨fun hm => ?_, pth_nd h n q (by omega) hq1 hq2⟩
      rcases pth_rk h _ q (Nat.lt_succ_self _) hq1 hq2 g hm with rfl | h5
      · omega
      · omega
theorem pth_nodup {th : Nat → Bool} {pf : Nat → Option Nat} (h : TreeOK th pf) {g : Nat} (hg : g < 12) (ht : th g = true) : (pth pf g).Nodup := by
  obtain ⟨rk, h⟩ := h
  exact pth_nd h _ g (Nat.lt_succ_self _) hg ht
/-- the rest of a path: nobody, or the path of somebody -/
def Sfx (th : Nat → Bool) (pf : Nat → Option Nat) (l : List Nat) : Prop := l = [] ∨ ∃ r, r < 12 ∧ th r = true ∧ l = pth pf r
theorem Sfx.cons {th : Nat → Bool} {pf : Nat → Option Nat} (h : TreeOK th pf) {x : Nat} {l : List Nat} (hs : Sfx th pf (x :: l)) : x < 12 ∧ th x = true ∧ x :: l = pth pf x ∧ Sfx th pf l ∧ (match pf x with | none => [] | some q => pth pf q) = l := by
  rcases hs with hs | ⟨r, hr, ht, e⟩
  · cases hs
  · have hc := pth_cons h hr ht
    rw [hc] at e
    obtain ⟨rfl, e2⟩ := List.cons.inj e
    refine ⟨hr, ht, by rw [hc, e2], ?_, e2.symm⟩
    rw [e2]
    by_cases e0 : x = 0
    · subst e0
      obtain ⟨rk, hk⟩ := h
      rw [hk.2.1]
      exact Or.inl rfl
    · obtain ⟨rk, hk⟩ := id h
      obtain ⟨q, hq, hq1, hq2, hq3⟩ := hk.2.2.2 x hr ht e0
      rw [hq]
      exact Or.inr ⟨q, hq1, hq2, rfl⟩
theorem Sfx.pth {th : Nat → Bool} {pf : Nat → Option Nat} {g : Nat} (hg : g < 12) (ht : th g = true) : Sfx th pf (pth pf g) := Or.inr ⟨g, hg, ht, rfl⟩
section TREE2
variable {V : WV} {n : Nat} {o : Nat → Nat} {w : Nat} {P : WV → Hp}
theorem OrdOK.hdv (h : OrdOK V n o) {x : Nat} {l : List Nat} (hs : Sfx (thV V) (pfV V) (x :: l)) : V.1 2 x = hd l := by
  obtain ⟨hx, ht, -, h4, h5⟩ := hs.cons h.tree
  have hv : V.1 2 x ≠ -2 := by simpa [thV] using ht
  obtain ⟨i, hi, rfl⟩ := h.2.2.2.2.2.2.2.2 x hx hv
  rcases Nat.eq_zero_or_pos i with rfl | hp
  · rw [h.2.2.2.1] at h5 ⊢
    rw [h.pf0] at h5
    subst h5
    exact h.2.2.2.2.2.2.1
  · obtain ⟨j, hj, e1, e2, e3⟩ := h.pf hp hi
    rw [e2] at h5
    rw [← h5]
    show V.1 2 (o i) = hd (pth (pfV V) (o j))
    rw [pth_cons h.tree e3 (h.th (by omega)), e1]
    rfl
def addTo (f : Nat → Int32) (l : List Nat) (d : Int32) : Nat → Int32 := l.foldl (fun f r => upd f r (f r + d)) f
theorem addTo_at {d : Int32} {k : Nat} : ∀ (l : List Nat) (f : Nat → Int32), l.Nodup → addTo f l d k = if k ∈ l then f k + d else f k
  | [], f, _ => by simp [addTo]
  | x :: l, f, h => by
    obtain ⟨h1, h2⟩ := List.nodup_cons.mp h
    show addTo (upd f x (f x + d)) l d k = _
    rw [addTo_at l _ h2]
    by_cases e : k = x
    · subst e
      simp [h1, upd]
    · simp [upd, e]
theorem s_has (hP : LT w P) (g : Int32) : F_X6_has (P V) (w + 1) g = some (if inb g 12 && thV V g.toNatClampNeg then 1 else 0) := by
  unfold F_X6_has
  by_cases h1 : g < 0
  · simp [h1, inb]
  · by_cases h2 : 12 ≤ g
    · have : inb g 12 = false := by
        obtain ⟨j, hj, rfl⟩ := nI_of h1
        have e12 : (12 : Int32) = nI 12 := by decide
        rw [e12, nI_leI (by omega) hj] at h2
        simp [inb, nI_clamp hj]
        omega
      simp [h1, h2, this]
    · obtain ⟨j, hj, rfl⟩ := nI_of h1
      have e12 : (12 : Int32) = nI 12 := by decide
      have hj12 : j < 12 := by
        rw [e12, nI_leI (by omega) hj] at h2
        omega
      rw [if_neg h1, if_neg h2]
      simp only [tl hP, Option.bind_some, hj12, inb_nI hj12 (by decide), nI_clamp hj, thV, Bool.true_and]
      by_cases h3 : V.1 2 j = -2
      · simp [h3]
      · simp [h3]
theorem s_has' (hP : LT w P) {g : Nat} (hg : g < 12) : F_X6_has (P V) (w + 1) (nI g) = some (if thV V g then 1 else 0) := by
  rw [s_has hP, inb_nI hg (by decide), nI_clamp (by omega)]
  rfl
theorem s_bits (hP : LT w P) (hO : OrdOK V n o) {r : Nat} (hr : r < 12) (ht : thV V r = true) : F_X6_bitsBelow (P V) (w + 1) (nI r) = some (mkB 12 (fun g => thV V g && blw (pfV V) r g)) := by
  obtain ⟨h1, h2, h3, h4, h5, h6, h7, h8, h9⟩ := id hO
  have hTr := hO.tree
  obtain ⟨a, ha, hI⟩ := loop_inv (st := fun x => F_X6_bitsBelow_L6 (P V) (w + 1) x.1 x.2) (fun i (a : Int32) => (a, nI i)) (fun a => a)
    (fun i a => 0 < i ∧ ∀ g, g < 32 → (bt a g = true ↔ g = r ∨ ∃ k, 0 < k ∧ k < i ∧ o k = g ∧ blw (pfV V) r g = true)) n
    (fun i a hi hI => by
      obtain ⟨hp, hI⟩ := hI
      obtain ⟨j, hj, e, -, hj12⟩ := hO.pf hp hi
      have hi12 := (h5 i hi).1
      refine ⟨_, s_bits_step hP hO hp hi hj e a, by omega, fun g hg => ?_⟩
      have hbj : bt a (o j) = true ↔ blw (pfV V) r (o j) = true := by
        rw [hI (o j) (by omega)]
        constructor
        · rintro (q | ⟨k, -, -, -, q⟩)
          · rw [q]; exact blw_self hTr hr ht
          · exact q
        · intro q
          rcases Nat.eq_zero_or_pos j with rfl | hjp
          · rw [h4, hO.blw0] at q
            left
            rw [h4]; exact (of_decide_eq_true q).symm
          · exact Or.inr ⟨j, hjp, hj, rfl, q⟩
      have hbi := hO.blwS (r := r) hp hi hj e
      by_cases hb : bt a (o j) = true
      · rw [if_pos hb, b_or, bt_one (by omega) hg, Bool.or_eq_true, hI g hg, decide_eq_true_eq]
        constructor
        · rintro ((q | ⟨k, k1, k2, k3, k4⟩) | q)
          · exact Or.inl q
          · exact Or.inr ⟨k, k1, by omega, k3, k4⟩
          · exact Or.inr ⟨i, hp, by omega, q.symm, by rw [q, hbi, hbj.mp hb]; simp⟩
        · rintro (q | ⟨k, k1, k2, k3, k4⟩)
          · exact Or.inl (Or.inl q)
          · by_cases hk : k = i
            · subst hk; exact Or.inr k3.symm
            · exact Or.inl (Or.inr ⟨k, k1, by omega, k3, k4⟩)
      · rw [if_neg hb, hI g hg]
        constructor
        · rintro (q | ⟨k, k1, k2, k3, k4⟩)
          · exact Or.inl q
          · exact Or.inr ⟨k, k1, by omega, k3, k4⟩
        · rintro (q | ⟨k, k1, k2, k3, k4⟩)
          · exact Or.inl q
          · by_cases hk : k = i
            · subst hk
              rw [← k3, hbi, Bool.or_eq_true, decide_eq_true_eq] at k4
              rcases k4 with q | q
              · left; rw [← k3]; exact q.symm
              · exact absurd (hbj.mpr q) hb
            · exact Or.inr ⟨k, k1, by omega, k3, k4⟩)
    (fun a hI => by
      show F_X6_bitsBelow_L6 (P V) (w + 1) a (nI n) = some (.inr a)
      unfold F_X6_bitsBelow_L6
      simp only [tl hP, Option.bind_some, h3]
      rw [if_pos (nI_le (Nat.le_refl _) (by omega))])
    (n - 1) 1 6000 (1 <<< (nI r &&& 31)) (by omega) (by omega) ⟨by decide, fun g hg => by
      rw [bt_one (by omega) hg, decide_eq_true_eq]
      constructor
      · exact Or.inl
      · rintro (q | ⟨k, k1, k2, -⟩)
        · exact q
        · omega⟩
  unfold F_X6_bitsBelow
  simp only [bl]
  rw [show (1 : Int32) = nI 1 from rfl] at ha ⊢
  rw [ha, Option.bind_some]
  congr 1
  refine mkB_eq (by decide) (fun g hg => ?_)
  have h := hI.2 g hg
  rw [Bool.eq_iff_iff, h]
  simp only [Bool.and_eq_true, decide_eq_true_eq]
  constructor
  · rintro (rfl | ⟨k, k1, k2, rfl, k4⟩)
    · exact ⟨hr, ht, blw_self hTr hr ht⟩
    · exact ⟨(h5 k k2).1, hO.th k2, k4⟩
  · rintro ⟨q1, q2, q3⟩
    obtain ⟨k, hk, rfl⟩ := h9 g q1 (by simpa [thV] using q2)
    rcases Nat.eq_zero_or_pos k with rfl | hp
    · rw [h4, hO.blw0] at q3
      left; rw [h4]; exact (of_decide_eq_true q3).symm
    · exact Or.inr ⟨k, hp, hk, rfl, q3⟩
end TREE2
