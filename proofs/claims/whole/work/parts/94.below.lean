/-! who stands strictly below a group, groups and processes -/
def seat (V : WV) (y : Nat) : Nat := if y < 12 then y else hom V (y - 12)
def aliv (V : WV) (y : Nat) : Bool := if y < 12 then thV V y else phV V (y - 12)
def bel (V : WV) (g y : Nat) : Bool := aliv V y && (blw (pfV V) g (seat V y) && decide (y ≠ g))
section BELOW
variable {V : WV} {n : Nat} {o : Nat → Nat}
theorem OrdOK.ind (hO : OrdOK V n o) (C : Nat → Prop) (h0 : C 0) (hs : ∀ g u, g < 12 → thV V g = true → g ≠ 0 → u < 12 → thV V u = true → V.1 2 g = nI u → pfV V g = some u → C u → C g) : ∀ g, g < 12 → thV V g = true → C g := by
  obtain ⟨rk, hk1, hk2⟩ := hO.rk
  have : ∀ i, i < n → C (o i) := by
    intro i
    induction i using Nat.strongRecOn with
    | _ i ih =>
      intro hi
      rcases Nat.eq_zero_or_pos i with z | z
      · subst z; rw [hO.2.2.2.1]; exact h0
      · obtain ⟨j, hj, e, hpf, hj12⟩ := hO.pf z hi
        refine hs (o i) (o j) (hO.2.2.2.2.1 i hi).1 (hO.th hi) (fun e0 => ?_) hj12 (hO.th (by omega)) e hpf (ih j hj (by omega))
        have := hO.2.2.2.2.2.1 i 0 hi (by omega) (by rw [e0, hO.2.2.2.1])
        omega
  intro g hg ht
  obtain ⟨q1, q2⟩ := hk2 g hg ht
  rw [← q2]; exact this _ q1
theorem memb_g {g e : Nat} (he : e < 12) (h : memb V g e = true) : V.1 2 e = nI g := by
  unfold memb at h; rw [if_pos he] at h; exact of_decide_eq_true h
theorem memb_th {g e : Nat} (hg : g < 12) (he : e < 12) (h : memb V g e = true) : thV V e = true := by
  unfold thV; rw [memb_g he h]; exact decide_eq_true (nI_ne2 (by omega))
theorem memb_p {g p : Nat} (h : memb V g (12 + p) = true) : V.1 24 p = nI g := by
  unfold memb at h
  rw [if_neg (by omega), show 12 + p - 12 = p by omega] at h; exact of_decide_eq_true h
/-- no member of g stands above g -/
theorem no_loop (hO : OrdOK V n o) {g e : Nat} (hg : g < 12) (ht : thV V g = true) (he : e < 12) (h : memb V g e = true) : blw (pfV V) e g = false := by
  obtain ⟨rk, hk1, hk2⟩ := hO.rk
  have hlt : ∀ a b, a < 12 → thV V a = true → b < 12 → thV V b = true → memb V a b = true → rk a < rk b := fun a b ha hta hb htb hm => by
    obtain ⟨a1, a2⟩ := hk2 a ha hta
    obtain ⟨b1, b2⟩ := hk2 b hb htb
    exact memb_o hO a1 b1 (by rw [a2, b2]; exact hm)
  have hle : ∀ g, g < 12 → thV V g = true → ∀ r, blw (pfV V) r g = true → rk r ≤ rk g := hO.ind _ (fun r hr => by
      rw [hO.blw0] at hr
      rw [of_decide_eq_true hr]; exact Nat.le_refl _) (fun g u hg ht h0 hu htu e hpf ih r hr => by
      rw [hO.blwP hg ht hpf] at hr
      have hu' : rk u < rk g := hlt u g hu htu hg ht (by unfold memb; rw [if_pos hg]; exact decide_eq_true e)
      rcases Bool.or_eq_true _ _ ▸ hr with q | q
      · rw [of_decide_eq_true q]; exact Nat.le_refl _
      · have := ih r q; omega)
  cases c : blw (pfV V) e g
  · rfl
  · have h1 := hle g hg ht e c
    have h2 := hlt g e hg ht he (memb_th hg he h) h
    omega
/-- two members of g that stand above one seat are one -/
theorem sib (hO : OrdOK V n o) : ∀ y, y < 12 → thV V y = true → ∀ g e e', g < 12 → thV V g = true → e < 12 → e' < 12 → memb V g e = true → memb V g e' = true → blw (pfV V) e y = true → blw (pfV V) e' y = true → e = e' :=
  hO.ind _ (fun g e e' hg htg he he' m m' b b' => by
    rw [hO.blw0] at b
    rw [of_decide_eq_true b, memb_0 hO hg] at m; cases m) (fun y u hy hty h0 hu htu ey hpf ih g e e' hg htg he he' m m' b b' => by
    rw [hO.blwP hy hty hpf] at b b'
    have hyu : ∀ x, x < 12 → memb V g y = true → memb V g x = true → blw (pfV V) x u = true → False := fun x hx my mx bx => by
      have : nI u = nI g := by rw [← ey]; exact memb_g hy my
      have : u = g := (nI_eq (by omega) (by omega)).mp this
      rw [this, no_loop hO hg htg hx mx] at bx; cases bx
    rcases Bool.or_eq_true _ _ ▸ b with q | q
    · have q := of_decide_eq_true q
      rcases Bool.or_eq_true _ _ ▸ b' with q' | q'
      · rw [q, of_decide_eq_true q']
      · rw [q] at m; exact (hyu e' he' m m' q').elim
    · rcases Bool.or_eq_true _ _ ▸ b' with q' | q'
      · rw [of_decide_eq_true q'] at m'; exact (hyu e he m' m q).elim
      · exact ih g e e' hg htg he he' m m' q q')
/-- the way down from g begins with a member of g -/
theorem way (hO : OrdOK V n o) : ∀ y, y < 12 → thV V y = true → ∀ g, blw (pfV V) g y = true → g ≠ y → ∃ e, e < 12 ∧ memb V g e = true ∧ blw (pfV V) e y = true :=
  hO.ind _ (fun g b hne => by
    rw [hO.blw0] at b; exact absurd (of_decide_eq_true b) hne) (fun y u hy hty h0 hu htu ey hpf ih g b hne => by
    rw [hO.blwP hy hty hpf, decide_eq_false hne, Bool.false_or] at b
    by_cases e : g = u
    · subst e
      exact ⟨y, hy, by unfold memb; rw [if_pos hy]; exact decide_eq_true ey, blw_self hO.tree hy hty⟩
    · obtain ⟨e, h1, h2, h3⟩ := ih g b e
      exact ⟨e, h1, h2, by rw [hO.blwP hy hty hpf, h3, Bool.or_true]⟩)
theorem blw_up (hO : OrdOK V n o) : ∀ y, y < 12 → thV V y = true → ∀ g e, g < 12 → e < 12 → memb V g e = true → blw (pfV V) e y = true → blw (pfV V) g y = true :=
  hO.ind _ (fun g e hg he m b => by
    rw [hO.blw0] at b
    rw [of_decide_eq_true b, memb_0 hO hg] at m; cases m) (fun y u hy hty h0 hu htu ey hpf ih g e hg he m b => by
    rw [hO.blwP hy hty hpf] at b ⊢
    rcases Bool.or_eq_true _ _ ▸ b with q | q
    · rw [of_decide_eq_true q] at m
      have : nI u = nI g := by rw [← ey]; exact memb_g hy m
      have : u = g := (nI_eq (by omega) (by omega)).mp this
      rw [← this, blw_self hO.tree hu htu, Bool.or_true]
    · rw [ih g e hg he m q, Bool.or_true])
theorem aliv_seat (hH : HomOK V) {y : Nat} (hy : y < 28) (h : aliv V y = true) : seat V y < 12 ∧ thV V (seat V y) = true := by
  unfold aliv at h
  unfold seat
  by_cases h12 : y < 12
  · rw [if_pos h12] at h ⊢; exact ⟨h12, h⟩
  · rw [if_neg h12] at h ⊢
    obtain ⟨k1, k2, -⟩ := hH.at (show y - 12 < 16 by omega) h
    exact ⟨k1, k2⟩
theorem bel_at {g y : Nat} (h : bel V g y = true) : aliv V y = true ∧ blw (pfV V) g (seat V y) = true ∧ y ≠ g := by
  unfold bel at h
  simp only [Bool.and_eq_true, decide_eq_true_eq] at h
  exact ⟨h.1, h.2.1, h.2.2⟩
theorem bel_mk {g y : Nat} (h1 : aliv V y = true) (h2 : blw (pfV V) g (seat V y) = true) (h3 : y ≠ g) : bel V g y = true := by
  unfold bel; rw [h1, h2, decide_eq_true h3]; rfl
theorem memb_sp {g y : Nat} (hg : g < 12) (hy : y < 28) (h12 : ¬ y < 12) (h : memb V g y = true) : aliv V y = true ∧ seat V y = g := by
  obtain ⟨p, rfl⟩ : ∃ p, y = 12 + p := ⟨y - 12, by omega⟩
  have e := memb_p h
  unfold aliv seat hom phV
  rw [if_neg h12, if_neg h12, show 12 + p - 12 = p by omega, e]
  exact ⟨decide_eq_true (nI_ne1 (by omega)), nI_clamp (by omega)⟩
theorem bel_memb (hO : OrdOK V n o) {g y : Nat} (hg : g < 12) (ht : thV V g = true) (hy : y < 28) (h : memb V g y = true) : bel V g y = true := by
  by_cases h12 : y < 12
  · have hty := memb_th hg h12 h
    have ey := memb_g h12 h
    have hne : y ≠ g := fun e => by
      have := no_loop hO hg ht h12 h
      rw [e, blw_self hO.tree hg ht] at this; cases this
    have h0 : y ≠ 0 := fun e => by rw [e, memb_0 hO hg] at h; cases h
    obtain ⟨u, hu, htu, e, hpf⟩ := hO.par h12 hty h0
    have : u = g := (nI_eq (by omega) (by omega)).mp (by rw [← e]; exact ey)
    refine bel_mk (by unfold aliv; rw [if_pos h12]; exact hty) ?_ hne
    unfold seat
    rw [if_pos h12, hO.blwP h12 hty hpf, this, blw_self hO.tree hg ht, Bool.or_true]
  · obtain ⟨a1, a2⟩ := memb_sp hg hy h12 h
    exact bel_mk a1 (by rw [a2]; exact blw_self hO.tree hg ht) (by omega)
theorem bel_up (hO : OrdOK V n o) (hH : HomOK V) {g e y : Nat} (hg : g < 12) (ht : thV V g = true) (he : e < 12) (hy : y < 28) (hm : memb V g e = true) (h : bel V e y = true) : bel V g y = true := by
  obtain ⟨h1, h2, h3⟩ := bel_at h
  obtain ⟨s1, s2⟩ := aliv_seat hH hy h1
  refine bel_mk h1 (blw_up hO _ s1 s2 g e hg he hm h2) (fun e0 => ?_)
  subst e0
  have : seat V y = y := by unfold seat; rw [if_pos hg]
  rw [this, no_loop hO hg ht he hm] at h2; cases h2
theorem bel_dn (hO : OrdOK V n o) (hH : HomOK V) {g y : Nat} (hg : g < 12) (hy : y < 28) (h : bel V g y = true) : memb V g y = true ∨ ∃ e, e < 12 ∧ memb V g e = true ∧ bel V e y = true := by
  obtain ⟨h1, h2, h3⟩ := bel_at h
  obtain ⟨s1, s2⟩ := aliv_seat hH hy h1
  by_cases hs : g = seat V y
  · left
    by_cases h12 : y < 12
    · have : seat V y = y := by unfold seat; rw [if_pos h12]
      exact absurd (by rw [hs, this]) h3
    · unfold aliv at h1
      rw [if_neg h12] at h1
      obtain ⟨-, -, k3⟩ := hH.at (show y - 12 < 16 by omega) h1
      have e2 : seat V y = hom V (y - 12) := by unfold seat; rw [if_neg h12]
      unfold memb
      rw [if_neg h12, k3, hs, e2]; exact decide_eq_true rfl
  · obtain ⟨e, e1, e2, e3⟩ := way hO _ s1 s2 g h2 hs
    by_cases ey : y = e
    · left; rw [ey]; exact e2
    · exact Or.inr ⟨e, e1, e2, bel_mk h1 e3 ey⟩
theorem bel_not (hO : OrdOK V n o) {g e y : Nat} (hg : g < 12) (ht : thV V g = true) (he : e < 12) (hy : y < 28) (hm : memb V g e = true) (h : bel V e y = true) : memb V g y = false := by
  obtain ⟨h1, h2, h3⟩ := bel_at h
  cases c : memb V g y
  · rfl
  · by_cases h12 : y < 12
    · have hs : seat V y = y := by unfold seat; rw [if_pos h12]
      have hty := memb_th hg h12 c
      rw [hs] at h2
      exact absurd (sib hO y h12 hty g e y hg ht he h12 hm c h2 (blw_self hO.tree h12 hty)).symm h3
    · obtain ⟨a1, a2⟩ := memb_sp hg hy h12 c
      rw [a2, no_loop hO hg ht he hm] at h2; cases h2
theorem bel_sib (hO : OrdOK V n o) (hH : HomOK V) {g e e' y : Nat} (hg : g < 12) (ht : thV V g = true) (he : e < 12) (he' : e' < 12) (hy : y < 28) (hm : memb V g e = true) (hm' : memb V g e' = true) (h : bel V e y = true) (h' : bel V e' y = true) : e = e' := by
  obtain ⟨h1, h2, h3⟩ := bel_at h
  obtain ⟨-, h2', -⟩ := bel_at h'
  obtain ⟨s1, s2⟩ := aliv_seat hH hy h1
  exact sib hO _ s1 s2 g e e' hg ht he he' hm hm' h2 h2'
end BELOW
