/-! Int32 as Int -/
theorem ti_add {a b : Int32} (h1 : -2147483648 ≤ a.toInt + b.toInt) (h2 : a.toInt + b.toInt < 2147483648) : (a + b).toInt = a.toInt + b.toInt := by
  rw [Int32.toInt_add]; exact Int.bmod_eq_of_le (by omega) (by omega)
theorem ti_sub {a b : Int32} (h1 : -2147483648 ≤ a.toInt - b.toInt) (h2 : a.toInt - b.toInt < 2147483648) : (a - b).toInt = a.toInt - b.toInt := by
  rw [Int32.toInt_sub]; exact Int.bmod_eq_of_le (by omega) (by omega)
theorem ti_neg {a : Int32} (h1 : -2147483648 < a.toInt) : (-a).toInt = -a.toInt := by
  have h2 : a.toInt < 2147483648 := by have := Int32.toInt_lt a; omega
  rw [Int32.toInt_neg]; exact Int.bmod_eq_of_le (by omega) (by omega)
theorem ti_mul {a b : Int32} (h1 : -2147483648 ≤ a.toInt * b.toInt) (h2 : a.toInt * b.toInt < 2147483648) : (a * b).toInt = a.toInt * b.toInt := by
  rw [Int32.toInt_mul]; exact Int.bmod_eq_of_le (by omega) (by omega)
theorem ti_le {a b : Int32} : a ≤ b ↔ a.toInt ≤ b.toInt := Int32.le_iff_toInt_le
theorem ti_lt {a b : Int32} : a < b ↔ a.toInt < b.toInt := Int32.lt_iff_toInt_lt
theorem ti_0 : (0 : Int32).toInt = 0 := rfl
theorem ti_mn (a b : Int32) : (mnI a b).toInt = min a.toInt b.toInt := by
  unfold mnI
  by_cases h : b < a
  · rw [if_pos h]; have := ti_lt.mp h; omega
  · rw [if_neg h]; have := ti_le.mp (Int32.not_lt.mp h); omega
theorem ti_mx (a b : Int32) : (mxI a b).toInt = max a.toInt b.toInt := by
  unfold mxI
  by_cases h : a < b
  · rw [if_pos h]; have := ti_lt.mp h; omega
  · rw [if_neg h]; have := ti_le.mp (Int32.not_lt.mp h); omega
theorem le_mn {z a b : Int32} : z ≤ mnI a b ↔ z ≤ a ∧ z ≤ b := by
  rw [ti_le, ti_le, ti_le, ti_mn]; omega
theorem eq_of_le {x y : Int32} (h : ∀ z, z ≤ x ↔ z ≤ y) : x = y := Int32.le_antisymm ((h x).mp (Int32.le_refl _)) ((h y).mpr (Int32.le_refl _))
theorem smI_bd {f : Nat → Int32} {B : Nat} : ∀ (l : List Nat), (∀ x ∈ l, 0 ≤ (f x).toInt ∧ (f x).toInt ≤ B) → l.length * B < 2147483648 → 0 ≤ (smI l f).toInt ∧ (smI l f).toInt ≤ (l.length * B : Nat)
  | [], _, _ => by simp [smI]
  | x :: l, h, hb => by
    have hb' : l.length * B + B < 2147483648 := by rw [List.length_cons, Nat.succ_mul] at hb; exact hb
    obtain ⟨h1, h2⟩ := smI_bd l (fun y hy => h y (List.mem_cons_of_mem _ hy)) (by omega)
    obtain ⟨h3, h4⟩ := h x List.mem_cons_self
    rw [smI_cons, ti_add (by omega) (by omega), List.length_cons, Nat.succ_mul]
    omega
/-! shares -/
def lvc (lv : Nat) : Nat := if lv = 0 then 6 else 5
def clm (V : WV) (lv g : Nat) : Int32 := mnI (V.1 (lvc lv) g) (V.1 15 g)
def tog (V : WV) (lv g : Nat) : Int32 := smI (List.range 12) (fun c => if thV V c && decide (V.1 2 c = nI g) then clm V lv c else 0)
def shF (V : WV) (lv r : Nat) : Nat → Nat → Int32
  | 0, _ => 0
  | m + 1, g => match pfV V g with
    | none => 0
    | some u => if u = r then clm V lv g else if tog V lv u ≤ shF V lv r m u ∨ tog V lv u ≤ 0 then clm V lv g else clm V lv g * shF V lv r m u / tog V lv u
def shr (V : WV) (lv r g : Nat) : Int32 := shF V lv r 12 g
/-- limits and totals are numbers that can be -/
def LimOK (V : WV) : Prop := ∀ g, g < 12 → thV V g = true → (0 ≤ (V.1 5 g).toInt ∧ (V.1 5 g).toInt ≤ 999) ∧ (0 ≤ (V.1 6 g).toInt ∧ (V.1 6 g).toInt ≤ 999) ∧ 0 ≤ (V.1 15 g).toInt
section SHARE
variable {V : WV} {n : Nat} {o : Nat → Nat}
theorem shF_st {lv r : Nat} {rk : Nat → Nat} (h : Ranked (thV V) (pfV V) rk) : ∀ (m k g : Nat), g < 12 → thV V g = true → rk g < m → rk g < k → shF V lv r m g = shF V lv r k g
  | 0, _, _, _, _, h1, _ => absurd h1 (Nat.not_lt_zero _)
  | _, 0, _, _, _, _, h2 => absurd h2 (Nat.not_lt_zero _)
  | m + 1, k + 1, g, hg, ht, h1, h2 => by
    by_cases e : g = 0
    · subst e
      simp [shF, h.2.1]
    · obtain ⟨q, hq, hq1, hq2, hq3⟩ := h.2.2.2 g hg ht e
      simp only [shF, hq]
      rw [shF_st h m k q hq1 hq2 (by omega) (by omega)]
theorem shr_eq (hO : OrdOK V n o) {lv r g u : Nat} (hg : g < 12) (ht : thV V g = true) (hu : pfV V g = some u) : shr V lv r g = if u = r then clm V lv g else if tog V lv u ≤ shr V lv r u ∨ tog V lv u ≤ 0 then clm V lv g else clm V lv g * shr V lv r u / tog V lv u := by
  obtain ⟨rk, -, h⟩ := hO.rank
  have e : g ≠ 0 := by
    intro e; subst e
    rw [h.2.1] at hu; cases hu
  obtain ⟨q, hq, hq1, hq2, hq3⟩ := h.2.2.2 g hg ht e
  rw [hq] at hu
  have hqu : q = u := Option.some.inj hu
  subst hqu
  have h12 := h.2.2.1 g hg
  have e1 : shF V lv r 12 g = if q = r then clm V lv g else if tog V lv q ≤ shF V lv r 11 q ∨ tog V lv q ≤ 0 then clm V lv g else clm V lv g * shF V lv r 11 q / tog V lv q := by
    show shF V lv r (11 + 1) g = _
    simp only [shF, hq]
  unfold shr
  rw [e1, shF_st h 11 12 q hq1 hq2 (by omega) (by omega)]
theorem clm_bd (hL : LimOK V) {lv g : Nat} (hg : g < 12) (ht : thV V g = true) : 0 ≤ (clm V lv g).toInt ∧ (clm V lv g).toInt ≤ 999 := by
  obtain ⟨h1, h2, h3⟩ := hL g hg ht
  unfold clm lvc
  rw [ti_mn]
  by_cases e : lv = 0
  · rw [if_pos e]; omega
  · rw [if_neg e]; omega
theorem tog_bd (hL : LimOK V) {lv g : Nat} : 0 ≤ (tog V lv g).toInt ∧ (tog V lv g).toInt ≤ 11988 := by
  have := smI_bd (f := fun c => if thV V c && decide (V.1 2 c = nI g) then clm V lv c else 0) (B := 999) (List.range 12) (fun x hx => by
    have hx := List.mem_range.mp hx
    by_cases h : (thV V x && decide (V.1 2 x = nI g)) = true
    · simp only [h, if_true]
      exact clm_bd hL hx (Bool.and_eq_true_iff.mp h).1
    · rw [if_neg h, ti_0]; omega) (by rw [List.length_range]; omega)
  rw [List.length_range] at this
  exact this
theorem share_bd {a s t : Int32} (ha : 0 ≤ a.toInt ∧ a.toInt ≤ 999) (hs : 0 ≤ s.toInt ∧ s.toInt ≤ 999) (hst : s.toInt < t.toInt) : 0 ≤ (a * s / t).toInt ∧ (a * s / t).toInt ≤ 999 := by
  have hp : 0 ≤ a.toInt * s.toInt := Int.mul_nonneg ha.1 hs.1
  have hp2 : a.toInt * s.toInt ≤ 999 * 999 := Int.mul_le_mul ha.2 hs.2 hs.1 (by decide)
  have ht1 : t ≠ -1 := by
    intro e; subst e
    have : (-1 : Int32).toInt = -1 := rfl
    omega
  rw [Int32.toInt_div_of_ne_right _ _ ht1, ti_mul (by omega) (by omega), Int.tdiv_eq_ediv_of_nonneg hp]
  refine ⟨Int.ediv_nonneg hp (by omega), ?_⟩
  have h1 : a.toInt * s.toInt ≤ a.toInt * t.toInt := Int.mul_le_mul_of_nonneg_left (by omega) ha.1
  have h2 : a.toInt * s.toInt / t.toInt ≤ a.toInt := Int.ediv_le_of_le_mul (by omega) h1
  omega
theorem shr_bd (hO : OrdOK V n o) (hL : LimOK V) {lv r : Nat} {rk : Nat → Nat} (h : Ranked (thV V) (pfV V) rk) : ∀ (m g : Nat), rk g < m → g < 12 → thV V g = true → 0 ≤ (shr V lv r g).toInt ∧ (shr V lv r g).toInt ≤ 999
  | 0, _, h1, _, _ => absurd h1 (Nat.not_lt_zero _)
  | m + 1, g, h1, hg, ht => by
    by_cases e : g = 0
    · subst e
      have : shr V lv r 0 = 0 := by
        show shF V lv r (11 + 1) 0 = 0
        simp [shF, h.2.1]
      rw [this]; decide
    · obtain ⟨q, hq, hq1, hq2, hq3⟩ := h.2.2.2 g hg ht e
      have ih := shr_bd hO hL h m q (by omega) hq1 hq2 (lv := lv) (r := r)
      rw [shr_eq hO hg ht hq]
      split
      · exact clm_bd hL hg ht
      · split
        · exact clm_bd hL hg ht
        · rename_i hn
          have h2 : (shr V lv r q).toInt < (tog V lv q).toInt := by
            exact Int.not_le.mp (fun z => hn (Or.inl (ti_le.mpr z)))
          exact share_bd (clm_bd hL hg ht) ih h2
theorem shr_nn (hO : OrdOK V n o) (hL : LimOK V) {lv r g : Nat} (hg : g < 12) (ht : thV V g = true) : 0 ≤ (shr V lv r g).toInt ∧ (shr V lv r g).toInt ≤ 999 := by
  obtain ⟨rk, -, h⟩ := hO.rank
  exact shr_bd hO hL h _ g (Nat.lt_succ_self _) hg ht
/-- how much of a kind can be taken of a group -/
def sprF (V : WV) (lv r k g : Nat) : Int32 :=
  let a := (pth (pfV V) g).foldl (fun a x => if blw (pfV V) r x && decide (x ≠ r) then mnI a (V.1 15 x - shr V lv r x) else a) (if k = 0 then mnI (pgIn V (nI g) k) (V.1 0 5 - V.1 16 0) else pgIn V (nI g) k)
  if k = 0 then (pth (pfV V) g).foldl (fun a x => mnI a (mxI 0 (V.1 10 x - V.1 16 x))) a else a
def SprLe (V : WV) (lv r k g : Nat) (z : Int32) : Prop := z ≤ pgIn V (nI g) k ∧ (∀ x ∈ pth (pfV V) g, blw (pfV V) r x = true → x ≠ r → z ≤ V.1 15 x - shr V lv r x) ∧ (k = 0 → z ≤ V.1 0 5 - V.1 16 0 ∧ ∀ x ∈ pth (pfV V) g, z ≤ mxI 0 (V.1 10 x - V.1 16 x))
theorem fold_mn {q : Nat → Bool} {f : Nat → Int32} {z : Int32} : ∀ (l : List Nat) (a : Int32), z ≤ l.foldl (fun a x => if q x then mnI a (f x) else a) a ↔ z ≤ a ∧ ∀ x ∈ l, q x = true → z ≤ f x
  | [], a => by simp
  | x :: l, a => by
    rw [List.foldl_cons, fold_mn l]
    cases h : q x
    · simp [h]
    · simp only [if_true, le_mn, List.forall_mem_cons, h, true_imp_iff, and_assoc]
theorem sprF_le {lv r k g : Nat} {z : Int32} : z ≤ sprF V lv r k g ↔ SprLe V lv r k g z := by
  unfold sprF SprLe
  by_cases hk : k = 0
  · subst hk
    simp only [if_true]
    have h1 := fold_mn (q := fun _ => true) (f := fun x => mxI 0 (V.1 10 x - V.1 16 x)) (z := z) (pth (pfV V) g) ((pth (pfV V) g).foldl (fun a x => if blw (pfV V) r x && decide (x ≠ r) then mnI a (V.1 15 x - shr V lv r x) else a) (mnI (pgIn V (nI g) 0) (V.1 0 5 - V.1 16 0)))
    simp only [if_true, true_imp_iff] at h1
    rw [h1, fold_mn, le_mn]
    simp only [Bool.and_eq_true, decide_eq_true_eq, and_imp]
    constructor
    · rintro ⟨⟨⟨a, c⟩, d⟩, e⟩; exact ⟨a, d, fun _ => ⟨c, e⟩⟩
    · rintro ⟨a, d, e⟩; exact ⟨⟨⟨a, (e trivial).1⟩, d⟩, (e trivial).2⟩
  · simp only [if_neg hk]
    rw [fold_mn]
    simp only [Bool.and_eq_true, decide_eq_true_eq, and_imp]
    constructor
    · rintro ⟨a, d⟩; exact ⟨a, d, fun e => absurd e hk⟩
    · rintro ⟨a, d, -⟩; exact ⟨a, d⟩
def nxtF (V : WV) (lv r k : Nat) : Int32 × Int32 := richF (fun g => thV V g && blw (pfV V) r g) (sprF V lv r k) (List.range 12)
end SHARE
