/-! ===== Int32 by its bits: bt x i ===== -/
def bt (x : Int32) (i : Nat) : Bool := x.toBitVec.getLsbD i
theorem b_ext {x y : Int32} (h : ∀ i, i < 32 → bt x i = bt y i) : x = y := Int32.toBitVec_inj.mp (BitVec.eq_of_getLsbD_eq (fun i hi => h i hi))
theorem b_or (x y : Int32) (i : Nat) : bt (x ||| y) i = (bt x i || bt y i) := by unfold bt; rw [Int32.toBitVec_or, BitVec.getLsbD_or]
theorem b_and (x y : Int32) (i : Nat) : bt (x &&& y) i = (bt x i && bt y i) := by unfold bt; rw [Int32.toBitVec_and, BitVec.getLsbD_and]
theorem b_xor (x y : Int32) (i : Nat) : bt (x ^^^ y) i = (bt x i ^^ bt y i) := by unfold bt; rw [Int32.toBitVec_xor, BitVec.getLsbD_xor]
theorem b_big {x : Int32} {i : Nat} (h : 32 ≤ i) : bt x i = false := BitVec.getLsbD_of_ge _ _ h
theorem b_255 (i : Nat) : bt 255 i = decide (i < 8) := by
  rcases Nat.lt_or_ge i 32 with h | h
  · exact (by decide +kernel : ∀ i, i < 32 → bt 255 i = decide (i < 8)) i h
  · rw [b_big h, decide_eq_false (by omega)]
theorem b_65535 (i : Nat) : bt 65535 i = decide (i < 16) := by
  rcases Nat.lt_or_ge i 32 with h | h
  · exact (by decide +kernel : ∀ i, i < 32 → bt 65535 i = decide (i < 16)) i h
  · rw [b_big h, decide_eq_false (by omega)]
theorem b_m1 : ∀ i, i < 32 → bt (-1) i = true := by decide +kernel
theorem b_0 (i : Nat) : bt 0 i = false := BitVec.getLsbD_zero
theorem s_l : ∀ n, n < 32 → ((nI n &&& 31).toBitVec.smod 32).toNat = n := by decide +kernel
theorem s_u : ∀ n, n < 32 → (((nI n).toUInt32 &&& Int32.toUInt32 31).toBitVec % 32).toNat = n := by decide +kernel
theorem b_shl (n : Nat) (hn : n < 32) (x : Int32) {i : Nat} (hi : i < 32) : bt (x <<< (nI n &&& 31)) i = (decide (n ≤ i) && bt x (i - n)) := by
  unfold bt
  rw [Int32.toBitVec_shiftLeft]
  show (x.toBitVec <<< ((nI n &&& 31).toBitVec.smod 32).toNat).getLsbD i = _
  rw [s_l n hn, BitVec.getLsbD_shiftLeft]
  rcases Nat.lt_or_ge i n with h | h
  · simp [h, Nat.not_le.mpr h]
  · simp [hi, h, Nat.not_lt.mpr h]
theorem b_ushr (n : Nat) (hn : n < 32) (x : Int32) (i : Nat) : bt ((x.toUInt32 >>> ((nI n).toUInt32 &&& Int32.toUInt32 31)).toInt32) i = bt x (n + i) := by
  show (x.toUInt32 >>> ((nI n).toUInt32 &&& Int32.toUInt32 31)).toBitVec.getLsbD i = x.toUInt32.toBitVec.getLsbD (n + i)
  rw [UInt32.toBitVec_shiftRight]
  show (x.toUInt32.toBitVec >>> (((nI n).toUInt32 &&& Int32.toUInt32 31).toBitVec % 32).toNat).getLsbD i = _
  rw [s_u n hn, BitVec.getLsbD_ushiftRight]
theorem b_sshr (n : Nat) (hn : n < 32) (x : Int32) {i : Nat} (hi : i < 32) : bt (x >>> (nI n &&& 31)) i = if n + i < 32 then bt x (n + i) else bt x 31 := by
  unfold bt
  rw [Int32.toBitVec_shiftRight]
  show (x.toBitVec.sshiftRight ((nI n &&& 31).toBitVec.smod 32).toNat).getLsbD i = _
  rw [s_l n hn, BitVec.getLsbD_sshiftRight, BitVec.msb_eq_getLsbD_last]
  simp [hi]
theorem b_shl8 (x : Int32) {i : Nat} (hi : i < 32) : bt (x <<< ((8 : Int32) &&& 31)) i = (decide (8 ≤ i) && bt x (i - 8)) := b_shl 8 (by omega) x hi
theorem b_shl16 (x : Int32) {i : Nat} (hi : i < 32) : bt (x <<< ((16 : Int32) &&& 31)) i = (decide (16 ≤ i) && bt x (i - 16)) := b_shl 16 (by omega) x hi
theorem b_shl24 (x : Int32) {i : Nat} (hi : i < 32) : bt (x <<< ((24 : Int32) &&& 31)) i = (decide (24 ≤ i) && bt x (i - 24)) := b_shl 24 (by omega) x hi
theorem b_sshr8 (x : Int32) {i : Nat} (hi : i < 32) : bt (x >>> ((8 : Int32) &&& 31)) i = if 8 + i < 32 then bt x (8 + i) else bt x 31 := b_sshr 8 (by omega) x hi
theorem b_1 : ∀ i, i < 32 → bt 1 i = decide (i = 0) := by decide +kernel
theorem bt_one {k i : Nat} (hk : k < 32) (hi : i < 32) : bt ((1 : Int32) <<< (nI k &&& 31)) i = decide (i = k) := by
  rw [b_shl k hk 1 hi]
  by_cases h : k ≤ i
  · rw [b_1 (i - k) (by omega)]
    by_cases e : i = k
    · simp [e]
    · simp [e, h]; omega
  · have e : i ≠ k := by omega
    simp [h, e]
theorem bit_iff {x : Int32} {k : Nat} (hk : k < 31) : ((x >>> (nI k &&& 31)) &&& 1 = 1) ↔ bt x k = true := by
  constructor
  · intro h
    have := congrArg (fun z => bt z 0) h
    simp only [b_and, b_sshr k (by omega) x (show 0 < 32 by decide), b_1 0 (by decide)] at this
    simpa [show k < 32 by omega] using this
  · intro h
    apply b_ext
    intro i hi
    rw [b_and, b_1 i hi]
    by_cases e : i = 0
    · subst e
      rw [b_sshr k (by omega) x (by decide)]
      simp [show k < 32 by omega, h]
    · simp [e]
theorem bit_no {x : Int32} {k : Nat} (hk : k < 31) : ((x >>> (nI k &&& 31)) &&& 1 = 0) ↔ bt x k = false := by
  constructor
  · intro h
    cases hb : bt x k with
    | false => rfl
    | true => rw [(bit_iff hk).mpr hb] at h; exact absurd h (by decide)
  · intro h
    apply b_ext
    intro i hi
    rw [b_and, b_1 i hi, b_0]
    by_cases e : i = 0
    · subst e
      rw [b_sshr k (by omega) x (by decide)]
      simp [show k < 32 by omega, h]
    · simp [e]
/-- a set of numbers below n as bits -/
def mkB (n : Nat) (f : Nat → Bool) : Int32 := (List.range n).foldl (fun a g => a ||| (if f g then 1 <<< (nI g &&& 31) else 0)) 0
theorem bt_foldB {f : Nat → Bool} {i : Nat} (hi : i < 32) : ∀ (l : List Nat) (a : Int32), (∀ x ∈ l, x < 32) → bt (l.foldl (fun a g => a ||| (if f g then 1 <<< (nI g &&& 31) else 0)) a) i = (bt a i || (decide (i ∈ l) && f i))
  | [], a, _ => by simp
  | x :: l, a, hl => by
    rw [List.foldl_cons, bt_foldB hi l _ (fun y hy => hl y (List.mem_cons_of_mem _ hy)), b_or]
    have hx : x < 32 := hl x List.mem_cons_self
    by_cases e : i = x
    · subst e
      cases hf : f i
      · simp [b_0]
      · simp [bt_one hi hi]
    · have : bt (if f x then (1 : Int32) <<< (nI x &&& 31) else 0) i = false := by
        cases hf : f x
        · simp [b_0]
        · simp [bt_one hx hi, e]
      rw [this]
      simp [e]
theorem bt_mkB {n : Nat} {f : Nat → Bool} {i : Nat} (hn : n ≤ 32) (hi : i < 32) : bt (mkB n f) i = (decide (i < n) && f i) := by
  unfold mkB
  rw [bt_foldB hi _ _ (fun x hx => by have := List.mem_range.mp hx; omega), b_0]
  simp
theorem mkB_eq {n : Nat} {f : Nat → Bool} {x : Int32} (hn : n ≤ 32) (h : ∀ i, i < 32 → bt x i = (decide (i < n) && f i)) : x = mkB n f := b_ext fun i hi => by rw [h i hi, bt_mkB hn hi]
theorem mkB_cong {n : Nat} {f g : Nat → Bool} (hn : n ≤ 32) (h : ∀ i, i < n → f i = g i) : mkB n f = mkB n g := b_ext fun i hi => by
  rw [bt_mkB hn hi, bt_mkB hn hi]
  by_cases e : i < n
  · rw [h i e]
  · simp [e]
/-! loops -/
/-- a counter from i to N, with an invariant -/
theorem loop_cnt {σ ρ α : Type} {st : σ → Option (σ ⊕ ρ)} (e : Nat → α → σ) (f : α → Nat → α) (fin : α → ρ) (I : Nat → α → Prop) (N : Nat) (hs : ∀ i a, i < N → I i a → st (e i a) = some (.inl (e (i + 1) (f a i))) ∧ I (i + 1) (f a i)) (hx : ∀ a, I N a → st (e N a) = some (.inr (fin a))) :
    ∀ (d i n : Nat) (a : α), i + d = N → d < n → I i a → loopF st n (e i a) = some (fin ((List.range' i d).foldl f a)) ∧ I N ((List.range' i d).foldl f a)
  | 0, i, n, a, hi, hn, ha => by
    obtain ⟨n, rfl⟩ : ∃ k, n = k + 1 := ⟨n - 1, by omega⟩
    have e1 : i = N := by omega
    subst e1
    simp only [loopF, hx a ha, Option.bind_some, List.range'_zero, List.foldl_nil]
    exact ⟨trivial, ha⟩
  | d + 1, i, n, a, hi, hn, ha => by
    obtain ⟨n, rfl⟩ : ∃ k, n = k + 1 := ⟨n - 1, by omega⟩
    obtain ⟨h1, h2⟩ := hs i a (by omega) ha
    have ih := loop_cnt e f fin I N hs hx d (i + 1) n (f a i) (by omega) (by omega) h2
    simp only [loopF, h1, Option.bind_some, List.range'_succ, List.foldl_cons]
    exact ih
theorem loop_rng {σ ρ α : Type} {st : σ → Option (σ ⊕ ρ)} (e : Nat → α → σ) (f : α → Nat → α) (fin : α → ρ) (N : Nat) (hs : ∀ i a, i < N → st (e i a) = some (.inl (e (i + 1) (f a i)))) (hx : ∀ a, st (e N a) = some (.inr (fin a))) {n : Nat} (hn : N < n) (a : α) : loopF st n (e 0 a) = some (fin ((List.range N).foldl f a)) := by
  have h := (loop_cnt e f fin (fun _ _ => True) N (fun i a hi _ => ⟨hs i a hi, trivial⟩) (fun a _ => hx a) N 0 n a (by omega) hn trivial).1
  rw [← List.range_eq_range'] at h
  exact h
/-- along a list -/
theorem loop_list {σ ρ α : Type} {st : σ → Option (σ ⊕ ρ)} (e : List Nat → α → σ) (f : α → Nat → α) (fin : α → ρ) (J : List Nat → α → Prop) (hs : ∀ x l a, J (x :: l) a → st (e (x :: l) a) = some (.inl (e l (f a x))) ∧ J l (f a x)) (hx : ∀ a, J [] a → st (e [] a) = some (.inr (fin a))) :
    ∀ (l : List Nat) (n : Nat) (a : α), l.length < n → J l a → loopF st n (e l a) = some (fin (l.foldl f a)) ∧ J [] (l.foldl f a)
  | [], n, a, hn, ha => by
    obtain ⟨n, rfl⟩ : ∃ k, n = k + 1 := ⟨n - 1, by simp at hn; omega⟩
    simp only [loopF, hx a ha, Option.bind_some, List.foldl_nil]
    exact ⟨trivial, ha⟩
  | x :: l, n, a, hn, ha => by
    obtain ⟨n, rfl⟩ : ∃ k, n = k + 1 := ⟨n - 1, by simp at hn; omega⟩
    obtain ⟨h1, h2⟩ := hs x l a ha
    have ih := loop_list e f fin J hs hx l n (f a x) (by simp at hn; omega) h2
    simp only [loopF, h1, Option.bind_some, List.foldl_cons]
    exact ih
/-- a counter with a way out: the first i at which the body ends -/
theorem loop_first {σ ρ : Type} {st : σ → Option (σ ⊕ ρ)} (e : Nat → σ) (g : Nat → Option ρ) (r : ρ) (N : Nat) (hs : ∀ i, i < N → st (e i) = match g i with | none => some (.inl (e (i + 1))) | some r => some (.inr r)) (hx : st (e N) = some (.inr r)) :
    ∀ (d i n : Nat), i + d = N → d < n → loopF st n (e i) = some ((((List.range' i d).findSome? g)).getD r)
  | 0, i, n, hi, hn => by
    obtain ⟨n, rfl⟩ : ∃ k, n = k + 1 := ⟨n - 1, by omega⟩
    have e1 : i = N := by omega
    subst e1
    simp [loopF, hx]
  | d + 1, i, n, hi, hn => by
    obtain ⟨n, rfl⟩ : ∃ k, n = k + 1 := ⟨n - 1, by omega⟩
    have h1 := hs i (by omega)
    have ih := loop_first e g r N hs hx d (i + 1) n (by omega) (by omega)
    cases hg : g i with
    | none =>
      rw [hg] at h1
      simp only [loopF, h1, Option.bind_some, List.range'_succ, List.findSome?_cons, hg]
      exact ih
    | some q =>
      rw [hg] at h1
      simp [loopF, h1, List.range'_succ, List.findSome?_cons, hg]
/-! trees: who is there, whose parent is whose -/
def up (pf : Nat → Option Nat) : Nat → Nat → List Nat
  | 0, _ => []
  | n + 1, g => g :: (match pf g with
    | none => []
    | some q => up pf n q)
def Ranked (th : Nat → Bool) (pf : Nat → Option Nat) (rk : Nat → Nat) : Prop := th 0 = true ∧ pf 0 = none ∧ (∀ g, g < 12 → rk g < 12) ∧ ∀ g, g < 12 → th g = true → g ≠ 0 → ∃ q, pf g = some q ∧ q < 12 ∧ th q = true ∧ rk q < rk g
def TreeOK (th : Nat → Bool) (pf : Nat → Option Nat) : Prop := ∃ rk, Ranked th pf rk
/-- the path of a group, it first, the root last -/
def pth (pf : Nat → Option Nat) (g : Nat) : List Nat := up pf 12 g
theorem up_st {th : Nat → Bool} {pf : Nat → Option Nat} {rk : Nat → Nat} (h : Ranked th pf rk) : ∀ (n m g : Nat), g < 12 → th g = true → rk g < n → rk g < m → up pf n g = up pf m g
  | 0, _, _, _, _, h1, _ => absurd h1 (Nat.not_lt_zero _)
  | _, 0, _, _, _, _, h2 => absurd h2 (Nat.not_lt_zero _)
  | n + 1, m + 1, g, hg, ht, h1, h2 => by
    by_cases e : g = 0
    · subst e
      simp [up, h.2.1]
    · obtain ⟨q, hq, hq1, hq2, hq3⟩ := h.2.2.2 g hg ht e
      simp only [up, hq]
      rw [up_st h n m q hq1 hq2 (by omega) (by omega)]
theorem pth_cons {th : Nat → Bool} {pf : Nat → Option Nat} (h : TreeOK th pf) {g : Nat} (hg : g < 12) (ht : th g = true) : pth pf g = g :: (match pf g with | none => [] | some q => pth pf q) := by
  obtain ⟨rk, h⟩ := h
  by_cases e : g = 0
  · subst e
    simp [pth, up, h.2.1]
  · obtain ⟨q, hq, hq1, hq2, hq3⟩ := h.2.2.2 g hg ht e
    have := h.2.2.1 g hg
    have e12 : up pf 12 g = g :: (match pf g with | none => [] | some q => up pf 11 q) := rfl
    show up pf 12 g = _
    rw [e12, hq]
    show g :: up pf 11 q = g :: up pf 12 q
    rw [up_st h 11 12 q hq1 hq2 (by omega) (by omega)]
theorem pth_0 {th : Nat → Bool} {pf : Nat → Option Nat} (h : TreeOK th pf) : pth pf 0 = [0] := by
  obtain ⟨rk, h⟩ := h
  simp [pth, up, h.2.1]
theorem up_len (pf : Nat → Option Nat) : ∀ n g, (up pf n g).length ≤ n
  | 0, _ => Nat.le_refl _
  | n + 1, g => by
    simp only [up, List.length_cons]
    cases hq : pf g with
    | none => simp
    | some q => have := up_len pf n q; simpa using this
theorem pth_len (pf : Nat → Option Nat) (g : Nat) : (pth pf g).length ≤ 12 := up_len pf 12 g
/-- whoever is in a path is there, and its own path is the rest of it -/
theorem pth_mem {th : Nat → Bool} {pf : Nat → Option Nat} (h : TreeOK th pf) : ∀ (n g : Nat), (pth pf g).length ≤ n → g < 12 → th g = true → ∀ r ∈ pth pf g, r < 12 ∧ th r = true ∧ ∃ a, pth pf g = a ++ pth pf r
  | 0, g, hn, hg, ht, r, hr => by
    rw [pth_cons h hg ht] at hn
    simp at hn
  | n + 1, g, hn, hg, ht, r, hr => by
    have hc := pth_cons h hg ht
    rw [hc] at hr
    rcases List.mem_cons.mp hr with rfl | hr
    · exact ⟨hg, ht, [], rfl⟩
    · by_cases e : g = 0
      · subst e
        obtain ⟨rk, hk⟩ := h
        rw [hk.2.1] at hr
        cases hr
      · obtain ⟨rk, hk⟩ := id h
        obtain ⟨q, hq, hq1, hq2, hq3⟩ := hk.2.2.2 g hg ht e
        rw [hq] at hr
        have hl : (pth pf q).length ≤ n := by
          rw [hc, hq] at hn
          simpa using hn
        obtain ⟨a1, a2, a, a3⟩ := pth_mem h n q hl hq1 hq2 r hr
        exact ⟨a1, a2, g :: a, by rw [hc, hq]; simp [a3]⟩
/-! sums -/
def smI (l : List Nat) (f : Nat → Int32) : Int32 := l.foldr (fun i a => f i + a) 0
theorem smI_nil (f : Nat → Int32) : smI [] f = 0 := rfl
theorem smI_cons (x : Nat) (l : List Nat) (f : Nat → Int32) : smI (x :: l) f = f x + smI l f := rfl
theorem foldl_sm (f : Nat → Int32) : ∀ (l : List Nat) (s : Int32), l.foldl (fun a i => a + f i) s = s + smI l f
  | [], s => by simp [smI]
  | x :: l, s => by
    rw [List.foldl_cons, foldl_sm f l, smI_cons, Int32.add_assoc]
theorem smI_cong {f g : Nat → Int32} : ∀ {l : List Nat}, (∀ x ∈ l, f x = g x) → smI l f = smI l g
  | [], _ => rfl
  | x :: l, h => by
    rw [smI_cons, smI_cons, h x List.mem_cons_self, smI_cong (fun y hy => h y (List.mem_cons_of_mem _ hy))]
theorem smI_add (f g : Nat → Int32) : ∀ l : List Nat, smI l (fun x => f x + g x) = smI l f + smI l g
  | [] => by simp [smI]
  | x :: l => by
    rw [smI_cons, smI_cons, smI_cons, smI_add f g l]
    simp only [Int32.add_assoc]
    congr 1
    rw [← Int32.add_assoc, Int32.add_comm (g x), Int32.add_assoc]
theorem smI_zero : ∀ l : List Nat, smI l (fun _ => 0) = 0
  | [] => rfl
  | x :: l => by rw [smI_cons, smI_zero l]; simp
theorem smI_one {i : Nat} {d : Int32} : ∀ {l : List Nat}, l.Nodup → smI l (fun x => if x = i then d else 0) = if i ∈ l then d else 0
  | [], _ => by simp [smI]
  | x :: l, h => by
    obtain ⟨h1, h2⟩ := List.nodup_cons.mp h
    rw [smI_cons, smI_one h2]
    by_cases e : x = i
    · subst e
      simp [h1]
    · by_cases m : i ∈ l
      · simp [e, m]
      · simp [e, m, Ne.symm e]
