/-- the words of the tables that every method takes along -/
def GW : List Cond := lw_tbl.filter goodWord
theorem gw_mem {w : Cond} (i : Nat) (h : lw_tbl[i]? = some w) (g : goodWord w = true) : w ∈ GW := List.mem_filter.mpr ⟨List.mem_of_getElem? h, g⟩
/-! the heap of a walk: how many cells, the kind and length of each, ints, longs, references by address and place -/
abbrev Hp : Type := Nat × (Nat → Nat × Nat) × (Nat → Nat → Int32) × (Nat → Nat → Int64) × (Nat → Nat → Option Nat)
def mN (h : Hp) : Nat := h.1
def mT (h : Hp) : Nat → Nat × Nat := h.2.1
def mX (h : Hp) : Nat → Nat → Int32 := h.2.2.1
def mY (h : Hp) : Nat → Nat → Int64 := h.2.2.2.1
def mZ (h : Hp) : Nat → Nat → Option Nat := h.2.2.2.2
def msX (h : Hp) (a : Nat) (g : Nat → Int32) : Hp := (h.1, h.2.1, va_up h.2.2.1 a g, h.2.2.2.1, h.2.2.2.2)
def msY (h : Hp) (a : Nat) (g : Nat → Int64) : Hp := (h.1, h.2.1, h.2.2.1, va_up h.2.2.2.1 a g, h.2.2.2.2)
def msZ (h : Hp) (a : Nat) (g : Nat → Option Nat) : Hp := (h.1, h.2.1, h.2.2.1, h.2.2.2.1, va_up h.2.2.2.2 a g)
def mal (h : Hp) (t : Nat × Nat) (z : Nat → Option Nat) : Hp := (h.1 + 1, va_up h.2.1 h.1 t, va_up h.2.2.1 h.1 (fun _ => 0), va_up h.2.2.2.1 h.1 (fun _ => 0), va_up h.2.2.2.2 h.1 z)
/-- the fields of the classes, in the order of the slots: an int, or a reference -/
def kd : Nat → List Bool
  | 0 => [false, false, false, false, false, false, false]
  | 1 => [false, false, false]
  | 2 => [false, false]
  | 3 => [false]
  | 4 => [true, true, false]
  | 5 => [false, false, false, false, false, false]
  | 6 => [false, false, true, false, false, false, false, false, false]
  | 7 => [false, false, false, false, true]
  | 8 => [false, false, false, false, true, true, true, true]
  | 9 => [false, false, false, false, false, false, false]
  | 10 => [true, false, false, false, false, false, false, false, true, false, false, false, false, false, false, false, false, false, false, false, true]
  | _ => []
def okT (h : Hp) (a t : Nat) : Bool := decide (a < mN h) && decide ((mT h a).1 = t)
def inb (i : Int32) (n : Nat) : Bool := decide (¬ i < 0) && decide (i.toNatClampNeg < n)
def gI (h : Hp) (a t k : Nat) : Option Int32 := if okT h a t then some (mX h a k) else none
def gR (h : Hp) (a t k : Nat) : Option Nat := if okT h a t then mZ h a k else none
def pI (h : Hp) (a t k : Nat) (x : Int32) : Option Hp := if okT h a t then some (msX h a (upd (mX h a) k x)) else none
def pR (h : Hp) (a t k : Nat) (x : Nat) : Option Hp := if okT h a t then some (msZ h a (va_up (mZ h a) k (some x))) else none
def aI (h : Hp) (a : Nat) (i : Int32) : Option Int32 := if okT h a 11 && inb i (mT h a).2 then some (mX h a i.toNatClampNeg) else none
def aJ (h : Hp) (a : Nat) (i : Int32) : Option Int64 := if okT h a 12 && inb i (mT h a).2 then some (mY h a i.toNatClampNeg) else none
def aB (h : Hp) (a : Nat) (i : Int32) : Option Int32 := if okT h a 13 && inb i (mT h a).2 then some (mX h a i.toNatClampNeg) else none
def aR (h : Hp) (a t : Nat) (i : Int32) : Option Nat := if okT h a t && inb i (mT h a).2 then mZ h a i.toNatClampNeg else none
def aQ (h : Hp) (a t : Nat) (i : Int32) : Option (Option Nat) := if okT h a t && inb i (mT h a).2 then some (mZ h a i.toNatClampNeg) else none
def sI (h : Hp) (a : Nat) (i x : Int32) : Option Hp := if okT h a 11 && inb i (mT h a).2 then some (msX h a (upd (mX h a) i.toNatClampNeg x)) else none
def sB (h : Hp) (a : Nat) (i x : Int32) : Option Hp := if okT h a 13 && inb i (mT h a).2 then some (msX h a (upd (mX h a) i.toNatClampNeg (vp_nar .boolean x))) else none
def sJ (h : Hp) (a : Nat) (i : Int32) (x : Int64) : Option Hp := if okT h a 12 && inb i (mT h a).2 then some (msY h a (vp_updL (mY h a) i.toNatClampNeg x)) else none
def sR (h : Hp) (a : Nat) (i : Int32) (x : Nat) : Option Hp := if okT h a 14 && inb i (mT h a).2 && okT h x 8 then some (msZ h a (va_up (mZ h a) i.toNatClampNeg (some x))) else none
def cpI (h : Hp) (a0 : Nat) (sp : Int32) (a : Nat) (dp n : Int32) : Option Hp :=
  if okT h a0 11 && okT h a 11 && decide (¬ sp < 0) && decide (¬ dp < 0) && decide (¬ n < 0) && decide (sp.toNatClampNeg + n.toNatClampNeg ≤ (mT h a0).2) && decide (dp.toNatClampNeg + n.toNatClampNeg ≤ (mT h a).2) then
    some (msX h a (va_cpy (mX h a0) (mX h a) sp.toNatClampNeg dp.toNatClampNeg n.toNatClampNeg)) else none
def cpJ (h : Hp) (a0 : Nat) (sp : Int32) (a : Nat) (dp n : Int32) : Option Hp :=
  if okT h a0 12 && okT h a 12 && decide (¬ sp < 0) && decide (¬ dp < 0) && decide (¬ n < 0) && decide (sp.toNatClampNeg + n.toNatClampNeg ≤ (mT h a0).2) && decide (dp.toNatClampNeg + n.toNatClampNeg ≤ (mT h a).2) then
    some (msY h a (va_cpy (mY h a0) (mY h a) sp.toNatClampNeg dp.toNatClampNeg n.toNatClampNeg)) else none
def dvI (x y : Int32) : Option Int32 := if y = 0 then none else some (x / y)
def rmI (x y : Int32) : Option Int32 := if y = 0 then none else some (x - x / y * y)
def nzI (x : Int32) : Option Int32 := if x = 0 ∨ x = 1 then some x else none
def mnI (x y : Int32) : Int32 := if y < x then y else x
def mxI (x y : Int32) : Int32 := if x < y then y else x
def lcI (x y : Int64) : Int32 := if x < y then -1 else if x = y then 0 else 1
def bl {α β : Type} (a : α) (f : α → β) : β := f a
def nwO (h : Hp) (t : Nat) : Hp := mal h (t, 0) (fun _ => none)
def nwA (h : Hp) (t : Nat) (n : Int32) : Option Hp := if n < 0 ∨ 100000 < n then none else some (mal h (t, n.toNatClampNeg) (fun _ => none))
/-- new T[n][k]: the outer array, then the rows -/
def nwRows (h : Hp) (t k : Nat) : Nat → Hp
  | 0 => h
  | i + 1 => mal (nwRows h t k i) (t, k) (fun _ => none)
def nwM (h : Hp) (t t1 n k : Nat) : Hp := nwRows (mal h (t, n) (fun i => if i < n then some (mN h + 1 + i) else none)) t1 k n
def loopF {σ ρ : Type} (st : σ → Option (σ ⊕ ρ)) : Nat → σ → Option ρ
  | 0, _ => none
  | n + 1, x => (st x).bind fun y => match y with
    | .inl x' => loopF st n x'
    | .inr r => some r
def stt : Nat → List Int32
  | 0 => [0, 0, 999, 999, 0, 999, 1, 99, 16]
  | 1 => [0, 0, 0, 0, 0, 0, 1, 0, 0]
  | 2 => [999, 999, 999, 999, 1, 999, 9, 99, 16]
  | _ => [5, 10, 30]
def sX (k : Nat) (i : Int32) : Option Int32 := if inb i (stt k).length then some ((stt k).getD i.toNatClampNeg 0) else none
/-! the cells of it -/
abbrev GG : Type := va_G × (Nat → ClassId) × (Nat → Nat)
def fv (B : Nat) (h : Hp) (a k : Nat) (b : Bool) : Value := if b then .int (mX h a k) else va_rf ((mZ h a k).map (fun x => B + x))
def fds (B : Nat) (h : Hp) (a t : Nat) : List Value := (kd t).mapIdx (fun k b => fv B h a k b)
def ct (B : Nat) (h : Hp) (a t : Nat) : (Nat → Int32) ⊕ (Nat → Int64) ⊕ (Nat → UInt32) ⊕ (Nat → UInt64) ⊕ (Nat → Option Nat) :=
  if t = 12 then .inr (.inl (mY h a)) else if t = 11 ∨ t = 13 then .inl (mX h a) else .inr (.inr (.inr (.inr (fun i => (mZ h a i).map (fun x => B + x)))))
def ce (G : GG) (B : Nat) (h : Hp) (a : Nat) : va_E :=
  if (mT h a).1 < 11 then .inr ((mT h a).1, fds B h a (mT h a).1) else .inl (G.2.1 (mT h a).1, (mT h a).2, ct B h a (mT h a).1)
def cel (G : GG) (B : Nat) (h : Hp) : va_W := (List.range (mN h)).map (fun a => (B + a, ce G B h a))
def tyl (G : GG) : List (ClassId × FieldType) := [(G.2.1 11, .int), (G.2.1 12, .long), (G.2.1 13, .boolean), (G.2.1 14, .object RX8), (G.2.1 15, .array .int), (G.2.1 16, .array .long)]
theorem okT_i {h : Hp} {a t : Nat} (e : okT h a t = true) : a < mN h ∧ (mT h a).1 = t := by
  simpa [okT] using e
theorem inb_i {i : Int32} {n : Nat} (e : inb i n = true) : vp_in i n := by
  simp only [inb, Bool.and_eq_true, decide_eq_true_eq] at e
  intro q
  rcases q with q | q
  · exact e.1 q
  · exact Nat.not_lt.mpr q e.2
theorem bd_some {α β : Type} {o : Option α} {K : α → Option β} {y : β} (h : o.bind K = some y) : ∃ x, o = some x ∧ K x = some y := Option.bind_eq_some_iff.mp h
theorem bl_i {α β : Type} {a : α} {f : α → Option β} {y : β} (h : bl a f = some y) : f a = some y := h
theorem cel_at {G : GG} {B : Nat} {h : Hp} {a : Nat} (ha : a < mN h) : (cel G B h)[a]? = some (B + a, ce G B h a) := by
  simp [cel, ha]
theorem cel_get {G : GG} {B : Nat} {h : Hp} {k : Nat} {q : Nat × va_E} (hk : (cel G B h)[k]? = some q) : k < mN h ∧ q = (B + k, ce G B h k) := by
  by_cases hl : k < mN h
  · rw [cel_at hl] at hk
    exact ⟨hl, (Option.some.inj hk).symm⟩
  · have : (cel G B h)[k]? = none := by simp [cel]; omega
    rw [this] at hk
    cases hk
theorem cel_D (G : GG) (B : Nat) (h : Hp) : va_D (fun q => B ≤ q) (cel G B h) := by
  refine ⟨fun i j p q hi hj e => ?_, fun k q hk => ?_⟩
  · obtain ⟨-, rfl⟩ := cel_get hi
    obtain ⟨-, rfl⟩ := cel_get hj
    have e : B + i = B + j := e
    omega
  · obtain ⟨-, rfl⟩ := cel_get hk
    exact Nat.le_add_right _ _
theorem cel_set {G : GG} {B : Nat} {h h' : Hp} {a : Nat} {e : va_E} (hn : mN h' = mN h) (he : ce G B h' a = e) (ho : ∀ b, b ≠ a → ce G B h' b = ce G B h b) : (cel G B h).set a (B + a, e) = cel G B h' := by
  apply List.ext_getElem?
  intro k
  rw [List.getElem?_set]
  by_cases hk : k < mN h
  · by_cases hka : a = k
    · subst hka
      rw [if_pos rfl, cel_at (by rw [hn]; exact hk), he]
      simp [cel, hk]
    · rw [if_neg hka, cel_at hk, cel_at (by rw [hn]; exact hk), ho k (fun q => hka q.symm)]
  · have h1 : (cel G B h)[k]? = none := by simp [cel]; omega
    have h2 : (cel G B h')[k]? = none := by simp [cel, hn]; omega
    rw [h1, h2]
    by_cases hka : a = k
    · subst hka
      rw [if_pos rfl]
      simp [cel]; omega
    · rw [if_neg hka]
theorem cel_push {G : GG} {B : Nat} {h h' : Hp} (hn : mN h' = mN h + 1) (ho : ∀ b, b < mN h → ce G B h' b = ce G B h b) : cel G B h' = cel G B h ++ [(B + mN h, ce G B h' (mN h))] := by
  unfold cel
  rw [hn, List.range_succ, List.map_append]
  congr 1
  apply List.map_congr_left
  intro a ha
  rw [ho a (List.mem_range.mp ha)]
theorem ce_sX {G : GG} {B : Nat} {h : Hp} {a b : Nat} {g : Nat → Int32} (hb : b ≠ a) : ce G B (msX h a g) b = ce G B h b := by
  have e : mX (msX h a g) b = mX h b := by simp [mX, msX, va_up, hb]
  unfold ce fds ct fv
  rw [e]; rfl
theorem ce_sY {G : GG} {B : Nat} {h : Hp} {a b : Nat} {g : Nat → Int64} (hb : b ≠ a) : ce G B (msY h a g) b = ce G B h b := by
  have e : mY (msY h a g) b = mY h b := by simp [mY, msY, va_up, hb]
  unfold ce fds ct fv
  rw [e]; rfl
theorem ce_sZ {G : GG} {B : Nat} {h : Hp} {a b : Nat} {g : Nat → Option Nat} (hb : b ≠ a) : ce G B (msZ h a g) b = ce G B h b := by
  have e : mZ (msZ h a g) b = mZ h b := by simp [mZ, msZ, va_up, hb]
  unfold ce fds ct fv
  rw [e]; rfl
theorem ce_al {G : GG} {B : Nat} {h : Hp} {t : Nat × Nat} {z : Nat → Option Nat} {b : Nat} (hb : b < mN h) : ce G B (mal h t z) b = ce G B h b := by
  have hne : b ≠ h.1 := Nat.ne_of_lt hb
  have e0 : mT (mal h t z) b = mT h b := by simp [mT, mal, va_up, hne]
  have e1 : mX (mal h t z) b = mX h b := by simp [mX, mal, va_up, hne]
  have e2 : mY (mal h t z) b = mY h b := by simp [mY, mal, va_up, hne]
  have e3 : mZ (mal h t z) b = mZ h b := by simp [mZ, mal, va_up, hne]
  unfold ce fds ct fv
  rw [e0, e1, e2, e3]
theorem fds_at {B : Nat} {h : Hp} {a t k : Nat} {b : Bool} (hk : (kd t)[k]? = some b) : (fds B h a t)[k]? = some (fv B h a k b) := by
  simp [fds, hk]
theorem fds_setX {B : Nat} {h : Hp} {a t k : Nat} {x : Int32} (hk : (kd t)[k]? = some true) : (fds B h a t).set k (.int x) = fds B (msX h a (upd (mX h a) k x)) a t := by
  apply List.ext_getElem?
  intro j
  rw [List.getElem?_set]
  have hkl : k < (fds B h a t).length := by
    have := (List.getElem?_eq_some_iff.mp hk).1
    simpa [fds] using this
  by_cases hj : k = j
  · subst hj
    rw [if_pos rfl, if_pos hkl, fds_at hk]
    simp [fv, mX, msX, va_up, upd]
  · rw [if_neg hj]
    simp only [fds, List.getElem?_mapIdx]
    congr 1
    funext b
    have hj' : j ≠ k := fun q => hj q.symm
    cases b <;> simp [fv, mX, msX, mZ, va_up, upd, hj']
theorem fds_setZ {B : Nat} {h : Hp} {a t k x : Nat} (hk : (kd t)[k]? = some false) : (fds B h a t).set k (.ref (B + x)) = fds B (msZ h a (va_up (mZ h a) k (some x))) a t := by
  apply List.ext_getElem?
  intro j
  rw [List.getElem?_set]
  have hkl : k < (fds B h a t).length := by
    have := (List.getElem?_eq_some_iff.mp hk).1
    simpa [fds] using this
  by_cases hj : k = j
  · subst hj
    rw [if_pos rfl, if_pos hkl, fds_at hk]
    simp [fv, mZ, msZ, va_up, va_rf]
  · rw [if_neg hj]
    simp only [fds, List.getElem?_mapIdx]
    congr 1
    funext b
    have hj' : j ≠ k := fun q => hj q.symm
    cases b <;> simp [fv, mX, msZ, mZ, va_up, hj']
theorem ce_obj {G : GG} {B : Nat} {h : Hp} {a t : Nat} (e : (mT h a).1 = t) (ht : t < 11) : ce G B h a = .inr (t, fds B h a t) := by
  unfold ce
  rw [e, if_pos ht]
theorem ce_arr {G : GG} {B : Nat} {h : Hp} {a t : Nat} (e : (mT h a).1 = t) (ht : ¬ t < 11) : ce G B h a = .inl (G.2.1 t, (mT h a).2, ct B h a t) := by
  unfold ce
  rw [e, if_neg ht]
