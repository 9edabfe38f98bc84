section MAKE6
def c10 (z : Nat → Option Nat) : Cel := ((10, 0), fun _ => 0, fun _ => 0, z)
theorem alc {α : Type} (A : List Cel) (z : Nat → Option Nat) {L : List Cel} {m : Nat} (hm : L.length + 1 = m) (t : Nat) {n : Int32} {kk : Nat} (h0 : ¬ (n < 0 ∨ 100000 < n)) (hk : n.toNatClampNeg = kk) (k : Nat) (K : Hp → Option α) : ((nwA (hl (A ++ c10 z :: L)) t n).bind fun h1 => (pR h1 A.length 10 k (mN (hl (A ++ c10 z :: L)))).bind K) = K (hl (A ++ c10 (va_up z k (some (A.length + m))) :: (L ++ [nC t kk]))) := by
  have e : A ++ c10 z :: L ++ [((t, kk), fun _ => 0, fun _ => 0, fun _ => none)] = A ++ c10 z :: (L ++ [nC t kk]) := by rw [List.append_assoc]; rfl
  rw [mk_nA _ t h0 hk, Option.bind_some, e, mk_pR (c := c10 z) (t := 10) rfl, Option.bind_some, mk_N, List.length_cons, hm]
  rfl
theorem mk_sI1 {A : List Cel} {c : Cel} {len i : Nat} {v x : Int32} (hc : c.1 = (11, len)) (hl' : len < 2 ^ 31) (hi : i < len) (hv : v = nI i) : sI (hl (A ++ [c])) A.length v x = some (hl (A ++ [(c.1, upd c.2.1 i x, c.2.2.1, c.2.2.2)])) := by
  subst hv
  unfold sI
  rw [mk_ok, hc, hl_T mk_at, hc, inb_nI hi hl', nI_clamp (by omega), hl_sX mk_at, mk_set, hl_X mk_at, hc]; rfl
def u9 (x0 x1 x2 x3 x4 x5 x6 x7 x8 : Int32) : Nat → Int32 := (upd (upd (upd (upd (upd (upd (upd (upd (upd (fun _ => 0) 0 x0) 1 x1) 2 x2) 3 x3) 4 x4) 5 x5) 6 x6) 7 x7) 8 x8)
theorem arr9 {α : Type} (L : List Cel) (x0 x1 x2 x3 x4 x5 x6 x7 x8 : Int32) (K : Hp → Option α) : ((nwA (hl L) 11 9).bind fun h0 => (sI h0 (mN (hl L)) 0 x0).bind fun h1 => (sI h1 (mN (hl L)) 1 x1).bind fun h2 => (sI h2 (mN (hl L)) 2 x2).bind fun h3 => (sI h3 (mN (hl L)) 3 x3).bind fun h4 => (sI h4 (mN (hl L)) 4 x4).bind fun h5 => (sI h5 (mN (hl L)) 5 x5).bind fun h6 => (sI h6 (mN (hl L)) 6 x6).bind fun h7 => (sI h7 (mN (hl L)) 7 x7).bind fun h8 => (sI h8 (mN (hl L)) 8 x8).bind K) = K (hl (L ++ [((11, 9), u9 x0 x1 x2 x3 x4 x5 x6 x7 x8, fun _ => 0, fun _ => none)])) := by
  rw [mk_nA _ 11 (n := 9) (k := 9) (by decide) (by decide), Option.bind_some, hl_N, mk_sI1 (len := 9) (i := 0) (v := 0) rfl (by decide) (by decide) rfl, Option.bind_some, mk_sI1 (len := 9) (i := 1) (v := 1) rfl (by decide) (by decide) rfl, Option.bind_some, mk_sI1 (len := 9) (i := 2) (v := 2) rfl (by decide) (by decide) rfl, Option.bind_some, mk_sI1 (len := 9) (i := 3) (v := 3) rfl (by decide) (by decide) rfl, Option.bind_some, mk_sI1 (len := 9) (i := 4) (v := 4) rfl (by decide) (by decide) rfl, Option.bind_some, mk_sI1 (len := 9) (i := 5) (v := 5) rfl (by decide) (by decide) rfl, Option.bind_some, mk_sI1 (len := 9) (i := 6) (v := 6) rfl (by decide) (by decide) rfl, Option.bind_some, mk_sI1 (len := 9) (i := 7) (v := 7) rfl (by decide) (by decide) rfl, Option.bind_some, mk_sI1 (len := 9) (i := 8) (v := 8) rfl (by decide) (by decide) rfl, Option.bind_some]
  rfl
def u3 (x0 x1 x2 : Int32) : Nat → Int32 := (upd (upd (upd (fun _ => 0) 0 x0) 1 x1) 2 x2)
theorem arr3 {α : Type} (L : List Cel) (x0 x1 x2 : Int32) (K : Hp → Option α) : ((nwA (hl L) 11 3).bind fun h0 => (sI h0 (mN (hl L)) 0 x0).bind fun h1 => (sI h1 (mN (hl L)) 1 x1).bind fun h2 => (sI h2 (mN (hl L)) 2 x2).bind K) = K (hl (L ++ [((11, 3), u3 x0 x1 x2, fun _ => 0, fun _ => none)])) := by
  rw [mk_nA _ 11 (n := 3) (k := 3) (by decide) (by decide), Option.bind_some, hl_N, mk_sI1 (len := 3) (i := 0) (v := 0) rfl (by decide) (by decide) rfl, Option.bind_some, mk_sI1 (len := 3) (i := 1) (v := 1) rfl (by decide) (by decide) rfl, Option.bind_some, mk_sI1 (len := 3) (i := 2) (v := 2) rfl (by decide) (by decide) rfl, Option.bind_some]
  rfl
theorem p10 {α : Type} (A : List Cel) (z : Nat → Option Nat) {L : List Cel} {m : Nat} (hm : L.length + 1 = m) (c : Cel) (k : Nat) (K : Hp → Option α) : ((pR (hl (A ++ c10 z :: L ++ [c])) A.length 10 k (mN (hl (A ++ c10 z :: L)))).bind K) = K (hl (A ++ c10 (va_up z k (some (A.length + m))) :: (L ++ [c]))) := by
  have e : A ++ c10 z :: L ++ [c] = A ++ c10 z :: (L ++ [c]) := by rw [List.append_assoc]; rfl
  rw [e, mk_pR (c := c10 z) (t := 10) rfl, Option.bind_some, mk_N, List.length_cons, hm]
  rfl
def f5 : Nat → Int32 := u9 0 0 0 0 0 0 1 0 0
def f6 : Nat → Int32 := u9 999 999 999 999 1 999 9 99 16
def f7 : Nat → Int32 := u3 5 10 30
def U00 : WV := sx (sx (sx V00 5 f5) 6 f6) 7 f7
def zM (b : Nat) : Nat → Option Nat := (va_up (va_up (va_up (va_up (va_up (va_up (va_up (va_up (va_up (va_up (va_up (va_up (va_up (va_up (va_up (va_up (va_up (va_up (fun _ => none) 1 (some (b + 1))) 2 (some (b + 2))) 3 (some (b + 3))) 4 (some (b + 4))) 5 (some (b + 5))) 6 (some (b + 6))) 7 (some (b + 7))) 9 (some (b + 8))) 10 (some (b + 9))) 11 (some (b + 10))) 12 (some (b + 11))) 13 (some (b + 12))) 14 (some (b + 13))) 15 (some (b + 14))) 16 (some (b + 15))) 17 (some (b + 16))) 18 (some (b + 17))) 19 (some (b + 18)))
def mdL : List Cel := [nC 11 1677, nC 11 5590, nC 11 559, nC 11 559, ((11, 9), f5, fun _ => 0, fun _ => none), ((11, 9), f6, fun _ => 0, fun _ => none), ((11, 3), f7, fun _ => 0, fun _ => none), nC 13 2, nC 11 12, nC 11 12, nC 11 12, nC 11 12, nC 11 12, nC 11 12, nC 11 12, nC 11 28, nC 11 28, nC 13 28]
theorem zM_eq (b i : Nat) : zM b i = (ZM 0 i).map (fun x => b + x) := by
  match i with
  | 0 => rfl
  | 1 => rfl
  | 2 => rfl
  | 3 => rfl
  | 4 => rfl
  | 5 => rfl
  | 6 => rfl
  | 7 => rfl
  | 8 => rfl
  | 9 => rfl
  | 10 => rfl
  | 11 => rfl
  | 12 => rfl
  | 13 => rfl
  | 14 => rfl
  | 15 => rfl
  | 16 => rfl
  | 17 => rfl
  | 18 => rfl
  | 19 => rfl
  | i + 20 => rfl
theorem md_list (b : Nat) : c10 (zM b) :: mdL = blk b 0 19 TM ZM U00 := by
  show _ = blk b 0 (18 + 1) TM ZM U00
  rw [blk_cons, blk_cons, blk_cons, blk_cons, blk_cons, blk_cons, blk_cons, blk_cons, blk_cons, blk_cons, blk_cons, blk_cons, blk_cons, blk_cons, blk_cons, blk_cons, blk_cons, blk_cons, blk_cons]
  unfold mdL
  refine cons2 (Prod.ext rfl (Prod.ext rfl (Prod.ext rfl (funext fun i => zM_eq b i)))) ?_
  exact cons2 rfl (cons2 rfl (cons2 rfl (cons2 rfl (cons2 rfl (cons2 rfl (cons2 rfl (cons2 rfl (cons2 rfl (cons2 rfl (cons2 rfl (cons2 rfl (cons2 rfl (cons2 rfl (cons2 rfl (cons2 rfl (cons2 rfl (cons2 rfl (rfl))))))))))))))))))
theorem mk0_model {α : Type} (A : List Cel) (K : Hp → Option α) : (bl (hl (A ++ [nC 10 0])) fun h => bl A.length fun a0 =>
(nwA h 11 1677).bind fun h1 =>
(pR h1 a0 10 1 (mN h)).bind fun h2 =>
(nwA h2 11 5590).bind fun h3 =>
(pR h3 a0 10 2 (mN h2)).bind fun h4 =>
(nwA h4 11 559).bind fun h5 =>
(pR h5 a0 10 3 (mN h4)).bind fun h6 =>
(nwA h6 11 559).bind fun h7 =>
(pR h7 a0 10 4 (mN h6)).bind fun h8 =>
(nwA h8 11 9).bind fun h9 =>
(sI h9 (mN h8) 0 0).bind fun h10 =>
(sI h10 (mN h8) 1 0).bind fun h11 =>
(sI h11 (mN h8) 2 0).bind fun h12 =>
(sI h12 (mN h8) 3 0).bind fun h13 =>
(sI h13 (mN h8) 4 0).bind fun h14 =>
(sI h14 (mN h8) 5 0).bind fun h15 =>
(sI h15 (mN h8) 6 1).bind fun h16 =>
(sI h16 (mN h8) 7 0).bind fun h17 =>
(sI h17 (mN h8) 8 0).bind fun h18 =>
(pR h18 a0 10 5 (mN h8)).bind fun h19 =>
(nwA h19 11 9).bind fun h20 =>
(sI h20 (mN h19) 0 999).bind fun h21 =>
(sI h21 (mN h19) 1 999).bind fun h22 =>
(sI h22 (mN h19) 2 999).bind fun h23 =>
(sI h23 (mN h19) 3 999).bind fun h24 =>
(sI h24 (mN h19) 4 1).bind fun h25 =>
(sI h25 (mN h19) 5 999).bind fun h26 =>
(sI h26 (mN h19) 6 9).bind fun h27 =>
(sI h27 (mN h19) 7 99).bind fun h28 =>
(sI h28 (mN h19) 8 16).bind fun h29 =>
(pR h29 a0 10 6 (mN h19)).bind fun h30 =>
(nwA h30 11 3).bind fun h31 =>
(sI h31 (mN h30) 0 5).bind fun h32 =>
(sI h32 (mN h30) 1 10).bind fun h33 =>
(sI h33 (mN h30) 2 30).bind fun h34 =>
(pR h34 a0 10 7 (mN h30)).bind fun h35 =>
(nwA h35 13 2).bind fun h36 =>
(pR h36 a0 10 9 (mN h35)).bind fun h37 =>
(nwA h37 11 12).bind fun h38 =>
(pR h38 a0 10 10 (mN h37)).bind fun h39 =>
(nwA h39 11 12).bind fun h40 =>
(pR h40 a0 10 11 (mN h39)).bind fun h41 =>
(nwA h41 11 12).bind fun h42 =>
(pR h42 a0 10 12 (mN h41)).bind fun h43 =>
(nwA h43 11 12).bind fun h44 =>
(pR h44 a0 10 13 (mN h43)).bind fun h45 =>
(nwA h45 11 12).bind fun h46 =>
(pR h46 a0 10 14 (mN h45)).bind fun h47 =>
(nwA h47 11 12).bind fun h48 =>
(pR h48 a0 10 15 (mN h47)).bind fun h49 =>
(nwA h49 11 12).bind fun h50 =>
(pR h50 a0 10 16 (mN h49)).bind fun h51 =>
(nwA h51 11 28).bind fun h52 =>
(pR h52 a0 10 17 (mN h51)).bind fun h53 =>
(nwA h53 11 28).bind fun h54 =>
(pR h54 a0 10 18 (mN h53)).bind fun h55 =>
(nwA h55 13 28).bind fun h56 =>
(pR h56 a0 10 19 (mN h55)).bind K) = K (hl (A ++ c10 (zM A.length) :: mdL)) := by
  have e0 : nC 10 0 = c10 (fun _ => none) := rfl
  rw [bl, bl, e0]
  rw [alc A _ (m := 1) rfl 11 (n := 1677) (kk := 1677) (by decide) (by decide) 1]
  rw [alc A _ (m := 2) rfl 11 (n := 5590) (kk := 5590) (by decide) (by decide) 2]
  rw [alc A _ (m := 3) rfl 11 (n := 559) (kk := 559) (by decide) (by decide) 3]
  rw [alc A _ (m := 4) rfl 11 (n := 559) (kk := 559) (by decide) (by decide) 4]
  rw [arr9, p10 A _ (m := 5) rfl]
  rw [arr9, p10 A _ (m := 6) rfl]
  rw [arr3, p10 A _ (m := 7) rfl]
  rw [alc A _ (m := 8) rfl 13 (n := 2) (kk := 2) (by decide) (by decide) 9]
  rw [alc A _ (m := 9) rfl 11 (n := 12) (kk := 12) (by decide) (by decide) 10]
  rw [alc A _ (m := 10) rfl 11 (n := 12) (kk := 12) (by decide) (by decide) 11]
  rw [alc A _ (m := 11) rfl 11 (n := 12) (kk := 12) (by decide) (by decide) 12]
  rw [alc A _ (m := 12) rfl 11 (n := 12) (kk := 12) (by decide) (by decide) 13]
  rw [alc A _ (m := 13) rfl 11 (n := 12) (kk := 12) (by decide) (by decide) 14]
  rw [alc A _ (m := 14) rfl 11 (n := 12) (kk := 12) (by decide) (by decide) 15]
  rw [alc A _ (m := 15) rfl 11 (n := 12) (kk := 12) (by decide) (by decide) 16]
  rw [alc A _ (m := 16) rfl 11 (n := 28) (kk := 28) (by decide) (by decide) 17]
  rw [alc A _ (m := 17) rfl 11 (n := 28) (kk := 28) (by decide) (by decide) 18]
  rw [alc A _ (m := 18) rfl 13 (n := 28) (kk := 28) (by decide) (by decide) 19]
  rfl
end MAKE6
