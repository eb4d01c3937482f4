/-! ===== a part's machine, pure: states, what it hears, what it says ===== -/
abbrev Ev : Type := Nat × Int32 × Nat
abbrev PSt : Type := Nat × Nat × Int32 × Int32 × Bool × Bool × Bool × List (Int32 × Nat) × Bool × Bool
abbrev Otp : Type := List (Nat × Int32)
abbrev RSt : Type := PSt × List Ev
abbrev Inp : Type := Nat × Nat × Int32 × Nat
def cl (b : Int32) : Nat := b.toNatClampNeg
/-- an item is heard; sd: from the X side -/
def hi (k : Nat) (b : Int32) (t : Nat) (sd : Bool) (v : Int32) : PSt → PSt × Otp
  | (d, c, h, hy, f, fy, qx, q, ox, oy) =>
    match k with
    | 3 => ((d, c, h, hy, f, fy, qx, q, ox, oy), [(1, v + b)])
    | 4 => ((d, c, h, hy, f, fy, qx, q, ox, oy), if v ≤ b then [] else [(1, v)])
    | 5 => ((d, c, h + v, hy, f, fy, qx, q, ox, oy), [(1, h + v)])
    | 6 => ((d, c + 1, h, hy, f, fy, qx, q, ox, oy), if c + 1 < cl b then [(1, v)] else [(1, v), (2, 0)])
    | 7 => if c < cl b then ((d, c + 1, h, hy, f, fy, qx, q, ox, oy), []) else ((d, c, h, hy, f, fy, qx, q, ox, oy), [(1, v)])
    | 8 => ((d, c, v, hy, true, fy, qx, q, ox, oy), if f = true ∧ h = v then [] else [(1, v)])
    | 9 => if c + 1 < cl b then ((d, c + 1, h + v, hy, f, fy, qx, q, ox, oy), []) else ((d, 0, 0, hy, f, fy, qx, q, ox, oy), [(1, h + v)])
    | 10 => ((d, c + 1, h, hy, f, fy, qx, q, ox, oy), [])
    | 11 => if q.length < 8 then ((d, c, h, hy, f, fy, qx, q ++ [(v, t + cl b)], ox, oy), []) else ((d, c, h, hy, f, fy, qx, q, ox, oy), [(3, 8)])
    | 12 => ((t + cl b, c, v, hy, f, fy, qx, q, ox, oy), [])
    | 13 => if f = true ∧ nI t - h < b then ((d, c, h, hy, f, fy, qx, q, ox, oy), []) else ((d, c, nI t, hy, true, fy, qx, q, ox, oy), [(1, v)])
    | 14 => ((d, c, v, hy, true, fy, qx, q, ox, oy), [])
    | 15 => ((t + cl b, c, h, hy, f, fy, qx, q, ox, oy), [(1, v)])
    | 17 => match q with
      | [] => ((d, c, h, hy, f, fy, sd, [(v, 0)], ox, oy), [])
      | a :: r => if qx = sd then (if r.length < 7 then ((d, c, h, hy, f, fy, sd, a :: r ++ [(v, 0)], ox, oy), []) else ((d, c, h, hy, f, fy, sd, a :: r, ox, oy), [(3, 8)])) else ((d, c, h, hy, f, fy, qx, r, ox, oy), (1, if sd = true then 31 * v + a.1 else 31 * a.1 + v) :: if r = [] ∧ (if sd = true then oy else ox) = true then [(2, 0)] else [])
    | 18 => if sd = true then ((d, c, v, hy, true, fy, qx, q, ox, oy), if fy = true then [(1, 31 * v + hy)] else []) else ((d, c, h, v, f, true, qx, q, ox, oy), if f = true then [(1, 31 * h + v)] else [])
    | _ => ((d, c, h, hy, f, fy, qx, q, ox, oy), [(1, v)])
/-- a complete is heard -/
def hc (k : Nat) (b : Int32) (t : Nat) (sd : Bool) : PSt → PSt × Otp
  | (d, c, h, hy, f, fy, qx, q, ox, oy) =>
    match k with
    | 9 => ((d, c, h, hy, f, fy, qx, q, ox, oy), if c = 0 then [(2, 0)] else [(1, h), (2, 0)])
    | 10 => ((d, c, h, hy, f, fy, qx, q, ox, oy), [(1, nI c), (2, 0)])
    | 11 => ((t + cl b, c, h, hy, f, fy, qx, q, ox, oy), [])
    | 12 => ((d, c, h, hy, f, fy, qx, q, ox, oy), if d = 0 then [(2, 0)] else [(1, h), (2, 0)])
    | 16 => if sd = true then ((d, c, h, hy, f, fy, qx, q, true, oy), if oy = true then [(2, 0)] else []) else ((d, c, h, hy, f, fy, qx, q, ox, true), if ox = true then [(2, 0)] else [])
    | 17 => (if sd = true then (d, c, h, hy, f, fy, qx, q, true, oy) else (d, c, h, hy, f, fy, qx, q, ox, true), if q = [] ∨ qx ≠ sd then [(2, 0)] else [])
    | 18 => if sd = true then ((d, c, h, hy, f, fy, qx, q, true, oy), if oy = true ∨ f = false then [(2, 0)] else []) else ((d, c, h, hy, f, fy, qx, q, ox, true), if ox = true ∨ fy = false then [(2, 0)] else [])
    | 19 => if sd = true then ((d, c, h, hy, f, fy, qx, q, true, oy), []) else ((d, c, h, hy, f, fy, qx, q, ox, true), [(2, 0)])
    | _ => ((d, c, h, hy, f, fy, qx, q, ox, oy), [(2, 0)])
/-- an error is heard -/
def he (k : Nat) (sd : Bool) (v : Int32) : PSt → PSt × Otp
  | (d, c, h, hy, f, fy, qx, q, ox, oy) => if k = 20 ∧ sd = true then ((d, c, h, hy, f, fy, qx, q, true, oy), []) else ((d, c, h, hy, f, fy, qx, q, ox, oy), [(3, v)])
def hear (k : Nat) (b : Int32) (t : Nat) (sd : Bool) (w : Nat) (v : Int32) (S : PSt) : PSt × Otp :=
  if w = 1 then hi k b t sd v S else if w = 2 then hc k b t sd S else he k sd v S
def rdy (t : Nat) (q : List (Int32 × Nat)) : Nat := (q.filter (fun e => e.2 == t)).length
/-- the part's own timer at time t -/
def fi (k : Nat) (a b : Int32) (t : Nat) : PSt → PSt × Otp
  | (d, c, h, hy, f, fy, qx, q, ox, oy) =>
    match k with
    | 1 => if d = t then ((t + cl a, c + 1, h, hy, f, fy, qx, q, ox, oy), [(1, nI c)]) else ((d, c, h, hy, f, fy, qx, q, ox, oy), [])
    | 11 => ((d, c, h, hy, f, fy, qx, q.drop (rdy t q), ox, oy), (q.take (rdy t q)).map (fun e => (1, e.1)) ++ if d = t then [(2, 0)] else [])
    | 12 => if d = t then ((0, c, h, hy, f, fy, qx, q, ox, oy), [(1, h)]) else ((d, c, h, hy, f, fy, qx, q, ox, oy), [])
    | 14 => if d = t then ((t + cl b, c, h, hy, false, fy, qx, q, ox, oy), if f = true then [(1, h)] else []) else ((d, c, h, hy, f, fy, qx, q, ox, oy), [])
    | 15 => if d = t then ((0, c, h, hy, f, fy, qx, q, ox, oy), [(3, 9)]) else ((d, c, h, hy, f, fy, qx, q, ox, oy), [])
    | _ => ((d, c, h, hy, f, fy, qx, q, ox, oy), [])
def ini (k : Nat) (a b : Int32) (t : Nat) : PSt :=
  (if k = 1 then t + cl a else if k = 14 ∨ k = 15 then t + cl b else 0, 0, if k = 5 then b else 0, 0, false, false, false, [], false, false)
def fin (O : List Ev) : Bool := O.any (fun e => e.1 != 1)
def ems (m : Nat) (o : Otp) : List Ev := o.map (fun x => (x.1, x.2, m))
def rsp (k : Nat) (a b : Int32) (S : PSt) (i : Inp) : PSt × Otp :=
  if i.1 = 2 then fi k a b (tim i.2.2.2) S else hear k b (tim i.2.2.2) (i.1 == 0) i.2.1 i.2.2.1 S
def stp (k : Nat) (a b : Int32) (R : RSt) (i : Inp) : RSt :=
  if fin R.2 = true then R else ((rsp k a b R.1 i).1, R.2 ++ ems i.2.2.2 (rsp k a b R.1 i).2)
/-! ===== what a part is fed ===== -/
def ckm (p m : Nat) : Nat := if m < tm (tim m) p then tim m - 1 else tim m
def tms (p c : Nat) : Nat → List Inp
  | 0 => []
  | d + 1 => tms p c d ++ [(2, 0, 0, tm (c + d + 1) p)]
def feed (p : Nat) : Nat → List Ev → Nat → List Inp
  | c0, [], c => tms p c0 (c - c0)
  | c0, e :: r, c => tms p c0 (ckm p e.2.2 - c0) ++ (0, e) :: feed p (ckm p e.2.2) r c
def mrg : List Inp → List Inp → List Inp
  | [], ys => ys
  | x :: xs, ys => ys.takeWhile (fun y => decide (y.2.2.2 < x.2.2.2)) ++ x :: mrg xs (ys.dropWhile (fun y => decide (y.2.2.2 < x.2.2.2)))
def tg (s : Nat) (H : List Ev) : List Inp := H.map (fun e => (s, e))
def tmd (k : Nat) : Bool := k == 11 || k == 12 || k == 14 || k == 15
def inp (k p c0 c : Nat) (Hx Hy : List Ev) : List Inp :=
  if k = 1 then tms p c0 (c - c0) else if k < 3 then [] else if k < 16 then (if tmd k = true then feed p c0 Hx c else tg 0 Hx) else if k < 19 then mrg (tg 0 Hx) (tg 1 Hy) else tg 0 Hx ++ tg 1 Hy
abbrev Lg : Type := Nat × Nat × Int32 × Nat
/-- does a source part that begins at fr hear a call of moment w -/
def hrs (fr w : Nat) : Bool := if fr / 1099511627776 % 2 = 1 then decide (fr / 256 % 4294967296 < w / 256 % 4294967296) else decide (fr < w)
def src (s p fr : Nat) : List Lg → List Ev
  | [] => []
  | g :: r => if g.1 = s ∧ hrs fr g.2.2.2 = true then (g.2.1 + 1, g.2.2.1, g.2.2.2 + p + 1) :: (if g.2.1 = 0 then src s p fr r else []) else src s p fr r
def RR (k : Nat) (a b : Int32) (p fr : Nat) (lg : List Lg) (c : Nat) (Hx Hy : List Ev) : RSt :=
  if k = 0 then (ini k a b (tim fr), src (cl a) p fr lg)
  else if k = 2 then (ini k a b (tim fr), [(1, a, fr), (2, 0, fr)])
  else (inp k p (ckm p fr) c Hx Hy).foldl (stp k a b) (ini k a b (tim fr), [])
/-! ===== feeding grows at its end ===== -/
theorem tp_tms {p c0 d : Nat} : tms p c0 (d + 1) = tms p c0 d ++ [(2, 0, 0, tm (c0 + d + 1) p)] := rfl
theorem tp_tms' {p c0 c : Nat} (h : c0 ≤ c) : tms p c0 (c + 1 - c0) = tms p c0 (c - c0) ++ [(2, 0, 0, tm (c + 1) p)] := by
  have e : c + 1 - c0 = (c - c0) + 1 := by omega
  rw [e, tp_tms, show c0 + (c - c0) + 1 = c + 1 from by omega]
theorem tp_feed_snoc {p : Nat} {e : Ev} : ∀ (H : List Ev) (c0 c : Nat), ckm p e.2.2 = c → feed p c0 (H ++ [e]) c = feed p c0 H c ++ [(0, e)]
  | [], c0, c, h => by
    show tms p c0 (ckm p e.2.2 - c0) ++ (0, e) :: feed p (ckm p e.2.2) [] c = tms p c0 (c - c0) ++ [(0, e)]
    rw [h]
    show tms p c0 (c - c0) ++ (0, e) :: tms p c (c - c) = _
    rw [Nat.sub_self]
    rfl
  | x :: r, c0, c, h => by
    show tms p c0 (ckm p x.2.2 - c0) ++ (0, x) :: feed p (ckm p x.2.2) (r ++ [e]) c = (tms p c0 (ckm p x.2.2 - c0) ++ (0, x) :: feed p (ckm p x.2.2) r c) ++ [(0, e)]
    rw [tp_feed_snoc r _ c h]
    simp
theorem tp_feed_tick {p : Nat} : ∀ (H : List Ev) (c0 c : Nat), c0 ≤ c → (∀ e ∈ H, ckm p e.2.2 ≤ c) → feed p c0 H (c + 1) = feed p c0 H c ++ [(2, 0, 0, tm (c + 1) p)]
  | [], c0, c, h, _ => tp_tms' h
  | x :: r, c0, c, h, hh => by
    show tms p c0 (ckm p x.2.2 - c0) ++ (0, x) :: feed p (ckm p x.2.2) r (c + 1) = (tms p c0 (ckm p x.2.2 - c0) ++ (0, x) :: feed p (ckm p x.2.2) r c) ++ [(2, 0, 0, tm (c + 1) p)]
    rw [tp_feed_tick r _ c (hh x (by simp)) (fun e he => hh e (by simp [he]))]
    simp
theorem tp_mrg_nil : ∀ xs : List Inp, mrg xs [] = xs
  | [] => rfl
  | x :: xs => by simp [mrg, tp_mrg_nil xs]
theorem tp_mrg_y {x y : Inp} {xs ys : List Inp} (h : y.2.2.2 < x.2.2.2) : mrg (x :: xs) (y :: ys) = y :: mrg (x :: xs) ys := by
  simp [mrg, h]
theorem tp_mrg_x {x y : Inp} {xs ys : List Inp} (h : ¬ y.2.2.2 < x.2.2.2) : mrg (x :: xs) (y :: ys) = x :: mrg xs (y :: ys) := by
  simp [mrg, h]
theorem tp_mrg_snocY {e : Inp} : ∀ (xs ys : List Inp), (∀ x ∈ xs, x.2.2.2 ≤ e.2.2.2) → mrg xs (ys ++ [e]) = mrg xs ys ++ [e]
  | [], ys, _ => rfl
  | x :: xs, [], h => by
    rw [tp_mrg_nil, List.nil_append, tp_mrg_x (Nat.not_lt.mpr (h x (by simp)))]
    have := tp_mrg_snocY xs [] (fun z hz => h z (by simp [hz]))
    rw [List.nil_append] at this
    rw [this, tp_mrg_nil]
    rfl
  | x :: xs, y :: ys, h => by
    by_cases c : y.2.2.2 < x.2.2.2
    · rw [List.cons_append, tp_mrg_y c, tp_mrg_y c, tp_mrg_snocY (x :: xs) ys h]; rfl
    · have := tp_mrg_snocY xs (y :: ys) (fun z hz => h z (by simp [hz]))
      rw [List.cons_append] at this
      rw [List.cons_append, tp_mrg_x c, tp_mrg_x c, this]; rfl
  termination_by xs ys => xs.length + ys.length
theorem tp_mrg_snocX {e : Inp} : ∀ (xs ys : List Inp), (∀ y ∈ ys, y.2.2.2 < e.2.2.2) → mrg (xs ++ [e]) ys = mrg xs ys ++ [e]
  | [], ys, h => by
    show mrg [e] ys = ys ++ [e]
    induction ys with
    | nil => rfl
    | cons y ys ih => rw [tp_mrg_y (h y (by simp)), ih (fun z hz => h z (by simp [hz]))]; rfl
  | x :: xs, [], h => by rw [tp_mrg_nil, tp_mrg_nil]
  | x :: xs, y :: ys, h => by
    by_cases c : y.2.2.2 < x.2.2.2
    · have := tp_mrg_snocX (x :: xs) ys (fun z hz => h z (by simp [hz]))
      rw [List.cons_append] at this
      rw [List.cons_append, tp_mrg_y c, tp_mrg_y c, this]; rfl
    · rw [List.cons_append, tp_mrg_x c, tp_mrg_x c, tp_mrg_snocX xs (y :: ys) h]; rfl
  termination_by xs ys => xs.length + ys.length
theorem tp_tg_snoc (s : Nat) (H : List Ev) (e : Ev) : tg s (H ++ [e]) = tg s H ++ [(s, e)] := by simp [tg]
theorem tp_foldl_snoc {α β : Type} (f : β → α → β) (z : β) (l : List α) (x : α) : (l ++ [x]).foldl f z = f (l.foldl f z) x := by simp
