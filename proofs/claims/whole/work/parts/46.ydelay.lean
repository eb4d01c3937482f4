/-! ===== the reference: both closed; delay: the machine ===== -/
def SRT (L : List (Int32 × Nat)) (z : Option (Int32 × Nat)) : Prop := L.Pairwise (fun x y => x.2 ≤ y.2) ∧ ∀ w, z = some w → ∀ x ∈ L, x.2 ≤ w.2
theorem yk_tim {m m' : Nat} (h : m ≤ m') : tim m ≤ tim m' := by unfold tim; exact Nat.div_le_div_right h
theorem yk_ck {p m m' : Nat} (hp : p < 9) (h : m ≤ m') : ckm p m ≤ ckm p m' := by
  rcases Nat.lt_or_ge (ckm p m') (ckm p m) with y | y
  · exfalso
    have h2 := yt_ck2 (m := m') hp
    rcases yt_ck (m := m) hp with w | w
    · have : tm (ckm p m' + 1) p ≤ tm (ckm p m) p := by
        unfold tm
        exact Nat.add_le_add_right (Nat.mul_le_mul_right _ y) _
      omega
    · have : ckm p m = 0 := by unfold ckm; split <;> omega
      omega
  · exact y
def due (bn : Nat) (x : Int32 × Nat) : Nat := tim x.2 + bn
def rel (p bn : Nat) (x : Int32 × Nat) : Int32 × Nat := (x.1, tm (due bn x) p)
def qv (bn : Nat) (x : Int32 × Nat) : Int32 × Nat := (x.1, due bn x)
/-- released by clock c, still waiting at clock c -/
def dlo (bn c : Nat) (P : List (Int32 × Nat)) : List (Int32 × Nat) := P.filter (fun x => decide (due bn x ≤ c))
def dhi (bn c : Nat) (P : List (Int32 × Nat)) : List (Int32 × Nat) := P.filter (fun x => decide (c < due bn x))
def deq (bn c : Nat) (P : List (Int32 × Nat)) : List (Int32 × Nat) := P.filter (fun x => decide (due bn x = c))
def dmid (bn c t : Nat) (P : List (Int32 × Nat)) : List (Int32 × Nat) := P.filter (fun x => decide (c < due bn x ∧ due bn x ≤ t))
theorem yk_nil {bn c : Nat} {P : List (Int32 × Nat)} (h : ∀ x ∈ P, c < due bn x) : dlo bn c P = [] := by
  unfold dlo
  rw [List.filter_eq_nil_iff]
  intro x hx
  have := h x hx
  simp
  omega
theorem yk_split {bn c t : Nat} (hct : c ≤ t) : ∀ P : List (Int32 × Nat), P.Pairwise (fun x y => x.2 ≤ y.2) → dlo bn t P = dlo bn c P ++ dmid bn c t P := by
  intro P
  induction P with
  | nil => intro _; rfl
  | cons x P ih =>
    intro hs
    rw [List.pairwise_cons] at hs
    have ih' := ih hs.2
    by_cases h1 : due bn x ≤ c
    · have e1 : dlo bn t (x :: P) = x :: dlo bn t P := List.filter_cons_of_pos (by simp; omega)
      have e2 : dlo bn c (x :: P) = x :: dlo bn c P := List.filter_cons_of_pos (by simp; omega)
      have e3 : dmid bn c t (x :: P) = dmid bn c t P := List.filter_cons_of_neg (by simp; omega)
      rw [e1, e2, e3, ih']; rfl
    · have hn : ∀ y ∈ P, c < due bn y := fun y hy => by
        have := yk_tim (hs.1 y hy)
        unfold due at h1 ⊢
        omega
      have e2 : dlo bn c (x :: P) = [] := yk_nil (fun y hy => by rcases List.mem_cons.mp hy with w | w; subst w; omega; exact hn y w)
      have e0 : dlo bn c P = [] := yk_nil hn
      rw [e2, List.nil_append]
      rw [e0, List.nil_append] at ih'
      by_cases h2 : due bn x ≤ t
      · rw [show dlo bn t (x :: P) = x :: dlo bn t P from List.filter_cons_of_pos (by simp; omega), show dmid bn c t (x :: P) = x :: dmid bn c t P from List.filter_cons_of_pos (by simp; omega), ih']
      · rw [show dlo bn t (x :: P) = dlo bn t P from List.filter_cons_of_neg (by simp; omega), show dmid bn c t (x :: P) = dmid bn c t P from List.filter_cons_of_neg (by simp; omega), ih']
theorem yk_hi1 {bn c : Nat} : ∀ P : List (Int32 × Nat), P.Pairwise (fun x y => x.2 ≤ y.2) → dhi bn c P = deq bn (c + 1) P ++ dhi bn (c + 1) P := by
  intro P
  induction P with
  | nil => intro _; rfl
  | cons x P ih =>
    intro hs
    rw [List.pairwise_cons] at hs
    have ih' := ih hs.2
    rcases Nat.lt_trichotomy (due bn x) (c + 1) with h | h | h
    · rw [show dhi bn c (x :: P) = dhi bn c P from List.filter_cons_of_neg (by simp; omega), show deq bn (c + 1) (x :: P) = deq bn (c + 1) P from List.filter_cons_of_neg (by simp; omega), show dhi bn (c + 1) (x :: P) = dhi bn (c + 1) P from List.filter_cons_of_neg (by simp; omega), ih']
    · rw [show dhi bn c (x :: P) = x :: dhi bn c P from List.filter_cons_of_pos (by simp; omega), show deq bn (c + 1) (x :: P) = x :: deq bn (c + 1) P from List.filter_cons_of_pos (by simp; omega), show dhi bn (c + 1) (x :: P) = dhi bn (c + 1) P from List.filter_cons_of_neg (by simp; omega), ih']; rfl
    · have hn : deq bn (c + 1) P = [] := by
        unfold deq
        rw [List.filter_eq_nil_iff]
        intro y hy
        have := yk_tim (hs.1 y hy)
        unfold due at h ⊢
        simp
        omega
      rw [hn, List.nil_append] at ih'
      rw [show dhi bn c (x :: P) = x :: dhi bn c P from List.filter_cons_of_pos (by simp; omega), show deq bn (c + 1) (x :: P) = deq bn (c + 1) P from List.filter_cons_of_neg (by simp; omega), show dhi bn (c + 1) (x :: P) = x :: dhi bn (c + 1) P from List.filter_cons_of_pos (by simp; omega), hn, ih']; rfl
theorem yk_lo1 {bn c : Nat} {P : List (Int32 × Nat)} (hs : P.Pairwise (fun x y => x.2 ≤ y.2)) : dlo bn (c + 1) P = dlo bn c P ++ deq bn (c + 1) P := by
  rw [yk_split (c := c) (t := c + 1) (by omega) P hs]
  congr 1
  unfold dmid deq
  congr 1
  funext x
  exact decide_eq_decide.mpr ⟨fun h => by omega, fun h => by omega⟩
/-- the machine's state at clock c -/
def DS (bn c dd cx : Nat) (h hy : Int32) (f fy qx ox oy : Bool) (P : List (Int32 × Nat)) : PSt := (dd, cx, h, hy, f, fy, qx, (dhi bn c P).map (qv bn), ox, oy)
theorem yk_rdy {bn c : Nat} {P : List (Int32 × Nat)} (hs : P.Pairwise (fun x y => x.2 ≤ y.2)) : rdy (c + 1) ((dhi bn c P).map (qv bn)) = (deq bn (c + 1) P).length := by
  unfold rdy
  rw [yk_hi1 P hs, List.map_append, List.filter_append, List.length_append]
  have e1 : ((deq bn (c + 1) P).map (qv bn)).filter (fun e => e.2 == c + 1) = (deq bn (c + 1) P).map (qv bn) := by
    rw [List.filter_eq_self]
    intro e he
    obtain ⟨x, hx, rfl⟩ := List.mem_map.mp he
    have := (List.mem_filter.mp hx).2
    simpa [qv] using this
  have e2 : ((dhi bn (c + 1) P).map (qv bn)).filter (fun e => e.2 == c + 1) = [] := by
    rw [List.filter_eq_nil_iff]
    intro e he
    obtain ⟨x, hx, rfl⟩ := List.mem_map.mp he
    have := (List.mem_filter.mp hx).2
    simp [qv] at this ⊢
    omega
  rw [e1, e2]
  simp
theorem yk_fi {bn c dd cx : Nat} {a b h hy : Int32} {f fy qx ox oy : Bool} {P : List (Int32 × Nat)} (hs : P.Pairwise (fun x y => x.2 ≤ y.2)) : fi 11 a b (c + 1) (DS bn c dd cx h hy f fy qx ox oy P) = (DS bn (c + 1) dd cx h hy f fy qx ox oy P, (deq bn (c + 1) P).map (fun x => (1, x.1)) ++ if dd = c + 1 then [(2, 0)] else []) := by
  unfold DS
  simp only [fi]
  rw [yk_rdy hs, yk_hi1 P hs, List.map_append]
  have hl : (deq bn (c + 1) P).length = ((deq bn (c + 1) P).map (qv bn)).length := by simp
  rw [hl, List.drop_left, List.take_left, List.map_map]
  rfl
theorem yk_rel {p bn c : Nat} {P : List (Int32 × Nat)} (Lo : List (Int32 × Nat)) : evs Lo none ++ ems (tm c p) ((deq bn c P).map (fun x => (1, x.1))) = evs (Lo ++ (deq bn c P).map (rel p bn)) none := by
  have key : ems (tm c p) ((deq bn c P).map (fun x => (1, x.1))) = ((deq bn c P).map (rel p bn)).map (fun x => (1, x.1, x.2)) := by
    unfold ems
    rw [List.map_map, List.map_map]
    refine List.map_congr_left (fun x hx => ?_)
    have := (List.mem_filter.mp hx).2
    have e : due bn x = c := by simpa using this
    show (1, x.1, tm c p) = (1, x.1, tm (due bn x) p)
    rw [e]
  rw [key]
  unfold evs
  rw [List.append_nil, List.append_nil, List.map_append]
theorem yk_tms {p bn c0 dd cx : Nat} {a b h hy : Int32} {f fy qx ox oy : Bool} {P : List (Int32 × Nat)} (hp : p < 9) (hs : P.Pairwise (fun x y => x.2 ≤ y.2)) : ∀ D : Nat, (dd = 0 ∨ c0 + D < dd) → (tms p c0 D).foldl (stp 11 a b) (DS bn c0 dd cx h hy f fy qx ox oy P, evs ((dlo bn c0 P).map (rel p bn)) none) = (DS bn (c0 + D) dd cx h hy f fy qx ox oy P, evs ((dlo bn (c0 + D) P).map (rel p bn)) none) := by
  intro D
  induction D with
  | zero => intro _; rfl
  | succ D ih =>
    intro hd
    rw [tp_tms, tp_foldl_snoc, ih (by omega), rn_stp_go (yo_fin _)]
    have e : rsp 11 a b (DS bn (c0 + D) dd cx h hy f fy qx ox oy P) (2, 0, 0, tm (c0 + D + 1) p) = (DS bn (c0 + D + 1) dd cx h hy f fy qx ox oy P, (deq bn (c0 + D + 1) P).map (fun x => (1, x.1))) := by
      show (if (2 : Nat) = 2 then fi 11 a b (tim (tm (c0 + D + 1) p)) (DS bn (c0 + D) dd cx h hy f fy qx ox oy P) else _) = _
      rw [if_pos rfl, tim_tm hp, yk_fi hs, if_neg (by omega), List.append_nil]
    dsimp only
    rw [e]
    dsimp only
    rw [yk_rel, ← List.map_append, ← yk_lo1 hs]
    rfl
