/-! ===== joins: the machine hears an item ===== -/
theorem yg_18x {i j : Nat} {a b : Int32} {Lx Ly Lo : List (Int32 × Nat)} {S : PSt} {x : Int32 × Nat} (hx : Lx[i]? = some x) (hJ : JI 18 i j Lx Ly S) (hc : cmp 18 i j Lx.length Ly.length = false) : ∃ S', JI 18 (i + 1) j Lx Ly S' ∧ cmp 18 (i + 1) j Lx.length Ly.length = false ∧ (mn j Ly.length = 0 → stp 18 a b (S, evs Lo none) (0, 1, x.1, x.2) = (S', evs Lo none)) ∧ (∀ y, 0 < mn j Ly.length → Ly[mn j Ly.length - 1]? = some y → stp 18 a b (S, evs Lo none) (0, 1, x.1, x.2) = (S', evs (Lo ++ [(31 * x.1 + y.1, x.2)]) none)) := by
  obtain ⟨d, c, h, hy, f, fy, qx, q, ox, oy⟩ := S
  obtain ⟨j1, j2, j3, j4⟩ := hJ
  obtain ⟨k1, k2, k3, k4⟩ := j3 rfl
  have hil := yb_idx hx
  obtain ⟨n1, n2⟩ := ye_mn1 hil
  have d0 : decide (Lx.length < i) = false := decide_eq_false (by omega)
  have d1 : decide (Lx.length < i + 1) = false := decide_eq_false (by omega)
  refine ⟨(d, c, x.1, hy, true, fy, qx, q, ox, oy), ⟨by rw [j1, d0, d1], j2, fun _ => ⟨?_, k2, ?_, k4⟩, fun z => by omega⟩, ?_, fun h0 => ?_, fun y h0 hyy => ?_⟩
  · rw [n2]; exact (decide_eq_true (by omega)).symm
  · intro x' _ hx'
    rw [n2, Nat.add_sub_cancel, hx] at hx'
    cases hx'
    rfl
  · simp only [cmp] at hc ⊢
    rw [d0] at hc
    rw [d1]
    simpa using hc
  · have hfy : fy = false := by rw [k2, h0]; rfl
    rw [yo_item, hfy]
    show (_, evs Lo none ++ []) = _
    rw [List.append_nil]
    rfl
  · have hfy : fy = true := by rw [k2]; exact decide_eq_true h0
    rw [yo_item, hfy, yo_snoc, ← k4 y h0 hyy]
    rfl
theorem yg_18y {i j : Nat} {a b : Int32} {Lx Ly Lo : List (Int32 × Nat)} {S : PSt} {x : Int32 × Nat} (hx : Ly[j]? = some x) (hJ : JI 18 i j Lx Ly S) (hc : cmp 18 i j Lx.length Ly.length = false) : ∃ S', JI 18 i (j + 1) Lx Ly S' ∧ cmp 18 i (j + 1) Lx.length Ly.length = false ∧ (mn i Lx.length = 0 → stp 18 a b (S, evs Lo none) (1, 1, x.1, x.2) = (S', evs Lo none)) ∧ (∀ y, 0 < mn i Lx.length → Lx[mn i Lx.length - 1]? = some y → stp 18 a b (S, evs Lo none) (1, 1, x.1, x.2) = (S', evs (Lo ++ [(31 * y.1 + x.1, x.2)]) none)) := by
  obtain ⟨d, c, h, hy, f, fy, qx, q, ox, oy⟩ := S
  obtain ⟨j1, j2, j3, j4⟩ := hJ
  obtain ⟨k1, k2, k3, k4⟩ := j3 rfl
  have hil := yb_idx hx
  obtain ⟨n1, n2⟩ := ye_mn1 hil
  have d0 : decide (Ly.length < j) = false := decide_eq_false (by omega)
  have d1 : decide (Ly.length < j + 1) = false := decide_eq_false (by omega)
  refine ⟨(d, c, h, x.1, f, true, qx, q, ox, oy), ⟨j1, by rw [j2, d0, d1], fun _ => ⟨k1, ?_, k3, ?_⟩, fun z => by omega⟩, ?_, fun h0 => ?_, fun y h0 hyy => ?_⟩
  · rw [n2]; exact (decide_eq_true (by omega)).symm
  · intro x' _ hx'
    rw [n2, Nat.add_sub_cancel, hx] at hx'
    cases hx'
    rfl
  · simp only [cmp] at hc ⊢
    rw [d0] at hc
    rw [d1]
    simpa using hc
  · have hf : f = false := by rw [k1, h0]; rfl
    rw [rn_stp_go (yo_fin Lo), hf]
    show (_, evs Lo none ++ []) = _
    rw [List.append_nil]
    rfl
  · have hf : f = true := by rw [k1]; exact decide_eq_true h0
    rw [rn_stp_go (yo_fin Lo), hf, yo_snoc, ← k3 y h0 hyy]
    rfl
theorem yg_17x {i j : Nat} {a b : Int32} {Lx Ly Lo : List (Int32 × Nat)} {S : PSt} {x : Int32 × Nat} (hx : Lx[i]? = some x) (hJ : JI 17 i j Lx Ly S) (hc : cmp 17 i j Lx.length Ly.length = false) :
    (∀ y, i < mn j Ly.length → Ly[i]? = some y → ∃ S', stp 17 a b (S, evs Lo none) (0, 1, x.1, x.2) = (S', if cmp 17 (i + 1) j Lx.length Ly.length = true then evs (Lo ++ [(31 * x.1 + y.1, x.2)]) (some (0, x.2)) else evs (Lo ++ [(31 * x.1 + y.1, x.2)]) none) ∧ JI 17 (i + 1) j Lx Ly S') ∧
    (mn j Ly.length ≤ i → i - mn j Ly.length < 8 → cmp 17 (i + 1) j Lx.length Ly.length = false ∧ ∃ S', stp 17 a b (S, evs Lo none) (0, 1, x.1, x.2) = (S', evs Lo none) ∧ JI 17 (i + 1) j Lx Ly S') ∧
    (mn j Ly.length ≤ i → ¬ i - mn j Ly.length < 8 → (stp 17 a b (S, evs Lo none) (0, 1, x.1, x.2)).2 = evs Lo (some (8, x.2))) := by
  obtain ⟨d, c, h, hy, f, fy, qx, q, ox, oy⟩ := S
  obtain ⟨j1, j2, j3, j4⟩ := hJ
  obtain ⟨k1, k2, k3, k4, k5, k6⟩ := j4 rfl
  have hil := yb_idx hx
  obtain ⟨n1, n2⟩ := ye_mn1 hil
  rw [n1] at k1 k2 k3 k4 k5 k6
  have d0 : decide (Lx.length < i) = false := decide_eq_false (by omega)
  have d1 : decide (Lx.length < i + 1) = false := decide_eq_false (by omega)
  have hold : cmp 17 i j Lx.length Ly.length = (oy && decide (mn j Ly.length ≤ i)) := by rw [j2]; simp [cmp, d0, n1]
  have hnew : cmp 17 (i + 1) j Lx.length Ly.length = (oy && decide (mn j Ly.length ≤ i + 1)) := by rw [j2]; simp [cmp, d1, n2]
  refine ⟨fun y hlt hyy => ?_, fun hle h8 => ?_, fun hle h8 => ?_⟩
  · have hq := k2 hlt
    rw [ye_take2 hlt hyy, List.map_cons] at hq
    have hqx := k4 hlt
    subst hq hqx
    refine ⟨(d, c, h, hy, f, fy, false, ((Ly.drop (i + 1)).take (mn j Ly.length - (i + 1))).map (fun x => (x.1, 0)), ox, oy), ?_, ⟨by rw [j1, d0, d1], j2, fun z => by omega, fun _ => ?_⟩⟩
    · rw [yo_item]
      have hcm : (((Ly.drop (i + 1)).take (mn j Ly.length - (i + 1))).map (fun x : Int32 × Nat => (x.1, (0 : Nat))) = [] ∧ oy = true) ↔ cmp 17 (i + 1) j Lx.length Ly.length = true := by
        rw [hnew, Bool.and_eq_true, decide_eq_true_eq]
        have hmle := ye_mnle j Ly.length
        constructor
        · rintro ⟨h1, h2⟩
          refine ⟨h2, ?_⟩
          have hl := congrArg List.length h1
          simp at hl
          omega
        · rintro ⟨h1, h2⟩
          refine ⟨?_, h1⟩
          rw [show mn j Ly.length - (i + 1) = 0 from by omega, List.take_zero]
          rfl
      have ehi : hi 17 b (tim x.2) true x.1 (d, c, h, hy, f, fy, false, (y.1, 0) :: ((Ly.drop (i + 1)).take (mn j Ly.length - (i + 1))).map (fun x => (x.1, 0)), ox, oy) = ((d, c, h, hy, f, fy, false, ((Ly.drop (i + 1)).take (mn j Ly.length - (i + 1))).map (fun x => (x.1, 0)), ox, oy), (1, 31 * x.1 + y.1) :: if ((Ly.drop (i + 1)).take (mn j Ly.length - (i + 1))).map (fun x : Int32 × Nat => (x.1, (0 : Nat))) = [] ∧ oy = true then [(2, 0)] else []) := by
        simp only [hi, if_neg (show ¬ false = true from by decide), if_true]
      rw [ehi]
      by_cases hh : cmp 17 (i + 1) j Lx.length Ly.length = true
      · rw [if_pos hh, if_pos (hcm.mpr hh), yo_end, yo_snoc]
        simp [ems]
      · rw [if_neg hh, if_neg (fun z => hh (hcm.mp z)), yo_snoc]
        rfl
    · rw [n2]
      refine ⟨fun z => ?_, fun z => rfl, fun z => by omega, fun _ => rfl, by omega, by omega⟩
      rw [show mn j Ly.length - (i + 1) = 0 from by omega, List.take_zero, show i + 1 - mn j Ly.length = 0 from by omega, List.take_zero]
  · have hoy : oy = false := by
      rw [hold, decide_eq_true hle, Bool.and_true] at hc
      exact hc
    have hq := k1 hle
    refine ⟨by rw [hnew, hoy]; rfl, (d, c, h, hy, f, fy, true, q ++ [(x.1, 0)], ox, oy), ?_, ⟨by rw [j1, d0, d1], j2, fun z => by omega, fun _ => ?_⟩⟩
    · rw [yo_item]
      have hlen : q.length = i - mn j Ly.length := by rw [hq]; simp; omega
      have ehi : hi 17 b (tim x.2) true x.1 (d, c, h, hy, f, fy, qx, q, ox, oy) = ((d, c, h, hy, f, fy, true, q ++ [(x.1, 0)], ox, oy), []) := by
        cases q with
        | nil => rfl
        | cons e r =>
          have hqx : qx = true := k3 (by simp at hlen; omega)
          have hr : r.length < 7 := by simp at hlen; omega
          simp only [hi, if_pos hqx, if_pos hr]
      rw [ehi]
      show (_, evs Lo none ++ []) = _
      rw [List.append_nil]
    · rw [n2]
      refine ⟨fun z => ?_, fun z => by omega, fun _ => rfl, fun z => by omega, by omega, by omega⟩
      rw [ye_take1 hle hx, List.map_append, hq]
      rfl
  · have hq := k1 hle
    have hlen : q.length = i - mn j Ly.length := by rw [hq]; simp; omega
    rw [yo_item]
    have ehi : (hi 17 b (tim x.2) true x.1 (d, c, h, hy, f, fy, qx, q, ox, oy)).2 = [(3, 8)] := by
      cases q with
      | nil => simp at hlen; omega
      | cons e r =>
        have hqx : qx = true := k3 (by simp at hlen; omega)
        have hr : ¬ r.length < 7 := by simp at hlen; omega
        simp only [hi, if_pos hqx, if_neg hr]
    show evs Lo none ++ ems x.2 (hi 17 b (tim x.2) true x.1 (d, c, h, hy, f, fy, qx, q, ox, oy)).2 = _
    rw [ehi, yo_end]
    rfl
theorem yg_itemy {k : Nat} {a b : Int32} {S : PSt} {Lo : List (Int32 × Nat)} {v : Int32} {m : Nat} : stp k a b (S, evs Lo none) (1, 1, v, m) = ((hi k b (tim m) false v S).1, evs Lo none ++ ems m (hi k b (tim m) false v S).2) := by
  rw [rn_stp_go (yo_fin Lo)]
  rfl
theorem yg_17y {i j : Nat} {a b : Int32} {Lx Ly Lo : List (Int32 × Nat)} {S : PSt} {x : Int32 × Nat} (hx : Ly[j]? = some x) (hJ : JI 17 i j Lx Ly S) (hc : cmp 17 i j Lx.length Ly.length = false) :
    (∀ y, j < mn i Lx.length → Lx[j]? = some y → ∃ S', stp 17 a b (S, evs Lo none) (1, 1, x.1, x.2) = (S', if cmp 17 i (j + 1) Lx.length Ly.length = true then evs (Lo ++ [(31 * y.1 + x.1, x.2)]) (some (0, x.2)) else evs (Lo ++ [(31 * y.1 + x.1, x.2)]) none) ∧ JI 17 i (j + 1) Lx Ly S') ∧
    (mn i Lx.length ≤ j → j - mn i Lx.length < 8 → cmp 17 i (j + 1) Lx.length Ly.length = false ∧ ∃ S', stp 17 a b (S, evs Lo none) (1, 1, x.1, x.2) = (S', evs Lo none) ∧ JI 17 i (j + 1) Lx Ly S') ∧
    (mn i Lx.length ≤ j → ¬ j - mn i Lx.length < 8 → (stp 17 a b (S, evs Lo none) (1, 1, x.1, x.2)).2 = evs Lo (some (8, x.2))) := by
  obtain ⟨d, c, h, hy, f, fy, qx, q, ox, oy⟩ := S
  obtain ⟨j1, j2, j3, j4⟩ := hJ
  obtain ⟨k1, k2, k3, k4, k5, k6⟩ := j4 rfl
  have hil := yb_idx hx
  obtain ⟨n1, n2⟩ := ye_mn1 hil
  rw [n1] at k1 k2 k3 k4 k5 k6
  have d0 : decide (Ly.length < j) = false := decide_eq_false (by omega)
  have d1 : decide (Ly.length < j + 1) = false := decide_eq_false (by omega)
  have hold : cmp 17 i j Lx.length Ly.length = (ox && decide (mn i Lx.length ≤ j)) := by rw [j1]; simp [cmp, d0, n1]
  have hnew : cmp 17 i (j + 1) Lx.length Ly.length = (ox && decide (mn i Lx.length ≤ j + 1)) := by rw [j1]; simp [cmp, d1, n2]
  have hmle := ye_mnle i Lx.length
  refine ⟨fun y hlt hyy => ?_, fun hle h8 => ?_, fun hle h8 => ?_⟩
  · have hq := k1 (by omega)
    rw [ye_take2 hlt hyy, List.map_cons] at hq
    have hqx := k3 hlt
    subst hq hqx
    refine ⟨(d, c, h, hy, f, fy, true, ((Lx.drop (j + 1)).take (mn i Lx.length - (j + 1))).map (fun x => (x.1, 0)), ox, oy), ?_, ⟨j1, by rw [j2, d0, d1], fun z => by omega, fun _ => ?_⟩⟩
    · rw [yg_itemy]
      have hcm : (((Lx.drop (j + 1)).take (mn i Lx.length - (j + 1))).map (fun x : Int32 × Nat => (x.1, (0 : Nat))) = [] ∧ ox = true) ↔ cmp 17 i (j + 1) Lx.length Ly.length = true := by
        rw [hnew, Bool.and_eq_true, decide_eq_true_eq]
        constructor
        · rintro ⟨h1, h2⟩
          refine ⟨h2, ?_⟩
          have hl := congrArg List.length h1
          simp at hl
          omega
        · rintro ⟨h1, h2⟩
          refine ⟨?_, h1⟩
          rw [show mn i Lx.length - (j + 1) = 0 from by omega, List.take_zero]
          rfl
      have ehi : hi 17 b (tim x.2) false x.1 (d, c, h, hy, f, fy, true, (y.1, 0) :: ((Lx.drop (j + 1)).take (mn i Lx.length - (j + 1))).map (fun x => (x.1, 0)), ox, oy) = ((d, c, h, hy, f, fy, true, ((Lx.drop (j + 1)).take (mn i Lx.length - (j + 1))).map (fun x => (x.1, 0)), ox, oy), (1, 31 * y.1 + x.1) :: if ((Lx.drop (j + 1)).take (mn i Lx.length - (j + 1))).map (fun x : Int32 × Nat => (x.1, (0 : Nat))) = [] ∧ ox = true then [(2, 0)] else []) := by
        simp only [hi, if_neg (show ¬ true = false from by decide), if_neg (show ¬ false = true from by decide)]
      rw [ehi]
      by_cases hh : cmp 17 i (j + 1) Lx.length Ly.length = true
      · rw [if_pos hh, if_pos (hcm.mpr hh), yo_end, yo_snoc]
        simp [ems]
      · rw [if_neg hh, if_neg (fun z => hh (hcm.mp z)), yo_snoc]
        rfl
    · rw [n2]
      refine ⟨fun z => rfl, fun z => by omega, fun _ => rfl, fun z => by omega, by omega, by omega⟩
  · have hox : ox = false := by
      rw [hold, decide_eq_true hle, Bool.and_true] at hc
      exact hc
    have hq : q = ((Ly.drop (mn i Lx.length)).take (j - mn i Lx.length)).map (fun x => (x.1, 0)) := by
      by_cases e : mn i Lx.length = j
      · have := k1 (by omega)
        rw [this, show mn i Lx.length - j = 0 from by omega, show j - mn i Lx.length = 0 from by omega, List.take_zero, List.take_zero]
      · exact k2 (by omega)
    refine ⟨by rw [hnew, hox]; rfl, (d, c, h, hy, f, fy, false, q ++ [(x.1, 0)], ox, oy), ?_, ⟨j1, by rw [j2, d0, d1], fun z => by omega, fun _ => ?_⟩⟩
    · rw [yg_itemy]
      have hlen : q.length = j - mn i Lx.length := by rw [hq]; simp; omega
      have ehi : hi 17 b (tim x.2) false x.1 (d, c, h, hy, f, fy, qx, q, ox, oy) = ((d, c, h, hy, f, fy, false, q ++ [(x.1, 0)], ox, oy), []) := by
        cases q with
        | nil => rfl
        | cons e r =>
          have hqx : qx = false := k4 (by simp at hlen; omega)
          have hr : r.length < 7 := by simp at hlen; omega
          simp only [hi, if_pos hqx, if_pos hr]
      rw [ehi]
      show (_, evs Lo none ++ []) = _
      rw [List.append_nil]
    · rw [n2]
      refine ⟨fun z => by omega, fun z => ?_, fun z => by omega, fun _ => rfl, by omega, by omega⟩
      rw [ye_take1 hle hx, List.map_append, hq]
      rfl
  · have hq := k2 (by omega)
    have hlen : q.length = j - mn i Lx.length := by rw [hq]; simp; omega
    rw [yg_itemy]
    have ehi : (hi 17 b (tim x.2) false x.1 (d, c, h, hy, f, fy, qx, q, ox, oy)).2 = [(3, 8)] := by
      cases q with
      | nil => simp at hlen; omega
      | cons e r =>
        have hqx : qx = false := k4 (by simp at hlen; omega)
        have hr : ¬ r.length < 7 := by simp at hlen; omega
        simp only [hi, if_pos hqx, if_neg hr]
    show evs Lo none ++ ems x.2 (hi 17 b (tim x.2) false x.1 (d, c, h, hy, f, fy, qx, q, ox, oy)).2 = _
    rw [ehi, yo_end]
    rfl
