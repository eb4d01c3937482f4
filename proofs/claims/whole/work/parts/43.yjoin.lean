/-! ===== the reference: both, the loop ===== -/
theorem ye_mx {ex : Inp} {xs ys : List Inp} (h : ∀ ey, ys.head? = some ey → ¬ ey.2.2.2 < ex.2.2.2) : mrg (ex :: xs) ys = ex :: mrg xs ys := by
  cases ys with
  | nil => rw [tp_mrg_nil, tp_mrg_nil]
  | cons y ys => exact tp_mrg_x (h y rfl)
theorem ye_my {ey : Inp} {xs ys : List Inp} (h : ∀ ex, xs.head? = some ex → ey.2.2.2 < ex.2.2.2) : mrg xs (ey :: ys) = ey :: mrg xs ys := by
  cases xs with
  | nil => rfl
  | cons x xs => exact tp_mrg_y (h x rfl)
theorem ye_hd {s : Nat} {H : List Ev} {i : Nat} : (tg s (H.drop i)).head? = (H[i]?).map (fun e => (s, e)) := by
  unfold tg
  rw [List.head?_map, List.head?_drop]
/-- the machine's state by the counts -/
def JI (k i j : Nat) (Lx Ly : List (Int32 × Nat)) : PSt → Prop
  | (_, _, h, hy, f, fy, qx, q, ox, oy) =>
    ox = decide (Lx.length < i) ∧ oy = decide (Ly.length < j) ∧
    (k = 18 → f = decide (0 < mn i Lx.length) ∧ fy = decide (0 < mn j Ly.length) ∧ (∀ x, 0 < mn i Lx.length → Lx[mn i Lx.length - 1]? = some x → h = x.1) ∧ (∀ x, 0 < mn j Ly.length → Ly[mn j Ly.length - 1]? = some x → hy = x.1)) ∧
    (k = 17 → (mn j Ly.length ≤ mn i Lx.length → q = ((Lx.drop (mn j Ly.length)).take (mn i Lx.length - mn j Ly.length)).map (fun x => (x.1, 0))) ∧ (mn i Lx.length < mn j Ly.length → q = ((Ly.drop (mn i Lx.length)).take (mn j Ly.length - mn i Lx.length)).map (fun x => (x.1, 0))) ∧ (mn j Ly.length < mn i Lx.length → qx = true) ∧ (mn i Lx.length < mn j Ly.length → qx = false) ∧ mn i Lx.length - mn j Ly.length ≤ 8 ∧ mn j Ly.length - mn i Lx.length ≤ 8)
theorem ye_mn1 {i n : Nat} (h : i < n) : mn i n = i ∧ mn (i + 1) n = i + 1 := by
  unfold mn
  refine ⟨if_pos h, ?_⟩
  by_cases h2 : i + 1 < n
  · rw [if_pos h2]
  · rw [if_neg h2]; omega
theorem ye_mn2 (n : Nat) : mn n n = n ∧ mn (n + 1) n = n := by
  unfold mn
  exact ⟨if_neg (Nat.lt_irrefl n), if_neg (by omega)⟩
theorem ye_mnle (j m : Nat) : mn j m ≤ m ∧ mn j m ≤ j := by unfold mn; split <;> omega
theorem ye_take1 {L : List (Int32 × Nat)} {c i : Nat} {x : Int32 × Nat} (hc : c ≤ i) (hx : L[i]? = some x) : (L.drop c).take (i + 1 - c) = (L.drop c).take (i - c) ++ [x] := by
  rw [show i + 1 - c = (i - c) + 1 from by omega, List.take_add_one, List.getElem?_drop, show c + (i - c) = i from by omega, hx]
  rfl
theorem ye_take2 {L : List (Int32 × Nat)} {i c : Nat} {y : Int32 × Nat} (hc : i < c) (hy : L[i]? = some y) : (L.drop i).take (c - i) = y :: (L.drop (i + 1)).take (c - (i + 1)) := by
  obtain ⟨hl, hv⟩ := List.getElem?_eq_some_iff.mp hy
  rw [List.drop_eq_getElem_cons hl, hv, show c - i = (c - (i + 1)) + 1 from by omega, List.take_succ_cons]

theorem ye_item16 {a b : Int32} {Lo : List (Int32 × Nat)} {S : PSt} {v : Int32} {m s : Nat} (hs : s < 2) : stp 16 a b (S, evs Lo none) (s, 1, v, m) = (S, evs (Lo ++ [(v, m)]) none) := by
  rw [rn_stp_go (yo_fin Lo), yo_snoc]
  obtain ⟨d, c, h, hy, f, fy, qx, q, ox, oy⟩ := S
  unfold rsp
  rw [if_neg (by show ¬ s = 2; omega)]
  rfl
theorem ye_err {k s : Nat} {a b : Int32} {Lo : List (Int32 × Nat)} {S : PSt} {v : Int32} {m : Nat} (hk : k < 20) (hs : s < 2) (hv : v ≠ 0) : (stp k a b (S, evs Lo none) (s, (if v = 0 then 2 else 3), v, m)).2 = evs Lo (some (v, m)) := by
  rw [rn_stp_go (yo_fin Lo), yo_end, if_neg hv]
  obtain ⟨d, c, h, hy, f, fy, qx, q, ox, oy⟩ := S
  unfold rsp
  rw [if_neg (by show ¬ s = 2; omega)]
  have e : he k (s == 0) v (d, c, h, hy, f, fy, qx, q, ox, oy) = ((d, c, h, hy, f, fy, qx, q, ox, oy), [(3, v)]) := by
    have hk20 : ¬ (k = 20 ∧ (s == 0) = true) := by omega
    simp only [he, if_neg hk20]
  show evs Lo none ++ ems m (he k (s == 0) v (d, c, h, hy, f, fy, qx, q, ox, oy)).2 = _
  rw [e]
  rfl

/-- a complete of one side -/
theorem ye_compx {k j : Nat} {a b : Int32} {Lx Ly Lo : List (Int32 × Nat)} {S : PSt} {m : Nat} (hk : k = 16 ∨ k = 17 ∨ k = 18) (hJ : JI k Lx.length j Lx Ly S) (hc : cmp k Lx.length j Lx.length Ly.length = false) : ∃ S', stp k a b (S, evs Lo none) (0, 2, 0, m) = (S', if cmp k (Lx.length + 1) j Lx.length Ly.length = true then evs Lo (some (0, m)) else evs Lo none) ∧ JI k (Lx.length + 1) j Lx Ly S' := by
  obtain ⟨d, c, h, hy, f, fy, qx, q, ox, oy⟩ := S
  obtain ⟨j1, j2, j3, j4⟩ := hJ
  obtain ⟨n1, n2⟩ := ye_mn2 Lx.length
  rw [n1] at j3 j4
  have d1 : decide (Lx.length < Lx.length + 1) = true := decide_eq_true (by omega)
  have d0 : decide (Lx.length < Lx.length) = false := decide_eq_false (by omega)
  rw [d0] at j1
  rw [rn_stp_go (yo_fin Lo)]
  refine ⟨(d, c, h, hy, f, fy, qx, q, true, oy), ?_, ?_⟩
  · rcases hk with e | e | e
    · subst e
      have hcm : cmp 16 (Lx.length + 1) j Lx.length Ly.length = oy := by simp [cmp, j2]
      rw [hcm]
      show ((d, c, h, hy, f, fy, qx, q, true, oy), evs Lo none ++ ems m (if oy = true then [(2, 0)] else [])) = _
      cases oy
      · simp [ems]
      · rw [if_pos rfl, if_pos rfl, yo_end]; rfl
    · subst e
      obtain ⟨k1, k2, k3, k4, k5, k6⟩ := j4 rfl
      have hcm : cmp 17 (Lx.length + 1) j Lx.length Ly.length = decide (q = [] ∨ qx ≠ true) := by
        have hold : cmp 17 Lx.length j Lx.length Ly.length = (oy && decide (mn j Ly.length ≤ Lx.length)) := by
          rw [j2]; simp [cmp, n1]
        rw [hold] at hc
        have hnew : cmp 17 (Lx.length + 1) j Lx.length Ly.length = (decide (Lx.length ≤ mn j Ly.length) || (oy && decide (mn j Ly.length ≤ Lx.length))) := by
          rw [j2]; simp [cmp, n2]
        rw [hnew, hc, Bool.or_false]
        congr 1
        apply propext
        rcases Nat.lt_trichotomy (mn j Ly.length) Lx.length with y | y | y
        · have hq := k1 (by omega)
          have hqx := k3 y
          constructor
          · intro z; omega
          · rintro (z | z)
            · rw [hq] at z
              have hl := congrArg List.length z
              simp at hl
              omega
            · exact absurd hqx z
        · have hq := k1 (by omega)
          rw [y, Nat.sub_self, List.take_zero] at hq
          exact ⟨fun _ => Or.inl hq, fun _ => by omega⟩
        · have hqx := k4 y
          exact ⟨fun _ => Or.inr (by rw [hqx]; decide), fun _ => by omega⟩
      rw [hcm]
      show ((d, c, h, hy, f, fy, qx, q, true, oy), evs Lo none ++ ems m (if q = [] ∨ qx ≠ true then [(2, 0)] else [])) = _
      by_cases hh : q = [] ∨ qx ≠ true
      · rw [if_pos hh, if_pos (decide_eq_true hh), yo_end]; rfl
      · rw [if_neg hh, if_neg (by rw [decide_eq_false hh]; decide)]; simp [ems]
    · subst e
      obtain ⟨k1, k2, k3, k4⟩ := j3 rfl
      have hold : cmp 18 Lx.length j Lx.length Ly.length = (oy && decide (Ly.length = 0)) := by
        rw [j2]; simp [cmp]
      rw [hold] at hc
      have hcm : cmp 18 (Lx.length + 1) j Lx.length Ly.length = decide (oy = true ∨ f = false) := by
        have hnew : cmp 18 (Lx.length + 1) j Lx.length Ly.length = (decide (Lx.length = 0) || (oy && decide (Ly.length = 0)) || oy) := by
          rw [j2]; simp [cmp]
        rw [hnew, hc, k1]
        by_cases h0 : Lx.length = 0
        · rw [decide_eq_true h0]; cases oy <;> simp [h0]
        · rw [decide_eq_false h0, decide_eq_true (show 0 < Lx.length by omega)]; cases oy <;> simp
      rw [hcm]
      show ((d, c, h, hy, f, fy, qx, q, true, oy), evs Lo none ++ ems m (if oy = true ∨ f = false then [(2, 0)] else [])) = _
      by_cases hh : oy = true ∨ f = false
      · rw [if_pos hh, if_pos (decide_eq_true hh), yo_end]; rfl
      · rw [if_neg hh, if_neg (by rw [decide_eq_false hh]; decide)]; simp [ems]
  · exact ⟨d1.symm, j2, by rw [n2]; exact j3, by rw [n2]; exact j4⟩
theorem ye_compy {k i : Nat} {a b : Int32} {Lx Ly Lo : List (Int32 × Nat)} {S : PSt} {m : Nat} (hk : k = 16 ∨ k = 17 ∨ k = 18) (hJ : JI k i Ly.length Lx Ly S) (hc : cmp k i Ly.length Lx.length Ly.length = false) : ∃ S', stp k a b (S, evs Lo none) (1, 2, 0, m) = (S', if cmp k i (Ly.length + 1) Lx.length Ly.length = true then evs Lo (some (0, m)) else evs Lo none) ∧ JI k i (Ly.length + 1) Lx Ly S' := by
  obtain ⟨d, c, h, hy, f, fy, qx, q, ox, oy⟩ := S
  obtain ⟨j1, j2, j3, j4⟩ := hJ
  obtain ⟨n1, n2⟩ := ye_mn2 Ly.length
  rw [n1] at j3 j4
  have d1 : decide (Ly.length < Ly.length + 1) = true := decide_eq_true (by omega)
  have d0 : decide (Ly.length < Ly.length) = false := decide_eq_false (by omega)
  rw [d0] at j2
  rw [rn_stp_go (yo_fin Lo)]
  refine ⟨(d, c, h, hy, f, fy, qx, q, ox, true), ?_, ?_⟩
  · rcases hk with e | e | e
    · subst e
      have hcm : cmp 16 i (Ly.length + 1) Lx.length Ly.length = ox := by simp [cmp, j1]
      rw [hcm]
      show ((d, c, h, hy, f, fy, qx, q, ox, true), evs Lo none ++ ems m (if ox = true then [(2, 0)] else [])) = _
      cases ox
      · simp [ems]
      · rw [if_pos rfl, if_pos rfl, yo_end]; rfl
    · subst e
      obtain ⟨k1, k2, k3, k4, k5, k6⟩ := j4 rfl
      have hcm : cmp 17 i (Ly.length + 1) Lx.length Ly.length = decide (q = [] ∨ qx ≠ false) := by
        have hold : cmp 17 i Ly.length Lx.length Ly.length = (ox && decide (mn i Lx.length ≤ Ly.length)) := by
          rw [j1]; simp [cmp, n1]
        rw [hold] at hc
        have hnew : cmp 17 i (Ly.length + 1) Lx.length Ly.length = ((ox && decide (mn i Lx.length ≤ Ly.length)) || decide (Ly.length ≤ mn i Lx.length)) := by
          rw [j1]; simp [cmp, n2]
        rw [hnew, hc, Bool.false_or]
        congr 1
        apply propext
        rcases Nat.lt_trichotomy (mn i Lx.length) Ly.length with y | y | y
        · have hq := k2 y
          have hqx := k4 y
          constructor
          · intro z; omega
          · rintro (z | z)
            · rw [hq] at z
              have hl := congrArg List.length z
              simp at hl
              omega
            · exact absurd hqx z
        · have hq := k1 (by omega)
          rw [y, Nat.sub_self, List.take_zero] at hq
          exact ⟨fun _ => Or.inl hq, fun _ => by omega⟩
        · have hqx := k3 y
          exact ⟨fun _ => Or.inr (by rw [hqx]; decide), fun _ => by omega⟩
      rw [hcm]
      show ((d, c, h, hy, f, fy, qx, q, ox, true), evs Lo none ++ ems m (if q = [] ∨ qx ≠ false then [(2, 0)] else [])) = _
      by_cases hh : q = [] ∨ qx ≠ false
      · rw [if_pos hh, if_pos (decide_eq_true hh), yo_end]; rfl
      · rw [if_neg hh, if_neg (by rw [decide_eq_false hh]; decide)]; simp [ems]
    · subst e
      obtain ⟨k1, k2, k3, k4⟩ := j3 rfl
      have hold : cmp 18 i Ly.length Lx.length Ly.length = (ox && decide (Lx.length = 0)) := by
        rw [j1]; simp [cmp]
      rw [hold] at hc
      have hcm : cmp 18 i (Ly.length + 1) Lx.length Ly.length = decide (ox = true ∨ fy = false) := by
        have hnew : cmp 18 i (Ly.length + 1) Lx.length Ly.length = ((ox && decide (Lx.length = 0)) || decide (Ly.length = 0) || ox) := by
          rw [j1]; simp [cmp]
        rw [hnew, hc, k2]
        by_cases h0 : Ly.length = 0
        · rw [decide_eq_true h0]; cases ox <;> simp [h0]
        · rw [decide_eq_false h0, decide_eq_true (show 0 < Ly.length by omega)]; cases ox <;> simp
      rw [hcm]
      show ((d, c, h, hy, f, fy, qx, q, ox, true), evs Lo none ++ ems m (if ox = true ∨ fy = false then [(2, 0)] else [])) = _
      by_cases hh : ox = true ∨ fy = false
      · rw [if_pos hh, if_pos (decide_eq_true hh), yo_end]; rfl
      · rw [if_neg hh, if_neg (by rw [decide_eq_false hh]; decide)]; simp [ems]
  · exact ⟨j1, d1.symm, by rw [n2]; exact j3, by rw [n2]; exact j4⟩
