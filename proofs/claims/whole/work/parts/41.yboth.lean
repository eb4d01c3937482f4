/-! ===== the reference: both, the common walk ===== -/
def ze (z : Option (Int32 × Nat)) : Nat := match z with | none => 0 | some _ => 1
theorem yd_len (L : List (Int32 × Nat)) (z : Option (Int32 × Nat)) : (evs L z).length = L.length + ze z := by
  cases z <;> simp [evs, ze]
theorem yd_item {L : List (Int32 × Nat)} {z : Option (Int32 × Nat)} {i : Nat} (h : i < L.length) : (evs L z)[i]? = some (1, L[i].1, L[i].2) := by
  unfold evs
  rw [List.getElem?_append_left (by simpa using h)]
  simp [h]
theorem yd_endi {L : List (Int32 × Nat)} {v : Int32} {m : Nat} : (evs L (some (v, m)))[L.length]? = some (if v = 0 then 2 else 3, v, m) := by
  unfold evs
  rw [List.getElem?_append_right (by simp)]
  simp
theorem yd_drop {L : List (Int32 × Nat)} {z : Option (Int32 × Nat)} {i : Nat} {e : Ev} (h : (evs L z)[i]? = some e) : (evs L z).drop i = e :: (evs L z).drop (i + 1) := by
  obtain ⟨hl, hv⟩ := List.getElem?_eq_some_iff.mp h
  rw [List.drop_eq_getElem_cons hl, hv]
theorem yd_dropn {L : List (Int32 × Nat)} {z : Option (Int32 × Nat)} {i : Nat} (h : ¬ i < (evs L z).length) : (evs L z).drop i = [] := List.drop_eq_nil_iff.mpr (by omega)
section
variable {f_stages : Int32} {f_heard : Int32} {f_now : Int32} {f_calls : Int64} {f_parts : Int32} {f_start : Int64} {f_at : Int32} {f_nextX : Int32} {f_nextY : Int32} {f_x : Int32} {f_y : Int32} {a_kind : (Nat → Int32)} {a_opA : (Nat → Int32)} {a_opB : (Nat → Int32)} {a_heardBy : (Nat → Int32)} {a_what : (Nat → Int32)} {a_said : (Nat → Int32)} {a_when : (Nat → Int64)} {a_over : (Nat → Int32)} {a_part : (Nat → Int32)} {a_first : (Nat → Int32)} {a_second : (Nat → Int32)} {a_user : (Nat → Int32)} {a_goStage : (Nat → Int32)} {a_goStep : (Nat → Int32)} {a_done : (Nat → Int32)} {a_val : (Nat → Int32)} {a_mom : (Nat → Int64)} {a_cnt : (Nat → Int32)} {a_end : (Nat → Int32)} {a_endMom : (Nat → Int64)} {a_begun : (Nat → Int32)} {a_status : (Nat → Int32)} {a_stageOf : (Nat → Int32)} {a_began : (Nat → Int64)} {a_taken : (Nat → Int32)} {a_demand : (Nat → Int64)} {a_asked : (Nat → Int32)} {a_code : (Nat → Int32)} {a_waits : (Nat → Int32)} {a_waiting : (Nat → Int32)} {a_came : (Nat → Int32)} {a_given : (Nat → Int32)} {a_got : (Nat → Int64)}
theorem yd_has {post : Int32 → Prop} {q i : Nat} {L : List (Int32 × Nat)} {z : Option (Int32 × Nat)} (hq : q < 9) (hi : i ≤ 1000) (hY : YA a_val a_mom a_cnt a_end a_endMom q L z) (H : post (bI (decide (i < (evs L z).length)))) : wpY_has post (f_stages, f_heard, f_now, f_calls, f_parts, f_start, f_at, f_nextX, f_nextY, f_x, f_y, a_kind, a_opA, a_opB, a_heardBy, a_what, a_said, a_when, a_over, a_part, a_first, a_second, a_user, a_goStage, a_goStep, a_done, a_val, a_mom, a_cnt, a_end, a_endMom, a_begun, a_status, a_stageOf, a_began, a_taken, a_demand, a_asked, a_code, a_waits, a_waiting, a_came, a_given, a_got) (nI q) (nI i) := by
  have hcl : (nI q).toNatClampNeg = q := nI_clamp (by omega)
  have hin : vp_in (nI q) 9 := vp_in_nI hq (by decide)
  obtain ⟨b1, b2, b3⟩ := yb_m1 hY.2.2.2.1 hY.2.2.2.2.1 (fun w hw => (hY.2.2.2.2.2 w hw).1)
  have hl := hY.2.1
  rw [yd_len] at H
  refine ⟨hin, ?_⟩
  by_cases h1 : i < L.length
  · rw [decide_eq_true (by omega)] at H
    exact br_t (by rw [hcl, hY.1]; exact nI_lt h1 (by omega)) H
  · refine br_f (by rw [hcl, hY.1]; exact nI_nlt (by omega) (by omega)) ⟨hin, ?_⟩
    by_cases h2 : i = L.length
    · refine br_t (by rw [hcl, hY.1, h2]) ⟨hin, ?_⟩
      cases z with
      | none =>
        rw [decide_eq_false (by simp [ze]; omega)] at H
        exact br_t (by rw [hcl]; exact b1.mpr rfl) H
      | some w =>
        rw [decide_eq_true (by simp [ze]; omega)] at H
        exact br_f (by rw [hcl]; exact fun y => by have := b1.mp y; simp at this) H
    · rw [decide_eq_false (by cases z <;> simp [ze] <;> omega)] at H
      exact br_f (by rw [hcl, hY.1, nI_eq (by omega) (by omega)]; exact h2) H
theorem yd_place {post : Int64 → Prop} {q i : Nat} {L : List (Int32 × Nat)} {z : Option (Int32 × Nat)} {e : Ev} (hq : q < 9) (hY : YA a_val a_mom a_cnt a_end a_endMom q L z) (he : (evs L z)[i]? = some e) (H : post (lN e.2.2)) : wpY_place post (f_stages, f_heard, f_now, f_calls, f_parts, f_start, f_at, f_nextX, f_nextY, f_x, f_y, a_kind, a_opA, a_opB, a_heardBy, a_what, a_said, a_when, a_over, a_part, a_first, a_second, a_user, a_goStage, a_goStep, a_done, a_val, a_mom, a_cnt, a_end, a_endMom, a_begun, a_status, a_stageOf, a_began, a_taken, a_demand, a_asked, a_code, a_waits, a_waiting, a_came, a_given, a_got) (nI q) (nI i) := by
  have hcl : (nI q).toNatClampNeg = q := nI_clamp (by omega)
  have hin : vp_in (nI q) 9 := vp_in_nI hq (by decide)
  have hl := hY.2.1
  have hil : i < (evs L z).length := by
    rcases Nat.lt_or_ge i (evs L z).length with y | y
    · exact y
    · rw [List.getElem?_eq_none y] at he; exact absurd he (by simp)
  rw [yd_len] at hil
  refine ⟨hin, ?_⟩
  by_cases h1 : i < L.length
  · rw [yd_item h1] at he
    cases he
    refine br_f (by rw [hcl, hY.1]; exact nI_ge h1 (by omega)) ?_
    exact yw_of hq hY (List.getElem?_eq_getElem h1) H
  · cases z with
    | none => simp [ze] at hil; omega
    | some w =>
      obtain ⟨v, m⟩ := w
      have h2 : i = L.length := by simp [ze] at hil; omega
      subst h2
      rw [yd_endi] at he
      cases he
      refine br_t (by rw [hcl, hY.1]; exact nI_le (Nat.le_refl _) (by omega)) ⟨hin, ?_⟩
      rw [show a_endMom (nI q).toNatClampNeg = lN m from by rw [hcl]; exact (hY.2.2.2.2.2 _ rfl).2]
      exact H
def mn (i n : Nat) : Nat := if i < n then i else n
/-- is the join over, by the counts -/
def cmp (k : Nat) (i j n m : Nat) : Bool := if k = 17 then (decide (n < i) && decide (mn i n ≤ mn j m)) || (decide (m < j) && decide (mn j m ≤ mn i n)) else if k = 18 then (decide (n < i) && decide (n = 0)) || (decide (m < j) && decide (m = 0)) || (decide (n < i) && decide (m < j)) else decide (n < i) && decide (m < j)
theorem yd_completes {post : Int32 → Prop} {k xq yq i j : Nat} {Lx Ly : List (Int32 × Nat)} {zx zy : Option (Int32 × Nat)} (hk : k = 16 ∨ k = 17 ∨ k = 18) (hxq : xq < 9) (hyq : yq < 9) (hfx : f_x = nI xq) (hfy : f_y = nI yq) (hi : i ≤ 1000) (hj : j ≤ 1000) (hnx : f_nextX = nI i) (hny : f_nextY = nI j) (hx : YA a_val a_mom a_cnt a_end a_endMom xq Lx zx) (hy : YA a_val a_mom a_cnt a_end a_endMom yq Ly zy) (H : post (bI (cmp k i j Lx.length Ly.length))) : wpY_completes post (f_stages, f_heard, f_now, f_calls, f_parts, f_start, f_at, f_nextX, f_nextY, f_x, f_y, a_kind, a_opA, a_opB, a_heardBy, a_what, a_said, a_when, a_over, a_part, a_first, a_second, a_user, a_goStage, a_goStep, a_done, a_val, a_mom, a_cnt, a_end, a_endMom, a_begun, a_status, a_stageOf, a_began, a_taken, a_demand, a_asked, a_code, a_waits, a_waiting, a_came, a_given, a_got) (nI k) := by
  have hcx : f_x.toNatClampNeg = xq := by rw [hfx]; exact nI_clamp (by omega)
  have hcy : f_y.toNatClampNeg = yq := by rw [hfy]; exact nI_clamp (by omega)
  have hix : vp_in f_x 9 := by rw [hfx]; exact vp_in_nI hxq (by decide)
  have hiy : vp_in f_y 9 := by rw [hfy]; exact vp_in_nI hyq (by decide)
  have cx : a_cnt f_x.toNatClampNeg = nI Lx.length := by rw [hcx]; exact hx.1
  have cy : a_cnt f_y.toNatClampNeg = nI Ly.length := by rw [hcy]; exact hy.1
  have lx := hx.2.1
  have ly := hy.2.1
  have s110 : ∀ (ox oy : Bool) (a c : Nat), ox = decide (Lx.length < i) → oy = decide (Ly.length < j) → a = mn i Lx.length → c = mn j Ly.length → wY_completes_110 post (nI k) (bI ox) (bI oy) (nI a) (nI c) f_stages f_heard f_now f_calls f_parts f_start f_at f_nextX f_nextY f_x f_y a_kind a_opA a_opB a_heardBy a_what a_said a_when a_over a_part a_first a_second a_user a_goStage a_goStep a_done a_val a_mom a_cnt a_end a_endMom a_begun a_status a_stageOf a_began a_taken a_demand a_asked a_code a_waits a_waiting a_came a_given a_got := by
    intro ox oy a c e1 e2 e3 e4
    have ha : a ≤ 1000 := by rw [e3]; unfold mn; split <;> omega
    have hc' : c ≤ 1000 := by rw [e4]; unfold mn; split <;> omega
    have s186 : cmp k i j Lx.length Ly.length = (ox && oy) → wY_completes_186 post (bI ox) (bI oy) f_stages f_heard f_now f_calls f_parts f_start f_at f_nextX f_nextY f_x f_y a_kind a_opA a_opB a_heardBy a_what a_said a_when a_over a_part a_first a_second a_user a_goStage a_goStep a_done a_val a_mom a_cnt a_end a_endMom a_begun a_status a_stageOf a_began a_taken a_demand a_asked a_code a_waits a_waiting a_came a_given a_got := by
      intro hcm
      rw [hcm] at H
      cases ox
      · exact br_t rfl H
      · refine br_f (by decide) ?_
        cases oy
        · exact br_t rfl H
        · exact br_f (by decide) H
    rcases hk with e | e | e
    · subst e
      refine br_f (by decide) (br_f (by decide) (s186 ?_))
      rw [e1, e2]; simp [cmp]
    · subst e
      have hcm : cmp 17 i j Lx.length Ly.length = ((ox && decide (a ≤ c)) || (oy && decide (c ≤ a))) := by rw [e1, e2, e3, e4]; simp [cmp]
      rw [hcm] at H
      have s129 : (ox && decide (a ≤ c)) = false → wY_completes_129 post (bI oy) (nI a) (nI c) f_stages f_heard f_now f_calls f_parts f_start f_at f_nextX f_nextY f_x f_y a_kind a_opA a_opB a_heardBy a_what a_said a_when a_over a_part a_first a_second a_user a_goStage a_goStep a_done a_val a_mom a_cnt a_end a_endMom a_begun a_status a_stageOf a_began a_taken a_demand a_asked a_code a_waits a_waiting a_came a_given a_got := by
        intro h0
        rw [h0, Bool.false_or] at H
        cases oy
        · exact br_t rfl H
        · refine br_f (by decide) ?_
          by_cases h2 : a < c
          · rw [decide_eq_false (by omega)] at H
            exact br_t (nI_lt h2 (by omega)) H
          · rw [decide_eq_true (by omega)] at H
            exact br_f (nI_nlt (by omega) (by omega)) H
      refine br_t rfl ?_
      cases ox
      · exact br_t rfl (s129 rfl)
      · refine br_f (by decide) ?_
        by_cases h1 : a ≤ c
        · rw [decide_eq_true h1] at H
          exact br_t (nI_le h1 (by omega)) H
        · exact br_f (nI_ge (by omega) (by omega)) (s129 (by rw [decide_eq_false h1]; rfl))
    · subst e
      have hcm : cmp 18 i j Lx.length Ly.length = ((ox && decide (Lx.length = 0)) || (oy && decide (Ly.length = 0)) || (ox && oy)) := by rw [e1, e2]; simp [cmp]
      refine br_f (by decide) (br_t rfl ?_)
      have s168 : (ox && decide (Lx.length = 0)) = false → wY_completes_168 post (bI ox) (bI oy) f_stages f_heard f_now f_calls f_parts f_start f_at f_nextX f_nextY f_x f_y a_kind a_opA a_opB a_heardBy a_what a_said a_when a_over a_part a_first a_second a_user a_goStage a_goStep a_done a_val a_mom a_cnt a_end a_endMom a_begun a_status a_stageOf a_began a_taken a_demand a_asked a_code a_waits a_waiting a_came a_given a_got := by
        intro h0
        rw [h0, Bool.false_or] at hcm
        cases oy
        · exact br_t rfl (s186 (by rw [hcm]; simp))
        · refine br_f (by decide) ⟨hiy, ?_⟩
          by_cases h2 : Ly.length = 0
          · rw [hcm, decide_eq_true h2] at H
            exact br_t (by rw [cy, h2]; rfl) H
          · exact br_f (by rw [cy]; exact nI_ne0 (by omega) (by omega)) (s186 (by rw [hcm, decide_eq_false h2]; simp))
      cases ox
      · exact br_t rfl (s168 rfl)
      · refine br_f (by decide) ⟨hix, ?_⟩
        by_cases h1 : Lx.length = 0
        · rw [hcm, decide_eq_true h1] at H
          exact br_t (by rw [cx, h1]; rfl) H
        · exact br_f (by rw [cx]; exact nI_ne0 (by omega) (by omega)) (s168 (by rw [decide_eq_false h1]; rfl))
  have s76 : ∀ (ox oy : Bool) (a : Nat), ox = decide (Lx.length < i) → oy = decide (Ly.length < j) → a = mn i Lx.length → wY_completes_76 post (nI k) (bI ox) (bI oy) (nI a) f_stages f_heard f_now f_calls f_parts f_start f_at f_nextX f_nextY f_x f_y a_kind a_opA a_opB a_heardBy a_what a_said a_when a_over a_part a_first a_second a_user a_goStage a_goStep a_done a_val a_mom a_cnt a_end a_endMom a_begun a_status a_stageOf a_began a_taken a_demand a_asked a_code a_waits a_waiting a_came a_given a_got := by
    intro ox oy a e1 e2 e3
    refine ⟨hiy, ?_⟩
    by_cases h : j < Ly.length
    · refine br_f (by rw [cy, hny]; exact nI_ge h (by omega)) ?_
      have := s110 ox oy a j e1 e2 e3 (by unfold mn; rw [if_pos h])
      rw [hny]
      rw [← hny] at this ⊢
      exact this
    · refine br_t (by rw [cy, hny]; exact nI_le (by omega) (by omega)) ⟨hiy, ?_⟩
      rw [cy]
      exact s110 ox oy a Ly.length e1 e2 e3 (by unfold mn; rw [if_neg h])
  have s43 : ∀ (ox oy : Bool), ox = decide (Lx.length < i) → oy = decide (Ly.length < j) → wY_completes_43 post (nI k) (bI ox) (bI oy) f_stages f_heard f_now f_calls f_parts f_start f_at f_nextX f_nextY f_x f_y a_kind a_opA a_opB a_heardBy a_what a_said a_when a_over a_part a_first a_second a_user a_goStage a_goStep a_done a_val a_mom a_cnt a_end a_endMom a_begun a_status a_stageOf a_began a_taken a_demand a_asked a_code a_waits a_waiting a_came a_given a_got := by
    intro ox oy e1 e2
    refine ⟨hix, ?_⟩
    by_cases h : i < Lx.length
    · refine br_f (by rw [cx, hnx]; exact nI_ge h (by omega)) ?_
      have := s76 ox oy i e1 e2 (by unfold mn; rw [if_pos h])
      rw [← hnx] at this
      exact this
    · refine br_t (by rw [cx, hnx]; exact nI_le (by omega) (by omega)) ⟨hix, ?_⟩
      rw [cx]
      exact s76 ox oy Lx.length e1 e2 (by unfold mn; rw [if_neg h])
  have s21 : ∀ (ox : Bool), ox = decide (Lx.length < i) → wY_completes_21 post (nI k) (bI ox) f_stages f_heard f_now f_calls f_parts f_start f_at f_nextX f_nextY f_x f_y a_kind a_opA a_opB a_heardBy a_what a_said a_when a_over a_part a_first a_second a_user a_goStage a_goStep a_done a_val a_mom a_cnt a_end a_endMom a_begun a_status a_stageOf a_began a_taken a_demand a_asked a_code a_waits a_waiting a_came a_given a_got := by
    intro ox e1
    refine ⟨hiy, ?_⟩
    by_cases h : Ly.length < j
    · exact br_f (by rw [cy, hny]; exact nI_ge h (by omega)) (s43 ox true e1 (decide_eq_true h).symm)
    · exact br_t (by rw [cy, hny]; exact nI_le (by omega) (by omega)) (s43 ox false e1 (decide_eq_false h).symm)
  refine ⟨hix, ?_⟩
  by_cases h : Lx.length < i
  · exact br_f (by rw [cx, hnx]; exact nI_ge h (by omega)) (s21 true (decide_eq_true h).symm)
  · exact br_t (by rw [cx, hnx]; exact nI_le (by omega) (by omega)) (s21 false (decide_eq_false h).symm)
end
