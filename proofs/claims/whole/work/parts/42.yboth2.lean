/-! ===== the reference: both, one turn of the loop ===== -/
section
variable {f_stages : Int32} {f_heard : Int32} {f_now : Int32} {f_calls : Int64} {f_parts : Int32} {f_start : Int64} {f_at : Int32} {f_nextX : Int32} {f_nextY : Int32} {f_x : Int32} {f_y : Int32} {a_kind : (Nat → Int32)} {a_opA : (Nat → Int32)} {a_opB : (Nat → Int32)} {a_heardBy : (Nat → Int32)} {a_what : (Nat → Int32)} {a_said : (Nat → Int32)} {a_when : (Nat → Int64)} {a_over : (Nat → Int32)} {a_part : (Nat → Int32)} {a_first : (Nat → Int32)} {a_second : (Nat → Int32)} {a_user : (Nat → Int32)} {a_goStage : (Nat → Int32)} {a_goStep : (Nat → Int32)} {a_done : (Nat → Int32)} {a_val : (Nat → Int32)} {a_mom : (Nat → Int64)} {a_cnt : (Nat → Int32)} {a_end : (Nat → Int32)} {a_endMom : (Nat → Int64)} {a_begun : (Nat → Int32)} {a_status : (Nat → Int32)} {a_stageOf : (Nat → Int32)} {a_began : (Nat → Int64)} {a_taken : (Nat → Int32)} {a_demand : (Nat → Int64)} {a_asked : (Nat → Int32)} {a_code : (Nat → Int32)} {a_waits : (Nat → Int32)} {a_waiting : (Nat → Int32)} {a_came : (Nat → Int32)} {a_given : (Nat → Int32)} {a_got : (Nat → Int64)}
theorem yd_314 {post : SY → Prop} {J : Int32 → Int32 → Int32 → Int64 → Int32 → Int64 → Int32 → Int32 → Int32 → Int32 → Int32 → (Nat → Int32) → (Nat → Int32) → (Nat → Int32) → (Nat → Int32) → (Nat → Int32) → (Nat → Int32) → (Nat → Int64) → (Nat → Int32) → (Nat → Int32) → (Nat → Int32) → (Nat → Int32) → (Nat → Int32) → (Nat → Int32) → (Nat → Int32) → (Nat → Int32) → (Nat → Int32) → (Nat → Int64) → (Nat → Int32) → (Nat → Int32) → (Nat → Int64) → (Nat → Int32) → (Nat → Int32) → (Nat → Int32) → (Nat → Int64) → (Nat → Int32) → (Nat → Int64) → (Nat → Int32) → (Nat → Int32) → (Nat → Int32) → (Nat → Int32) → (Nat → Int32) → (Nat → Int32) → (Nat → Int64) → Prop} {p k xq yq i j t m : Nat} {Lx Ly Lo : List (Int32 × Nat)} {zx zy : Option (Int32 × Nat)} (hk : k = 16 ∨ k = 17 ∨ k = 18) (hp : p < 9) (hat : f_at = nI p) (hnow : f_now = nI t) (ht : t ≤ 200) (hm : m < 1000000000000000) (hmt : tim m ≤ t) (hxq : xq < 9) (hyq : yq < 9) (hfx : f_x = nI xq) (hfy : f_y = nI yq) (hi : i ≤ 1000) (hj : j ≤ 1000) (hnx : f_nextX = nI i) (hny : f_nextY = nI j) (hY : YA a_val a_mom a_cnt a_end a_endMom p Lo none) (hx : YA a_val a_mom a_cnt a_end a_endMom xq Lx zx) (hy : YA a_val a_mom a_cnt a_end a_endMom yq Ly zy)
    (H1 : cmp k i j Lx.length Ly.length = false → J f_stages f_heard f_now f_calls f_parts f_start f_at f_nextX f_nextY f_x f_y a_kind a_opA a_opB a_heardBy a_what a_said a_when a_over a_part a_first a_second a_user a_goStage a_goStep a_done a_val a_mom a_cnt a_end a_endMom a_begun a_status a_stageOf a_began a_taken a_demand a_asked a_code a_waits a_waiting a_came a_given a_got) (H2 : cmp k i j Lx.length Ly.length = true → ∀ en em, YA a_val a_mom a_cnt en em p Lo (some (0, m)) → YF p a_val a_mom a_cnt a_end a_endMom a_val a_mom a_cnt en em → post (f_stages, f_heard, f_now, f_calls, f_parts, f_start, f_at, f_nextX, f_nextY, f_x, f_y, a_kind, a_opA, a_opB, a_heardBy, a_what, a_said, a_when, a_over, a_part, a_first, a_second, a_user, a_goStage, a_goStep, a_done, a_val, a_mom, a_cnt, en, em, a_begun, a_status, a_stageOf, a_began, a_taken, a_demand, a_asked, a_code, a_waits, a_waiting, a_came, a_given, a_got)) : wY_both_314 post J (nI k) (lN m) f_stages f_heard f_now f_calls f_parts f_start f_at f_nextX f_nextY f_x f_y a_kind a_opA a_opB a_heardBy a_what a_said a_when a_over a_part a_first a_second a_user a_goStage a_goStep a_done a_val a_mom a_cnt a_end a_endMom a_begun a_status a_stageOf a_began a_taken a_demand a_asked a_code a_waits a_waiting a_came a_given a_got := by
  have hcl : f_at.toNatClampNeg = p := by rw [hat]; exact nI_clamp (by omega)
  have hin : vp_in f_at 9 := by rw [hat]; exact vp_in_nI hp (by decide)
  obtain ⟨b1, b2, b3⟩ := yb_m1 hY.2.2.2.1 hY.2.2.2.2.1 (fun w hw => (hY.2.2.2.2.2 w hw).1)
  refine ⟨hin, br_f (by rw [hcl]; exact fun y => b2.mp y rfl) ?_⟩
  refine yd_completes hk hxq hyq hfx hfy hi hj hnx hny hx hy ?_
  rcases Bool.eq_false_or_eq_true (cmp k i j Lx.length Ly.length) with y | y
  · rw [y]
    exact br_f (by decide) (yw_stop (j := 0) hp hat hnow ht hm (by decide) rfl hY (fun _ en em k1 k2 => H2 y en em k1 k2) (fun z => absurd hmt z))
  · rw [y]
    exact br_t rfl (H1 y)
theorem yd_head {post : SY → Prop} {p k xq yq i j n : Nat} {Lx Ly Lo : List (Int32 × Nat)} {zx zy : Option (Int32 × Nat)} (hp : p < 9) (hat : f_at = nI p) (hxq : xq < 9) (hyq : yq < 9) (hfx : f_x = nI xq) (hfy : f_y = nI yq) (hi : i ≤ 1000) (hj : j ≤ 1000) (hnx : f_nextX = nI i) (hny : f_nextY = nI j) (hmx : ∀ e ∈ evs Lx zx, e.2.2 < 1000000000000000) (hmy : ∀ e ∈ evs Ly zy, e.2.2 < 1000000000000000) (hY : YA a_val a_mom a_cnt a_end a_endMom p Lo none) (hx : YA a_val a_mom a_cnt a_end a_endMom xq Lx zx) (hy : YA a_val a_mom a_cnt a_end a_endMom yq Ly zy)
    (H0 : ¬ i < (evs Lx zx).length → ¬ j < (evs Ly zy).length → post (f_stages, f_heard, f_now, f_calls, f_parts, f_start, f_at, f_nextX, f_nextY, f_x, f_y, a_kind, a_opA, a_opB, a_heardBy, a_what, a_said, a_when, a_over, a_part, a_first, a_second, a_user, a_goStage, a_goStep, a_done, a_val, a_mom, a_cnt, a_end, a_endMom, a_begun, a_status, a_stageOf, a_began, a_taken, a_demand, a_asked, a_code, a_waits, a_waiting, a_came, a_given, a_got))
    (Hx : ∀ ex, (evs Lx zx)[i]? = some ex → (∀ ey, (evs Ly zy)[j]? = some ey → ¬ ey.2.2 < ex.2.2) → wY_both_188 post (wY_both_10 post (nI k) n) (nI k) 1 (nI xq) (nI i) (lN ex.2.2) (bI (decide (i < Lx.length))) f_stages f_heard f_now f_calls f_parts f_start f_at (nI (i + 1)) f_nextY f_x f_y a_kind a_opA a_opB a_heardBy a_what a_said a_when a_over a_part a_first a_second a_user a_goStage a_goStep a_done a_val a_mom a_cnt a_end a_endMom a_begun a_status a_stageOf a_began a_taken a_demand a_asked a_code a_waits a_waiting a_came a_given a_got)
    (Hy : ∀ ey, (evs Ly zy)[j]? = some ey → (∀ ex, (evs Lx zx)[i]? = some ex → ey.2.2 < ex.2.2) → wY_both_188 post (wY_both_10 post (nI k) n) (nI k) 0 (nI yq) (nI j) (lN ey.2.2) (bI (decide (j < Ly.length))) f_stages f_heard f_now f_calls f_parts f_start f_at f_nextX (nI (j + 1)) f_x f_y a_kind a_opA a_opB a_heardBy a_what a_said a_when a_over a_part a_first a_second a_user a_goStage a_goStep a_done a_val a_mom a_cnt a_end a_endMom a_begun a_status a_stageOf a_began a_taken a_demand a_asked a_code a_waits a_waiting a_came a_given a_got) :
    wY_both_10 post (nI k) (n + 1) f_stages f_heard f_now f_calls f_parts f_start f_at f_nextX f_nextY f_x f_y a_kind a_opA a_opB a_heardBy a_what a_said a_when a_over a_part a_first a_second a_user a_goStage a_goStep a_done a_val a_mom a_cnt a_end a_endMom a_begun a_status a_stageOf a_began a_taken a_demand a_asked a_code a_waits a_waiting a_came a_given a_got := by
  have hcl : f_at.toNatClampNeg = p := by rw [hat]; exact nI_clamp (by omega)
  have hin : vp_in f_at 9 := by rw [hat]; exact vp_in_nI hp (by decide)
  have lx := hx.2.1
  have ly := hy.2.1
  obtain ⟨b1, b2, b3⟩ := yb_m1 hY.2.2.2.1 hY.2.2.2.2.1 (fun w hw => (hY.2.2.2.2.2 w hw).1)
  have gx : ∀ ex, (evs Lx zx)[i]? = some ex → (∀ ey, (evs Ly zy)[j]? = some ey → ¬ ey.2.2 < ex.2.2) → wY_both_110 post (wY_both_10 post (nI k) n) (nI k) f_stages f_heard f_now f_calls f_parts f_start f_at f_nextX f_nextY f_x f_y a_kind a_opA a_opB a_heardBy a_what a_said a_when a_over a_part a_first a_second a_user a_goStage a_goStep a_done a_val a_mom a_cnt a_end a_endMom a_begun a_status a_stageOf a_began a_taken a_demand a_asked a_code a_waits a_waiting a_came a_given a_got := by
    intro ex h1 h2
    have h188 := Hx ex h1 h2
    refine br_f (by decide) (br_f (by decide) (nm_r (e' := nI (i + 1)) (by rw [hnx, nI_1]) ?_))
    rw [hfx, hnx]
    rw [hfx] at h188
    refine yd_place (f_x := nI xq) (f_nextX := nI (i + 1)) hxq hx h1 ⟨vp_in_nI hxq (by decide), ?_⟩
    have hcx : (nI xq).toNatClampNeg = xq := nI_clamp (by omega)
    by_cases hil : i < Lx.length
    · rw [decide_eq_true hil] at h188
      exact br_f (by rw [hcx, hx.1]; exact nI_ge hil (by omega)) h188
    · rw [decide_eq_false hil] at h188
      exact br_t (by rw [hcx, hx.1]; exact nI_le (by omega) (by omega)) h188
  have gy : ∀ ey, (evs Ly zy)[j]? = some ey → (∀ ex, (evs Lx zx)[i]? = some ex → ey.2.2 < ex.2.2) → wY_both_114 post (wY_both_10 post (nI k) n) (nI k) f_stages f_heard f_now f_calls f_parts f_start f_at f_nextX f_nextY f_x f_y a_kind a_opA a_opB a_heardBy a_what a_said a_when a_over a_part a_first a_second a_user a_goStage a_goStep a_done a_val a_mom a_cnt a_end a_endMom a_begun a_status a_stageOf a_began a_taken a_demand a_asked a_code a_waits a_waiting a_came a_given a_got := by
    intro ey h1 h2
    have h188 := Hy ey h1 h2
    refine br_t rfl (br_t rfl (nm_r (e' := nI (j + 1)) (by rw [hny, nI_1]) ?_))
    rw [hfy, hny]
    rw [hfy] at h188
    refine yd_place (f_y := nI yq) (f_nextY := nI (j + 1)) hyq hy h1 ⟨vp_in_nI hyq (by decide), ?_⟩
    have hcy : (nI yq).toNatClampNeg = yq := nI_clamp (by omega)
    by_cases hjl : j < Ly.length
    · rw [decide_eq_true hjl] at h188
      exact br_f (by rw [hcy, hy.1]; exact nI_ge hjl (by omega)) h188
    · rw [decide_eq_false hjl] at h188
      exact br_t (by rw [hcy, hy.1]; exact nI_le (by omega) (by omega)) h188
  have s52 : i < (evs Lx zx).length ∨ j < (evs Ly zy).length → wY_both_52 post (wY_both_10 post (nI k) n) (nI k) f_stages f_heard f_now f_calls f_parts f_start f_at f_nextX f_nextY f_x f_y a_kind a_opA a_opB a_heardBy a_what a_said a_when a_over a_part a_first a_second a_user a_goStage a_goStep a_done a_val a_mom a_cnt a_end a_endMom a_begun a_status a_stageOf a_began a_taken a_demand a_asked a_code a_waits a_waiting a_came a_given a_got := by
    intro hor
    have hasx : wpY_has (fun r_49 => (((r_49 = 0 → (wY_both_114 post (wY_both_10 post (nI k) n) (nI k) f_stages f_heard f_now f_calls f_parts f_start f_at f_nextX f_nextY f_x f_y a_kind a_opA a_opB a_heardBy a_what a_said a_when a_over a_part a_first a_second a_user a_goStage a_goStep a_done a_val a_mom a_cnt a_end a_endMom a_begun a_status a_stageOf a_began a_taken a_demand a_asked a_code a_waits a_waiting a_came a_given a_got)) ∧ (¬ r_49 = 0 → (wpY_has (fun r_480 => (((r_480 = 0 → (wY_both_110 post (wY_both_10 post (nI k) n) (nI k) f_stages f_heard f_now f_calls f_parts f_start f_at f_nextX f_nextY f_x f_y a_kind a_opA a_opB a_heardBy a_what a_said a_when a_over a_part a_first a_second a_user a_goStage a_goStep a_done a_val a_mom a_cnt a_end a_endMom a_begun a_status a_stageOf a_began a_taken a_demand a_asked a_code a_waits a_waiting a_came a_given a_got)) ∧ (¬ r_480 = 0 → (wpY_place (fun r_526 => (wpY_place (fun r_571 => (((r_571 < r_526 → (wY_both_114 post (wY_both_10 post (nI k) n) (nI k) f_stages f_heard f_now f_calls f_parts f_start f_at f_nextX f_nextY f_x f_y a_kind a_opA a_opB a_heardBy a_what a_said a_when a_over a_part a_first a_second a_user a_goStage a_goStep a_done a_val a_mom a_cnt a_end a_endMom a_begun a_status a_stageOf a_began a_taken a_demand a_asked a_code a_waits a_waiting a_came a_given a_got)) ∧ (¬ r_571 < r_526 → (wY_both_110 post (wY_both_10 post (nI k) n) (nI k) f_stages f_heard f_now f_calls f_parts f_start f_at f_nextX f_nextY f_x f_y a_kind a_opA a_opB a_heardBy a_what a_said a_when a_over a_part a_first a_second a_user a_goStage a_goStep a_done a_val a_mom a_cnt a_end a_endMom a_begun a_status a_stageOf a_began a_taken a_demand a_asked a_code a_waits a_waiting a_came a_given a_got))))) (f_stages, f_heard, f_now, f_calls, f_parts, f_start, f_at, f_nextX, f_nextY, f_x, f_y, a_kind, a_opA, a_opB, a_heardBy, a_what, a_said, a_when, a_over, a_part, a_first, a_second, a_user, a_goStage, a_goStep, a_done, a_val, a_mom, a_cnt, a_end, a_endMom, a_begun, a_status, a_stageOf, a_began, a_taken, a_demand, a_asked, a_code, a_waits, a_waiting, a_came, a_given, a_got) (nI yq) (nI j))) (f_stages, f_heard, f_now, f_calls, f_parts, f_start, f_at, f_nextX, f_nextY, f_x, f_y, a_kind, a_opA, a_opB, a_heardBy, a_what, a_said, a_when, a_over, a_part, a_first, a_second, a_user, a_goStage, a_goStep, a_done, a_val, a_mom, a_cnt, a_end, a_endMom, a_begun, a_status, a_stageOf, a_began, a_taken, a_demand, a_asked, a_code, a_waits, a_waiting, a_came, a_given, a_got) (nI xq) (nI i)))))) (f_stages, f_heard, f_now, f_calls, f_parts, f_start, f_at, f_nextX, f_nextY, f_x, f_y, a_kind, a_opA, a_opB, a_heardBy, a_what, a_said, a_when, a_over, a_part, a_first, a_second, a_user, a_goStage, a_goStep, a_done, a_val, a_mom, a_cnt, a_end, a_endMom, a_begun, a_status, a_stageOf, a_began, a_taken, a_demand, a_asked, a_code, a_waits, a_waiting, a_came, a_given, a_got) (nI yq) (nI j)))))) (f_stages, f_heard, f_now, f_calls, f_parts, f_start, f_at, f_nextX, f_nextY, f_x, f_y, a_kind, a_opA, a_opB, a_heardBy, a_what, a_said, a_when, a_over, a_part, a_first, a_second, a_user, a_goStage, a_goStep, a_done, a_val, a_mom, a_cnt, a_end, a_endMom, a_begun, a_status, a_stageOf, a_began, a_taken, a_demand, a_asked, a_code, a_waits, a_waiting, a_came, a_given, a_got) (nI xq) (nI i) := by
      refine yd_has hxq hi hx ?_
      by_cases hix : i < (evs Lx zx).length
      · rw [decide_eq_true hix]
        obtain ⟨ex, hex⟩ : ∃ ex, (evs Lx zx)[i]? = some ex := ⟨_, List.getElem?_eq_getElem hix⟩
        refine br_f (by decide) (yd_has hyq hj hy ?_)
        by_cases hjy : j < (evs Ly zy).length
        · rw [decide_eq_true hjy]
          obtain ⟨ey, hey⟩ : ∃ ey, (evs Ly zy)[j]? = some ey := ⟨_, List.getElem?_eq_getElem hjy⟩
          have mx := hmx ex (List.mem_of_getElem? hex)
          have my := hmy ey (List.mem_of_getElem? hey)
          refine br_f (by decide) (yd_place hxq hx hex (yd_place hyq hy hey ?_))
          by_cases hlt : ey.2.2 < ex.2.2
          · exact br_t ((pk_lLT (by omega) (by omega)).mpr hlt) (gy ey hey (fun ex' h => by rw [hex] at h; cases h; exact hlt))
          · exact br_f (fun y => hlt ((pk_lLT (by omega) (by omega)).mp y)) (gx ex hex (fun ey' h => by rw [hey] at h; cases h; exact hlt))
        · rw [decide_eq_false hjy]
          exact br_t rfl (gx ex hex (fun ey h => by rw [List.getElem?_eq_none (by omega)] at h; simp at h))
      · rw [decide_eq_false hix]
        have hjy : j < (evs Ly zy).length := by rcases hor with y | y; exact absurd y hix; exact y
        obtain ⟨ey, hey⟩ : ∃ ey, (evs Ly zy)[j]? = some ey := ⟨_, List.getElem?_eq_getElem hjy⟩
        exact br_t rfl (gy ey hey (fun ex h => by rw [List.getElem?_eq_none (by omega)] at h; simp at h))
    rw [← hfx, ← hfy, ← hnx, ← hny] at hasx
    exact hasx
  refine ⟨hin, br_f (by rw [hcl]; exact fun y => b2.mp y rfl) ?_⟩
  have hh : wpY_has (fun r_3 => (((r_3 = 0 → (wpY_has (fun r_617 => (((r_617 = 0 → (post (f_stages, f_heard, f_now, f_calls, f_parts, f_start, f_at, f_nextX, f_nextY, f_x, f_y, a_kind, a_opA, a_opB, a_heardBy, a_what, a_said, a_when, a_over, a_part, a_first, a_second, a_user, a_goStage, a_goStep, a_done, a_val, a_mom, a_cnt, a_end, a_endMom, a_begun, a_status, a_stageOf, a_began, a_taken, a_demand, a_asked, a_code, a_waits, a_waiting, a_came, a_given, a_got))) ∧ (¬ r_617 = 0 → (wY_both_52 post (wY_both_10 post (nI k) n) (nI k) f_stages f_heard f_now f_calls f_parts f_start f_at f_nextX f_nextY f_x f_y a_kind a_opA a_opB a_heardBy a_what a_said a_when a_over a_part a_first a_second a_user a_goStage a_goStep a_done a_val a_mom a_cnt a_end a_endMom a_begun a_status a_stageOf a_began a_taken a_demand a_asked a_code a_waits a_waiting a_came a_given a_got))))) (f_stages, f_heard, f_now, f_calls, f_parts, f_start, f_at, f_nextX, f_nextY, f_x, f_y, a_kind, a_opA, a_opB, a_heardBy, a_what, a_said, a_when, a_over, a_part, a_first, a_second, a_user, a_goStage, a_goStep, a_done, a_val, a_mom, a_cnt, a_end, a_endMom, a_begun, a_status, a_stageOf, a_began, a_taken, a_demand, a_asked, a_code, a_waits, a_waiting, a_came, a_given, a_got) (nI yq) (nI j))) ∧ (¬ r_3 = 0 → (wY_both_52 post (wY_both_10 post (nI k) n) (nI k) f_stages f_heard f_now f_calls f_parts f_start f_at f_nextX f_nextY f_x f_y a_kind a_opA a_opB a_heardBy a_what a_said a_when a_over a_part a_first a_second a_user a_goStage a_goStep a_done a_val a_mom a_cnt a_end a_endMom a_begun a_status a_stageOf a_began a_taken a_demand a_asked a_code a_waits a_waiting a_came a_given a_got))))) (f_stages, f_heard, f_now, f_calls, f_parts, f_start, f_at, f_nextX, f_nextY, f_x, f_y, a_kind, a_opA, a_opB, a_heardBy, a_what, a_said, a_when, a_over, a_part, a_first, a_second, a_user, a_goStage, a_goStep, a_done, a_val, a_mom, a_cnt, a_end, a_endMom, a_begun, a_status, a_stageOf, a_began, a_taken, a_demand, a_asked, a_code, a_waits, a_waiting, a_came, a_given, a_got) (nI xq) (nI i) := by
    refine yd_has hxq hi hx ?_
    by_cases hix : i < (evs Lx zx).length
    · rw [decide_eq_true hix]
      exact br_f (by decide) (s52 (Or.inl hix))
    · rw [decide_eq_false hix]
      refine br_t rfl (yd_has hyq hj hy ?_)
      by_cases hjy : j < (evs Ly zy).length
      · rw [decide_eq_true hjy]
        exact br_f (by decide) (s52 (Or.inr hjy))
      · rw [decide_eq_false hjy]
        exact br_t rfl (H0 hix hjy)
  rw [← hfx, ← hfy, ← hnx, ← hny] at hh
  exact hh
end
