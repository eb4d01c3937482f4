/-! ===== the reference: both, whole ===== -/
section
variable {f_stages : Int32} {f_heard : Int32} {f_now : Int32} {f_calls : Int64} {f_parts : Int32} {f_start : Int64} {f_at : Int32} {f_nextX : Int32} {f_nextY : Int32} {f_x : Int32} {f_y : Int32} {a_kind : (Nat → Int32)} {a_opA : (Nat → Int32)} {a_opB : (Nat → Int32)} {a_heardBy : (Nat → Int32)} {a_what : (Nat → Int32)} {a_said : (Nat → Int32)} {a_when : (Nat → Int64)} {a_over : (Nat → Int32)} {a_part : (Nat → Int32)} {a_first : (Nat → Int32)} {a_second : (Nat → Int32)} {a_user : (Nat → Int32)} {a_goStage : (Nat → Int32)} {a_goStep : (Nat → Int32)} {a_done : (Nat → Int32)} {a_val : (Nat → Int32)} {a_mom : (Nat → Int64)} {a_cnt : (Nat → Int32)} {a_end : (Nat → Int32)} {a_endMom : (Nat → Int64)} {a_begun : (Nat → Int32)} {a_status : (Nat → Int32)} {a_stageOf : (Nat → Int32)} {a_began : (Nat → Int64)} {a_taken : (Nat → Int32)} {a_demand : (Nat → Int64)} {a_asked : (Nat → Int32)} {a_code : (Nat → Int32)} {a_waits : (Nat → Int32)} {a_waiting : (Nat → Int32)} {a_came : (Nat → Int32)} {a_given : (Nat → Int32)} {a_got : (Nat → Int64)}
theorem yh_88 {post : SY → Prop} {p t m xq yq g c : Nat} {Lx Ly Lo : List (Int32 × Nat)} {zx zy : Option (Int32 × Nat)} (hp : p < 9) (hat : f_at = nI p) (hnow : f_now = nI t) (ht : t ≤ 200) (hm : m < 1000000000000000) (hmt : tim m ≤ t) (hxq : xq < 9) (hyq : yq < 9) (hfx : f_x = nI xq) (hfy : f_y = nI yq) (hY : YA a_val a_mom a_cnt a_end a_endMom p Lo none) (hl : Lo.length < 255) (hx : YA a_val a_mom a_cnt a_end a_endMom xq Lx zx) (hy : YA a_val a_mom a_cnt a_end a_endMom yq Ly zy) (hg : g ≤ 1000) (hc : c ≤ 1000)
    (H1 : g < c → ∃ x y, Lx[g]? = some x ∧ Ly[g]? = some y ∧ ∀ va mm cn, YA va mm cn a_end a_endMom p (Lo ++ [(31 * x.1 + y.1, m)]) none → YF p a_val a_mom a_cnt a_end a_endMom va mm cn a_end a_endMom → post (f_stages, f_heard, f_now, f_calls, f_parts, f_start, f_at, f_nextX, f_nextY, f_x, f_y, a_kind, a_opA, a_opB, a_heardBy, a_what, a_said, a_when, a_over, a_part, a_first, a_second, a_user, a_goStage, a_goStep, a_done, va, mm, cn, a_end, a_endMom, a_begun, a_status, a_stageOf, a_began, a_taken, a_demand, a_asked, a_code, a_waits, a_waiting, a_came, a_given, a_got))
    (H2 : c ≤ g → g - c < 8 → post (f_stages, f_heard, f_now, f_calls, f_parts, f_start, f_at, f_nextX, f_nextY, f_x, f_y, a_kind, a_opA, a_opB, a_heardBy, a_what, a_said, a_when, a_over, a_part, a_first, a_second, a_user, a_goStage, a_goStep, a_done, a_val, a_mom, a_cnt, a_end, a_endMom, a_begun, a_status, a_stageOf, a_began, a_taken, a_demand, a_asked, a_code, a_waits, a_waiting, a_came, a_given, a_got)) (H3 : c ≤ g → ¬ g - c < 8 → ∀ en em, YA a_val a_mom a_cnt en em p Lo (some (8, m)) → YF p a_val a_mom a_cnt a_end a_endMom a_val a_mom a_cnt en em → post (f_stages, f_heard, f_now, f_calls, f_parts, f_start, f_at, f_nextX, f_nextY, f_x, f_y, a_kind, a_opA, a_opB, a_heardBy, a_what, a_said, a_when, a_over, a_part, a_first, a_second, a_user, a_goStage, a_goStep, a_done, a_val, a_mom, a_cnt, en, em, a_begun, a_status, a_stageOf, a_began, a_taken, a_demand, a_asked, a_code, a_waits, a_waiting, a_came, a_given, a_got)) :
    wY_pair_88 post (lN m) (nI (g + 1)) (nI c) f_stages f_heard f_now f_calls f_parts f_start f_at f_nextX f_nextY f_x f_y a_kind a_opA a_opB a_heardBy a_what a_said a_when a_over a_part a_first a_second a_user a_goStage a_goStep a_done a_val a_mom a_cnt a_end a_endMom a_begun a_status a_stageOf a_began a_taken a_demand a_asked a_code a_waits a_waiting a_came a_given a_got := by
  by_cases h : g < c
  · obtain ⟨x, y, hxg, hyg, H⟩ := H1 h
    refine br_f (nI_nlt (by omega) (by omega)) ?_
    rw [show nI (g + 1) - 1 = nI g from nI_pred g, hfx, hfy]
    refine yw_word (f_x := nI xq) (f_y := nI yq) hxq hx hxg (yw_word (f_x := nI xq) (f_y := nI yq) hyq hy hyg ?_)
    rw [← hfx, ← hfy]
    exact yw_put hp hat hnow ht hm hY hl (fun _ va mm cn k1 k2 => H va mm cn k1 k2) (fun z => absurd hmt z)
  · refine br_t (nI_lt (by omega) (by omega)) ?_
    rw [pk_sub (by omega)]
    by_cases h8 : g - c < 8
    · exact br_t (nI_le (b := 8) (by omega) (by decide)) (H2 (by omega) h8)
    · exact br_f (nI_ge (a := 8) (by omega) (by omega)) (yw_stop (j := 8) hp hat hnow ht hm (by decide) rfl hY (fun _ en em k1 k2 => H3 (by omega) h8 en em k1 k2) (fun z => absurd hmt z))
theorem yh_pairx {post : SY → Prop} {m yq i j : Nat} {Ly : List (Int32 × Nat)} {zy : Option (Int32 × Nat)} (hyq : yq < 9) (hfy : f_y = nI yq) (hnx : f_nextX = nI (i + 1)) (hny : f_nextY = nI j) (hj : j ≤ 1000) (hy : YA a_val a_mom a_cnt a_end a_endMom yq Ly zy) (H : wY_pair_88 post (lN m) (nI (i + 1)) (nI (mn j Ly.length)) f_stages f_heard f_now f_calls f_parts f_start f_at f_nextX f_nextY f_x f_y a_kind a_opA a_opB a_heardBy a_what a_said a_when a_over a_part a_first a_second a_user a_goStage a_goStep a_done a_val a_mom a_cnt a_end a_endMom a_begun a_status a_stageOf a_began a_taken a_demand a_asked a_code a_waits a_waiting a_came a_given a_got) : wpY_pair post (f_stages, f_heard, f_now, f_calls, f_parts, f_start, f_at, f_nextX, f_nextY, f_x, f_y, a_kind, a_opA, a_opB, a_heardBy, a_what, a_said, a_when, a_over, a_part, a_first, a_second, a_user, a_goStage, a_goStep, a_done, a_val, a_mom, a_cnt, a_end, a_endMom, a_begun, a_status, a_stageOf, a_began, a_taken, a_demand, a_asked, a_code, a_waits, a_waiting, a_came, a_given, a_got) 1 (lN m) := by
  have hcy : f_y.toNatClampNeg = yq := by rw [hfy]; exact nI_clamp (by omega)
  have hiy : vp_in f_y 9 := by rw [hfy]; exact vp_in_nI hyq (by decide)
  have cy : a_cnt f_y.toNatClampNeg = nI Ly.length := by rw [hcy]; exact hy.1
  have ly := hy.2.1
  refine br_f (by decide) (br_f (by decide) ⟨hiy, ?_⟩)
  rw [hnx, hny]
  rw [hnx, hny] at H
  by_cases h : j < Ly.length
  · refine br_f (by rw [cy]; exact nI_ge h (by omega)) ?_
    unfold mn at H
    rw [if_pos h] at H
    exact H
  · refine br_t (by rw [cy]; exact nI_le (by omega) (by omega)) ⟨hiy, ?_⟩
    rw [cy]
    unfold mn at H
    rw [if_neg h] at H
    exact H
theorem yh_pairy {post : SY → Prop} {m xq i j : Nat} {Lx : List (Int32 × Nat)} {zx : Option (Int32 × Nat)} (hxq : xq < 9) (hfx : f_x = nI xq) (hnx : f_nextX = nI i) (hny : f_nextY = nI (j + 1)) (hi : i ≤ 1000) (hx : YA a_val a_mom a_cnt a_end a_endMom xq Lx zx) (H : wY_pair_88 post (lN m) (nI (j + 1)) (nI (mn i Lx.length)) f_stages f_heard f_now f_calls f_parts f_start f_at f_nextX f_nextY f_x f_y a_kind a_opA a_opB a_heardBy a_what a_said a_when a_over a_part a_first a_second a_user a_goStage a_goStep a_done a_val a_mom a_cnt a_end a_endMom a_begun a_status a_stageOf a_began a_taken a_demand a_asked a_code a_waits a_waiting a_came a_given a_got) : wpY_pair post (f_stages, f_heard, f_now, f_calls, f_parts, f_start, f_at, f_nextX, f_nextY, f_x, f_y, a_kind, a_opA, a_opB, a_heardBy, a_what, a_said, a_when, a_over, a_part, a_first, a_second, a_user, a_goStage, a_goStep, a_done, a_val, a_mom, a_cnt, a_end, a_endMom, a_begun, a_status, a_stageOf, a_began, a_taken, a_demand, a_asked, a_code, a_waits, a_waiting, a_came, a_given, a_got) 0 (lN m) := by
  have hcx : f_x.toNatClampNeg = xq := by rw [hfx]; exact nI_clamp (by omega)
  have hix : vp_in f_x 9 := by rw [hfx]; exact vp_in_nI hxq (by decide)
  have cx : a_cnt f_x.toNatClampNeg = nI Lx.length := by rw [hcx]; exact hx.1
  have lx := hx.2.1
  refine br_t rfl (br_t rfl ⟨hix, ?_⟩)
  rw [hnx, hny]
  rw [hnx, hny] at H
  by_cases h : i < Lx.length
  · refine br_f (by rw [cx]; exact nI_ge h (by omega)) ?_
    unfold mn at H
    rw [if_pos h] at H
    exact H
  · refine br_t (by rw [cx]; exact nI_le (by omega) (by omega)) ⟨hix, ?_⟩
    rw [cx]
    unfold mn at H
    rw [if_neg h] at H
    exact H
theorem yh_latest {post : SY → Prop} {p t m xq yq i j : Nat} {Lx Ly Lo : List (Int32 × Nat)} {zx zy : Option (Int32 × Nat)} {x y : Int32 × Nat} (hp : p < 9) (hat : f_at = nI p) (hnow : f_now = nI t) (ht : t ≤ 200) (hm : m < 1000000000000000) (hmt : tim m ≤ t) (hxq : xq < 9) (hyq : yq < 9) (hfx : f_x = nI xq) (hfy : f_y = nI yq) (hnx : f_nextX = nI i) (hny : f_nextY = nI j) (hi : i ≤ 1000) (hj : j ≤ 1000) (hY : YA a_val a_mom a_cnt a_end a_endMom p Lo none) (hl : Lo.length < 255) (hx : YA a_val a_mom a_cnt a_end a_endMom xq Lx zx) (hy : YA a_val a_mom a_cnt a_end a_endMom yq Ly zy) (h1 : 0 < mn i Lx.length) (h2 : 0 < mn j Ly.length) (hxx : Lx[mn i Lx.length - 1]? = some x) (hyy : Ly[mn j Ly.length - 1]? = some y)
    (H : ∀ va mm cn, YA va mm cn a_end a_endMom p (Lo ++ [(31 * x.1 + y.1, m)]) none → YF p a_val a_mom a_cnt a_end a_endMom va mm cn a_end a_endMom → post (f_stages, f_heard, f_now, f_calls, f_parts, f_start, f_at, f_nextX, f_nextY, f_x, f_y, a_kind, a_opA, a_opB, a_heardBy, a_what, a_said, a_when, a_over, a_part, a_first, a_second, a_user, a_goStage, a_goStep, a_done, va, mm, cn, a_end, a_endMom, a_begun, a_status, a_stageOf, a_began, a_taken, a_demand, a_asked, a_code, a_waits, a_waiting, a_came, a_given, a_got)) : wpY_latest post (f_stages, f_heard, f_now, f_calls, f_parts, f_start, f_at, f_nextX, f_nextY, f_x, f_y, a_kind, a_opA, a_opB, a_heardBy, a_what, a_said, a_when, a_over, a_part, a_first, a_second, a_user, a_goStage, a_goStep, a_done, a_val, a_mom, a_cnt, a_end, a_endMom, a_begun, a_status, a_stageOf, a_began, a_taken, a_demand, a_asked, a_code, a_waits, a_waiting, a_came, a_given, a_got) (lN m) := by
  have hcx : f_x.toNatClampNeg = xq := by rw [hfx]; exact nI_clamp (by omega)
  have hix : vp_in f_x 9 := by rw [hfx]; exact vp_in_nI hxq (by decide)
  have cx : a_cnt f_x.toNatClampNeg = nI Lx.length := by rw [hcx]; exact hx.1
  have hcy : f_y.toNatClampNeg = yq := by rw [hfy]; exact nI_clamp (by omega)
  have hiy : vp_in f_y 9 := by rw [hfy]; exact vp_in_nI hyq (by decide)
  have cy : a_cnt f_y.toNatClampNeg = nI Ly.length := by rw [hcy]; exact hy.1
  have lx := hx.2.1
  have ly := hy.2.1
  have s65 : wY_latest_65 post (lN m) (nI (mn i Lx.length)) (nI (mn j Ly.length)) f_stages f_heard f_now f_calls f_parts f_start f_at f_nextX f_nextY f_x f_y a_kind a_opA a_opB a_heardBy a_what a_said a_when a_over a_part a_first a_second a_user a_goStage a_goStep a_done a_val a_mom a_cnt a_end a_endMom a_begun a_status a_stageOf a_began a_taken a_demand a_asked a_code a_waits a_waiting a_came a_given a_got := by
    unfold wY_latest_65
    have e1 : nI (mn i Lx.length) - 1 = nI (mn i Lx.length - 1) := by rw [show (1 : Int32) = nI 1 from rfl, pk_sub (by omega)]
    have e2 : nI (mn j Ly.length) - 1 = nI (mn j Ly.length - 1) := by rw [show (1 : Int32) = nI 1 from rfl, pk_sub (by omega)]
    rw [e1, e2, hfx, hfy]
    refine yw_word (f_x := nI xq) (f_y := nI yq) hxq hx hxx (yw_word (f_x := nI xq) (f_y := nI yq) hyq hy hyy ?_)
    rw [← hfx, ← hfy]
    exact yw_put hp hat hnow ht hm hY hl (fun _ va mm cn k1 k2 => H va mm cn k1 k2) (fun z => absurd hmt z)
  have s32 : wY_latest_32 post (lN m) (nI (mn i Lx.length)) f_stages f_heard f_now f_calls f_parts f_start f_at f_nextX f_nextY f_x f_y a_kind a_opA a_opB a_heardBy a_what a_said a_when a_over a_part a_first a_second a_user a_goStage a_goStep a_done a_val a_mom a_cnt a_end a_endMom a_begun a_status a_stageOf a_began a_taken a_demand a_asked a_code a_waits a_waiting a_came a_given a_got := by
    refine ⟨hiy, ?_⟩
    by_cases h : j < Ly.length
    · refine br_f (by rw [cy, hny]; exact nI_ge h (by omega)) ?_
      rw [show mn j Ly.length = j from by unfold mn; rw [if_pos h], ← hny] at s65
      exact s65
    · refine br_t (by rw [cy, hny]; exact nI_le (by omega) (by omega)) ⟨hiy, ?_⟩
      rw [show mn j Ly.length = Ly.length from by unfold mn; rw [if_neg h], ← cy] at s65
      exact s65
  refine ⟨hix, ?_⟩
  by_cases h : i < Lx.length
  · refine br_f (by rw [cx, hnx]; exact nI_ge h (by omega)) ?_
    rw [show mn i Lx.length = i from by unfold mn; rw [if_pos h], ← hnx] at s32
    exact s32
  · refine br_t (by rw [cx, hnx]; exact nI_le (by omega) (by omega)) ⟨hix, ?_⟩
    rw [show mn i Lx.length = Lx.length from by unfold mn; rw [if_neg h], ← cx] at s32
    exact s32
theorem yh_loop {post : SY → Prop} {p xq yq t k : Nat} {a b : Int32} {Lx Ly : List (Int32 × Nat)} {zx zy : Option (Int32 × Nat)} {RES : List Ev} (hk : k = 16 ∨ k = 17 ∨ k = 18) (hp : p < 9) (hxq : xq < 9) (hyq : yq < 9) (hpx : xq ≠ p) (hpy : yq ≠ p) (hat : f_at = nI p) (hfx : f_x = nI xq) (hfy : f_y = nI yq) (hnow : f_now = nI t) (ht : t ≤ 200) (hex : ∀ e ∈ evs Lx zx, e.2.2 < 1000000000000000 ∧ tim e.2.2 ≤ t) (hey : ∀ e ∈ evs Ly zy, e.2.2 < 1000000000000000 ∧ tim e.2.2 ≤ t) (hL250 : Lx.length + Ly.length ≤ 250)
    (K : ∀ nx ny va mm cn en em L' z', YA va mm cn en em p L' z' → evs L' z' = RES → YF p a_val a_mom a_cnt a_end a_endMom va mm cn en em → L'.length ≤ Lx.length + Ly.length → post (f_stages, f_heard, f_now, f_calls, f_parts, f_start, f_at, nx, ny, f_x, f_y, a_kind, a_opA, a_opB, a_heardBy, a_what, a_said, a_when, a_over, a_part, a_first, a_second, a_user, a_goStage, a_goStep, a_done, va, mm, cn, en, em, a_begun, a_status, a_stageOf, a_began, a_taken, a_demand, a_asked, a_code, a_waits, a_waiting, a_came, a_given, a_got)) :
    ∀ (e i j : Nat) (S : PSt) (Lo : List (Int32 × Nat)) (va : Nat → Int32) (mm : Nat → Int64) (cn : Nat → Int32), i ≤ (evs Lx zx).length → j ≤ (evs Ly zy).length → (evs Lx zx).length - i + ((evs Ly zy).length - j) = e → Lo.length ≤ mn i Lx.length + mn j Ly.length → YA va mm cn a_end a_endMom p Lo none → YA va mm cn a_end a_endMom xq Lx zx → YA va mm cn a_end a_endMom yq Ly zy → YF p a_val a_mom a_cnt a_end a_endMom va mm cn a_end a_endMom → JI k i j Lx Ly S → cmp k i j Lx.length Ly.length = false → RES = ((mrg (tg 0 ((evs Lx zx).drop i)) (tg 1 ((evs Ly zy).drop j))).foldl (stp k a b) (S, evs Lo none)).2 → wY_both_10 post (nI k) (e + 1) f_stages f_heard f_now f_calls f_parts f_start f_at (nI i) (nI j) f_x f_y a_kind a_opA a_opB a_heardBy a_what a_said a_when a_over a_part a_first a_second a_user a_goStage a_goStep a_done (va) (mm) (cn) a_end a_endMom a_begun a_status a_stageOf a_began a_taken a_demand a_asked a_code a_waits a_waiting a_came a_given a_got := by
  have hmx : ∀ e ∈ evs Lx zx, e.2.2 < 1000000000000000 := fun e he => (hex e he).1
  have hmy : ∀ e ∈ evs Ly zy, e.2.2 < 1000000000000000 := fun e he => (hey e he).1
  have hlx := yd_len Lx zx
  have hly := yd_len Ly zy
  have hzx1 : ze zx ≤ 1 := by cases zx <;> simp [ze]
  have hzy1 : ze zy ≤ 1 := by cases zy <;> simp [ze]
  -- what ended: the loop's head sees it
  have ended : ∀ (n : Nat) (nx ny : Int32) (va : Nat → Int32) (mm : Nat → Int64) (cn en : Nat → Int32) (em : Nat → Int64) (Lo : List (Int32 × Nat)) (w : Int32 × Nat), YA va mm cn en em p Lo (some w) → evs Lo (some w) = RES → YF p a_val a_mom a_cnt a_end a_endMom va mm cn en em → Lo.length ≤ Lx.length + Ly.length → wY_both_314 post (wY_both_10 post (nI k) n) (nI k) (lN w.2) f_stages f_heard f_now f_calls f_parts f_start f_at (nx) (ny) f_x f_y a_kind a_opA a_opB a_heardBy a_what a_said a_when a_over a_part a_first a_second a_user a_goStage a_goStep a_done (va) (mm) (cn) (en) (em) a_begun a_status a_stageOf a_began a_taken a_demand a_asked a_code a_waits a_waiting a_came a_given a_got → True := fun _ _ _ _ _ _ _ _ _ _ _ _ _ _ _ => True.intro
  have over : ∀ (n : Nat) (nx ny : Int32) (va : Nat → Int32) (mm : Nat → Int64) (cn en : Nat → Int32) (em : Nat → Int64) (Lo : List (Int32 × Nat)) (w : Int32 × Nat), YA va mm cn en em p Lo (some w) → evs Lo (some w) = RES → YF p a_val a_mom a_cnt a_end a_endMom va mm cn en em → Lo.length ≤ Lx.length + Ly.length → wY_both_10 post (nI k) (n + 1) f_stages f_heard f_now f_calls f_parts f_start f_at (nx) (ny) f_x f_y a_kind a_opA a_opB a_heardBy a_what a_said a_when a_over a_part a_first a_second a_user a_goStage a_goStep a_done (va) (mm) (cn) (en) (em) a_begun a_status a_stageOf a_began a_taken a_demand a_asked a_code a_waits a_waiting a_came a_given a_got := by
    intro n nx ny va mm cn en em Lo w h1 h2 h3 h4
    have hcl : f_at.toNatClampNeg = p := by rw [hat]; exact nI_clamp (by omega)
    obtain ⟨b1, b2, b3⟩ := yb_m1 h1.2.2.2.1 h1.2.2.2.2.1 (fun w hw => (h1.2.2.2.2.2 w hw).1)
    exact ⟨by rw [hat]; exact vp_in_nI hp (by decide), br_t (by rw [hcl]; exact b2.mpr (by simp)) (K nx ny va mm cn en em Lo (some w) h1 h2 h3 h4)⟩
  have over314 : ∀ (n : Nat) (m : Nat) (nx ny : Int32) (va : Nat → Int32) (mm : Nat → Int64) (cn en : Nat → Int32) (em : Nat → Int64) (Lo : List (Int32 × Nat)) (w : Int32 × Nat), YA va mm cn en em p Lo (some w) → evs Lo (some w) = RES → YF p a_val a_mom a_cnt a_end a_endMom va mm cn en em → Lo.length ≤ Lx.length + Ly.length → wY_both_314 post (wY_both_10 post (nI k) (n + 1)) (nI k) (lN m) f_stages f_heard f_now f_calls f_parts f_start f_at (nx) (ny) f_x f_y a_kind a_opA a_opB a_heardBy a_what a_said a_when a_over a_part a_first a_second a_user a_goStage a_goStep a_done (va) (mm) (cn) (en) (em) a_begun a_status a_stageOf a_began a_taken a_demand a_asked a_code a_waits a_waiting a_came a_given a_got := by
    intro n m nx ny va mm cn en em Lo w h1 h2 h3 h4
    have hcl : f_at.toNatClampNeg = p := by rw [hat]; exact nI_clamp (by omega)
    obtain ⟨b1, b2, b3⟩ := yb_m1 h1.2.2.2.1 h1.2.2.2.2.1 (fun w hw => (h1.2.2.2.2.2 w hw).1)
    exact ⟨by rw [hat]; exact vp_in_nI hp (by decide), br_t (by rw [hcl]; exact b2.mpr (by simp)) (over n nx ny va mm cn en em Lo w h1 h2 h3 h4)⟩
  intro e
  induction e with
  | zero =>
    intro i j S Lo va mm cn hi hj he hLo hY hx hy hF hJ hc hT
    have m1 := ye_mnle i Lx.length
    have m2 := ye_mnle j Ly.length
    have l1 := hx.2.1
    have l2 := hy.2.1
    refine yd_head (f_nextX := nI i) (f_nextY := nI j) (a_val := va) (a_mom := mm) (a_cnt := cn) hp hat hxq hyq hfx hfy (by omega) (by omega) rfl rfl hmx hmy hY hx hy (fun h1 h2 => ?_) (fun ex h1 _ => ?_) (fun ey h1 _ => ?_)
    · refine K (nI i) (nI j) va mm cn a_end a_endMom Lo none hY ?_ hF (by omega)
      rw [hT, yd_dropn h1, yd_dropn h2]
      rfl
    · rw [List.getElem?_eq_none (by omega)] at h1; simp at h1
    · rw [List.getElem?_eq_none (by omega)] at h1; simp at h1
  | succ e ih =>
    intro i j S Lo va mm cn hi hj he hLo hY hx hy hF hJ hc hT
    have m1 := ye_mnle i Lx.length
    have m2 := ye_mnle j Ly.length
    have l1 := hx.2.1
    have l2 := hy.2.1
    refine yd_head (f_nextX := nI i) (f_nextY := nI j) (a_val := va) (a_mom := mm) (a_cnt := cn) hp hat hxq hyq hfx hfy (by omega) (by omega) rfl rfl hmx hmy hY hx hy (fun h1 h2 => ?_) (fun ex h1 h2 => ?_) (fun ey h1 h2 => ?_)
    · omega
    · -- side x
      have hmg : mrg (tg 0 ((evs Lx zx).drop i)) (tg 1 ((evs Ly zy).drop j)) = (0, ex) :: mrg (tg 0 ((evs Lx zx).drop (i + 1))) (tg 1 ((evs Ly zy).drop j)) := by
        rw [yd_drop h1]
        refine ye_mx (fun w hw => ?_)
        rw [ye_hd] at hw
        obtain ⟨w', hw', rfl⟩ := Option.map_eq_some_iff.mp hw
        exact h2 w' hw'
      rw [hmg, List.foldl_cons] at hT
      have hmem := List.mem_of_getElem? h1
      have hem := (hex ex hmem).1
      have het := (hex ex hmem).2
      have hcq : (nI xq).toNatClampNeg = xq := nI_clamp (by omega)
      have hiq : vp_in (nI xq) 9 := vp_in_nI hxq (by decide)
      have hiH : i < (evs Lx zx).length := by
        rcases Nat.lt_or_ge i (evs Lx zx).length with w | w
        · exact w
        · rw [List.getElem?_eq_none w] at h1; simp at h1
      by_cases hil : i < Lx.length
      · rw [decide_eq_true hil]
        rw [yd_item hil] at h1
        obtain ⟨x, hxx⟩ : ∃ x, Lx[i]? = some x := ⟨_, List.getElem?_eq_getElem hil⟩
        have hxe : Lx[i] = x := by
          rw [List.getElem?_eq_getElem hil] at hxx
          exact Option.some.inj hxx
        rw [hxe] at h1
        cases h1
        obtain ⟨n1, n2⟩ := ye_mn1 hil
        refine br_f (by decide) ?_
        rcases hk with hk0 | hk0 | hk0
        · subst hk0
          refine br_t rfl (br_f (by decide) ?_)
          refine yw_word (f_nextX := nI (i + 1)) (f_nextY := nI j) hxq hx hxx (yw_put (f_nextX := nI (i + 1)) (f_nextY := nI j) hp hat hnow ht hem hY (by omega) (fun _ va2 mm2 cn2 g1 g2 => ?_) (fun w => absurd het w))
          have hcm : cmp 16 (i + 1) j Lx.length Ly.length = false := by
            have d1 : decide (Lx.length < i + 1) = false := decide_eq_false (by omega)
            simp [cmp, d1]
          refine br_f (by decide) (br_f (by decide) (yd_314 (k := 16) (i := (i + 1)) (j := j) (Or.inl rfl) hp hat hnow ht hem het hxq hyq hfx hfy (by omega) (by omega) rfl rfl g1 (g2 xq hpx _ _ hx) (g2 yq hpy _ _ hy) (fun _ => ?_) (fun w => by rw [hcm] at w; exact absurd w (by decide))))
          refine ih (i + 1) j S _ va2 mm2 cn2 (by omega) (by omega) (by omega) (by rw [n2]; simp; omega) g1 (g2 xq hpx _ _ hx) (g2 yq hpy _ _ hy) (yb_trans hF g2) ?_ hcm ?_
          · obtain ⟨d, c, h, hyy, f, fy, qx, q, ox, oy⟩ := S
            obtain ⟨j1, j2, j3, j4⟩ := hJ
            exact ⟨by rw [j1, decide_eq_false (show ¬ Lx.length < i by omega), decide_eq_false (show ¬ Lx.length < i + 1 by omega)], j2, fun w => by omega, fun w => by omega⟩
          · rw [hT]
            show (List.foldl (stp 16 a b) (stp 16 a b (S, evs Lo none) (0, 1, x.1, x.2)) _).2 = _
            rw [ye_item16 (by decide)]
        · subst hk0
          obtain ⟨q1, q2, q3⟩ := yg_17x (a := a) (b := b) (Lo := Lo) hxx hJ hc
          refine br_f (by decide) (br_t rfl (br_f (by decide) ?_))
          have c259 : ∀ (va2 : Nat → Int32) (mm2 : Nat → Int64) (cn2 en2 : Nat → Int32) (em2 : Nat → Int64), wY_both_314 post (wY_both_10 post (nI 17) (e + 1)) (nI 17) (lN x.2) f_stages f_heard f_now f_calls f_parts f_start f_at (nI (i + 1)) (nI j) f_x f_y a_kind a_opA a_opB a_heardBy a_what a_said a_when a_over a_part a_first a_second a_user a_goStage a_goStep a_done (va2) (mm2) (cn2) (en2) (em2) a_begun a_status a_stageOf a_began a_taken a_demand a_asked a_code a_waits a_waiting a_came a_given a_got → wY_both_259 post (wY_both_10 post (nI 17) (e + 1)) (nI 17) (lN x.2) 1 f_stages f_heard f_now f_calls f_parts f_start f_at (nI (i + 1)) (nI j) f_x f_y a_kind a_opA a_opB a_heardBy a_what a_said a_when a_over a_part a_first a_second a_user a_goStage a_goStep a_done (va2) (mm2) (cn2) (en2) (em2) a_begun a_status a_stageOf a_began a_taken a_demand a_asked a_code a_waits a_waiting a_came a_given a_got := fun _ _ _ _ _ h => br_f (by decide) h
          have hT0 : RES = (List.foldl (stp 17 a b) (stp 17 a b (S, evs Lo none) (0, 1, x.1, x.2)) (mrg (tg 0 ((evs Lx zx).drop (i + 1))) (tg 1 ((evs Ly zy).drop j)))).2 := hT
          have m3 := ye_mnle j Ly.length
          refine yh_pairx (f_nextX := nI (i + 1)) (f_nextY := nI j) (i := i) (j := j) hyq hfy rfl rfl (by omega) hy (yh_88 (f_nextX := nI (i + 1)) (f_nextY := nI j) hp hat hnow ht hem het hxq hyq hfx hfy hY (by omega) hx hy (by omega) (by omega) ?_ ?_ ?_)
          · intro hlt
            obtain ⟨y, hyy⟩ : ∃ y, Ly[i]? = some y := ⟨_, List.getElem?_eq_getElem (by omega)⟩
            obtain ⟨S', hS', hJ'⟩ := q1 y hlt hyy
            refine ⟨x, y, hxx, hyy, fun va2 mm2 cn2 g1 g2 => c259 _ _ _ _ _ ?_⟩
            rw [hS'] at hT0
            refine yd_314 (k := 17) (i := (i + 1)) (j := j) (Or.inr (Or.inl rfl)) hp hat hnow ht hem het hxq hyq hfx hfy (by omega) (by omega) rfl rfl g1 (g2 xq hpx _ _ hx) (g2 yq hpy _ _ hy) (fun w => ?_) (fun w en em k1 k2 => ?_)
            · rw [if_neg (by rw [w]; decide)] at hT0
              exact ih (i + 1) j S' _ va2 mm2 cn2 (by omega) (by omega) (by omega) (by rw [n2]; simp; omega) g1 (g2 xq hpx _ _ hx) (g2 yq hpy _ _ hy) (yb_trans hF g2) hJ' w hT0
            · rw [if_pos w, rn_fold_fin _ _ (yt_finend _ _ _)] at hT0
              exact K _ _ va2 mm2 cn2 en em _ _ k1 hT0.symm (yb_trans hF (yb_trans g2 k2)) (by simp; omega)
          · intro hle h8
            obtain ⟨hcm, S', hS', hJ'⟩ := q2 hle h8
            rw [hS'] at hT0
            refine c259 _ _ _ _ _ (yd_314 (k := 17) (i := (i + 1)) (j := j) (Or.inr (Or.inl rfl)) hp hat hnow ht hem het hxq hyq hfx hfy (by omega) (by omega) rfl rfl hY hx hy (fun _ => ?_) (fun w => by rw [hcm] at w; exact absurd w (by decide)))
            exact ih (i + 1) j S' Lo va mm cn (by omega) (by omega) (by omega) (by rw [n2]; omega) hY hx hy hF hJ' hcm hT0
          · intro hle h8 en em k1 k2
            have hf := q3 hle h8
            rw [rn_fold_fin _ _ (by rw [hf]; exact yt_finend _ _ _), hf] at hT0
            exact c259 _ _ _ _ _ (over314 e x.2 _ _ va mm cn en em Lo (8, x.2) k1 hT0.symm (yb_trans hF k2) (by omega))
        · subst hk0
          obtain ⟨S', hJ', hcm, q1, q2⟩ := yg_18x (a := a) (b := b) (Lo := Lo) hxx hJ hc
          have hT0 : RES = (List.foldl (stp 18 a b) (stp 18 a b (S, evs Lo none) (0, 1, x.1, x.2)) (mrg (tg 0 ((evs Lx zx).drop (i + 1))) (tg 1 ((evs Ly zy).drop j)))).2 := hT
          have c314 : ∀ (Lo2 : List (Int32 × Nat)) (va2 : Nat → Int32) (mm2 : Nat → Int64) (cn2 : Nat → Int32), YA va2 mm2 cn2 a_end a_endMom p Lo2 none → YA va2 mm2 cn2 a_end a_endMom xq Lx zx → YA va2 mm2 cn2 a_end a_endMom yq Ly zy → YF p a_val a_mom a_cnt a_end a_endMom va2 mm2 cn2 a_end a_endMom → Lo2.length ≤ mn (i + 1) Lx.length + mn j Ly.length → stp 18 a b (S, evs Lo none) (0, 1, x.1, x.2) = (S', evs Lo2 none) → wY_both_314 post (wY_both_10 post (nI 18) (e + 1)) (nI 18) (lN x.2) f_stages f_heard f_now f_calls f_parts f_start f_at (nI (i + 1)) (nI j) f_x f_y a_kind a_opA a_opB a_heardBy a_what a_said a_when a_over a_part a_first a_second a_user a_goStage a_goStep a_done (va2) (mm2) (cn2) a_end a_endMom a_begun a_status a_stageOf a_began a_taken a_demand a_asked a_code a_waits a_waiting a_came a_given a_got := by
            intro Lo2 va2 mm2 cn2 g1 g2 g3 g4 g5 g6
            rw [g6] at hT0
            refine yd_314 (k := 18) (i := (i + 1)) (j := j) (Or.inr (Or.inr rfl)) hp hat hnow ht hem het hxq hyq hfx hfy (by omega) (by omega) rfl rfl g1 g2 g3 (fun _ => ?_) (fun w => by rw [hcm] at w; exact absurd w (by decide))
            exact ih (i + 1) j S' Lo2 va2 mm2 cn2 (by omega) (by omega) (by omega) g5 g1 g2 g3 g4 hJ' hcm hT0
          have hcx : f_x.toNatClampNeg = xq := by rw [hfx]; exact nI_clamp (by omega)
          have hix : vp_in f_x 9 := by rw [hfx]; exact vp_in_nI hxq (by decide)
          have cx : cn f_x.toNatClampNeg = nI Lx.length := by rw [hcx]; exact hx.1
          have hcy : f_y.toNatClampNeg = yq := by rw [hfy]; exact nI_clamp (by omega)
          have hiy : vp_in f_y 9 := by rw [hfy]; exact vp_in_nI hyq (by decide)
          have cy : cn f_y.toNatClampNeg = nI Ly.length := by rw [hcy]; exact hy.1
          have none0 : mn j Ly.length = 0 → wY_both_314 post (wY_both_10 post (nI 18) (e + 1)) (nI 18) (lN x.2) f_stages f_heard f_now f_calls f_parts f_start f_at (nI (i + 1)) (nI j) f_x f_y a_kind a_opA a_opB a_heardBy a_what a_said a_when a_over a_part a_first a_second a_user a_goStage a_goStep a_done (va) (mm) (cn) a_end a_endMom a_begun a_status a_stageOf a_began a_taken a_demand a_asked a_code a_waits a_waiting a_came a_given a_got := fun h0 => c314 Lo va mm cn hY hx hy hF (by rw [n2]; omega) (q1 h0)
          have m3 := ye_mnle j Ly.length
          refine br_f (by decide) (br_f (by decide) (br_t rfl (br_f (by decide) ?_)))
          by_cases h0 : mn j Ly.length = 0
          · have hz := none0 h0
            refine br_f (nI_nle (by omega) (by omega)) ?_
            by_cases e2 : j = 0
            · exact br_t (by rw [e2]; decide) hz
            · refine br_f (nI_nle (by omega) (by omega)) ⟨hix, br_f (by rw [cx]; exact nI_nle (by omega) (by omega)) ⟨hiy, br_t ?_ hz⟩⟩
              have h00 : Ly.length = 0 := by
                unfold mn at h0
                split at h0 <;> omega
              rw [cy, h00]; decide
          · obtain ⟨y, hyy⟩ : ∃ y, Ly[mn j Ly.length - 1]? = some y := ⟨_, List.getElem?_eq_getElem (by omega)⟩
            refine br_f (nI_nle (by omega) (by omega)) (br_f (nI_nle (by omega) (by omega)) ⟨hix, br_f (by rw [cx]; exact nI_nle (by omega) (by omega)) ⟨hiy, br_f (by rw [cy]; exact nI_nle (by omega) (by omega)) ?_⟩⟩)
            refine yh_latest (f_nextX := nI (i + 1)) (f_nextY := nI j) (i := i + 1) (j := j) (x := x) (y := y) hp hat hnow ht hem het hxq hyq hfx hfy rfl rfl (by omega) (by omega) hY (by omega) hx hy (by omega) (by omega) (by rw [n2, Nat.add_sub_cancel]; exact hxx) hyy (fun va2 mm2 cn2 g1 g2 => ?_)
            exact c314 _ va2 mm2 cn2 g1 (g2 xq hpx _ _ hx) (g2 yq hpy _ _ hy) (yb_trans hF g2) (by rw [n2]; simp; omega) (q2 y (by omega) hyy)
      · rw [decide_eq_false hil]
        have hie : i = Lx.length := by omega
        subst hie
        cases zx with
        | none => simp [evs] at hiH
        | some w =>
          obtain ⟨v, m⟩ := w
          rw [yd_endi] at h1
          cases h1
          obtain ⟨n1, n2⟩ := ye_mn2 Lx.length
          obtain ⟨hm1, jj, hjj, ejj⟩ := hx.2.2.2.1 (v, m) rfl
          have hev0 := hx.2.2.2.2.2 (v, m) rfl
          have hev : a_end (nI xq).toNatClampNeg = v := by rw [hcq]; exact hev0.1
          refine br_t rfl ⟨hiq, ?_⟩
          by_cases hv0 : v = 0
          · subst hv0
            obtain ⟨S', hS', hJ'⟩ := ye_compx (a := a) (b := b) (Lo := Lo) (m := m) hk hJ hc
            have hT0 : RES = (List.foldl (stp k a b) (stp k a b (S, evs Lo none) (0, 2, 0, m)) (mrg (tg 0 ((evs Lx (some (0, m))).drop (Lx.length + 1))) (tg 1 ((evs Ly zy).drop j)))).2 := hT
            rw [hS'] at hT0
            have g314 : wY_both_314 post (wY_both_10 post (nI k) (e + 1)) (nI k) (lN m) f_stages f_heard f_now f_calls f_parts f_start f_at (nI (Lx.length + 1)) (nI j) f_x f_y a_kind a_opA a_opB a_heardBy a_what a_said a_when a_over a_part a_first a_second a_user a_goStage a_goStep a_done (va) (mm) (cn) a_end a_endMom a_begun a_status a_stageOf a_began a_taken a_demand a_asked a_code a_waits a_waiting a_came a_given a_got := by
              refine yd_314 (k := k) (i := (Lx.length + 1)) (j := j) hk hp hat hnow ht hem het hxq hyq hfx hfy (by omega) (by omega) rfl rfl hY hx hy (fun w => ?_) (fun w en em k1 k2 => ?_)
              · rw [if_neg (by rw [w]; decide)] at hT0
                exact ih (Lx.length + 1) j S' Lo va mm cn (by omega) (by omega) (by omega) (by rw [n2]; rw [n1] at hLo; exact hLo) hY hx hy hF hJ' w hT0
              · rw [if_pos w, rn_fold_fin _ _ (yt_finend _ _ _)] at hT0
                exact K _ _ va mm cn en em _ _ k1 hT0.symm (yb_trans hF k2) (by omega)
            refine br_t (by rw [hev]; decide) ?_
            rcases hk with hk0 | hk0 | hk0
            · subst hk0
              exact br_t rfl (br_t rfl (br_f (by decide) (br_f (by decide) g314)))
            · subst hk0
              exact br_f (by decide) (br_t rfl (br_t rfl (br_f (by decide) g314)))
            · subst hk0
              exact br_f (by decide) (br_f (by decide) (br_t rfl (br_t rfl g314)))
          · have hjp : 0 < jj := by
              rcases Nat.eq_zero_or_pos jj with w | w
              · exfalso; apply hv0; have : v = nI jj := ejj; rw [this, w]; rfl
              · exact w
            refine br_f (by rw [hev, show v = nI jj from ejj]; exact nI_nle hjp (by omega)) ⟨hiq, ?_⟩
            rw [hev]
            refine yw_stop (f_nextX := nI (Lx.length + 1)) (f_nextY := nI j) hp hat hnow ht hm1 hjj ejj hY (fun _ en em k1 k2 => K _ _ va mm cn en em Lo (some (v, m)) k1 ?_ (yb_trans hF k2) (by omega)) (fun w => absurd het w)
            have hE := ye_err (k := k) (a := a) (b := b) (s := 0) (Lo := Lo) (S := S) (v := v) (m := m) (by omega) (by decide) hv0
            rw [hT, rn_fold_fin _ _ (by rw [hE]; exact yt_finend _ _ _), hE]
    · -- side y
      have hmg : mrg (tg 0 ((evs Lx zx).drop i)) (tg 1 ((evs Ly zy).drop j)) = (1, ey) :: mrg (tg 0 ((evs Lx zx).drop i)) (tg 1 ((evs Ly zy).drop (j + 1))) := by
        rw [yd_drop h1]
        refine ye_my (fun w hw => ?_)
        rw [ye_hd] at hw
        obtain ⟨w', hw', rfl⟩ := Option.map_eq_some_iff.mp hw
        exact h2 w' hw'
      rw [hmg, List.foldl_cons] at hT
      have hmem := List.mem_of_getElem? h1
      have hem := (hey ey hmem).1
      have het := (hey ey hmem).2
      have hcq : (nI yq).toNatClampNeg = yq := nI_clamp (by omega)
      have hiq : vp_in (nI yq) 9 := vp_in_nI hyq (by decide)
      have hiH : j < (evs Ly zy).length := by
        rcases Nat.lt_or_ge j (evs Ly zy).length with w | w
        · exact w
        · rw [List.getElem?_eq_none w] at h1; simp at h1
      by_cases hil : j < Ly.length
      · rw [decide_eq_true hil]
        rw [yd_item hil] at h1
        obtain ⟨x, hxx⟩ : ∃ x, Ly[j]? = some x := ⟨_, List.getElem?_eq_getElem hil⟩
        have hxe : Ly[j] = x := by
          rw [List.getElem?_eq_getElem hil] at hxx
          exact Option.some.inj hxx
        rw [hxe] at h1
        cases h1
        obtain ⟨n1, n2⟩ := ye_mn1 hil
        refine br_f (by decide) ?_
        rcases hk with hk0 | hk0 | hk0
        · subst hk0
          refine br_t rfl (br_f (by decide) ?_)
          refine yw_word (f_nextX := nI i) (f_nextY := nI (j + 1)) hyq hy hxx (yw_put (f_nextX := nI i) (f_nextY := nI (j + 1)) hp hat hnow ht hem hY (by omega) (fun _ va2 mm2 cn2 g1 g2 => ?_) (fun w => absurd het w))
          have hcm : cmp 16 i (j + 1) Lx.length Ly.length = false := by
            have d1 : decide (Ly.length < j + 1) = false := decide_eq_false (by omega)
            simp [cmp, d1]
          refine br_f (by decide) (br_f (by decide) (yd_314 (k := 16) (i := i) (j := (j + 1)) (Or.inl rfl) hp hat hnow ht hem het hxq hyq hfx hfy (by omega) (by omega) rfl rfl g1 (g2 xq hpx _ _ hx) (g2 yq hpy _ _ hy) (fun _ => ?_) (fun w => by rw [hcm] at w; exact absurd w (by decide))))
          refine ih i (j + 1) S _ va2 mm2 cn2 (by omega) (by omega) (by omega) (by rw [n2]; simp; omega) g1 (g2 xq hpx _ _ hx) (g2 yq hpy _ _ hy) (yb_trans hF g2) ?_ hcm ?_
          · obtain ⟨d, c, h, hyy, f, fy, qx, q, ox, oy⟩ := S
            obtain ⟨j1, j2, j3, j4⟩ := hJ
            exact ⟨j1, by rw [j2, decide_eq_false (show ¬ Ly.length < j by omega), decide_eq_false (show ¬ Ly.length < j + 1 by omega)], fun w => by omega, fun w => by omega⟩
          · rw [hT]
            show (List.foldl (stp 16 a b) (stp 16 a b (S, evs Lo none) (1, 1, x.1, x.2)) _).2 = _
            rw [ye_item16 (by decide)]
        · subst hk0
          obtain ⟨q1, q2, q3⟩ := yg_17y (a := a) (b := b) (Lo := Lo) hxx hJ hc
          refine br_f (by decide) (br_t rfl (br_f (by decide) ?_))
          have c259 : ∀ (va2 : Nat → Int32) (mm2 : Nat → Int64) (cn2 en2 : Nat → Int32) (em2 : Nat → Int64), wY_both_314 post (wY_both_10 post (nI 17) (e + 1)) (nI 17) (lN x.2) f_stages f_heard f_now f_calls f_parts f_start f_at (nI i) (nI (j + 1)) f_x f_y a_kind a_opA a_opB a_heardBy a_what a_said a_when a_over a_part a_first a_second a_user a_goStage a_goStep a_done (va2) (mm2) (cn2) (en2) (em2) a_begun a_status a_stageOf a_began a_taken a_demand a_asked a_code a_waits a_waiting a_came a_given a_got → wY_both_259 post (wY_both_10 post (nI 17) (e + 1)) (nI 17) (lN x.2) 1 f_stages f_heard f_now f_calls f_parts f_start f_at (nI i) (nI (j + 1)) f_x f_y a_kind a_opA a_opB a_heardBy a_what a_said a_when a_over a_part a_first a_second a_user a_goStage a_goStep a_done (va2) (mm2) (cn2) (en2) (em2) a_begun a_status a_stageOf a_began a_taken a_demand a_asked a_code a_waits a_waiting a_came a_given a_got := fun _ _ _ _ _ h => br_f (by decide) h
          have hT0 : RES = (List.foldl (stp 17 a b) (stp 17 a b (S, evs Lo none) (1, 1, x.1, x.2)) (mrg (tg 0 ((evs Lx zx).drop i)) (tg 1 ((evs Ly zy).drop (j + 1))))).2 := hT
          have m3 := ye_mnle i Lx.length
          refine yh_pairy (f_nextX := nI i) (f_nextY := nI (j + 1)) (i := i) (j := j) hxq hfx rfl rfl (by omega) hx (yh_88 (f_nextX := nI i) (f_nextY := nI (j + 1)) hp hat hnow ht hem het hxq hyq hfx hfy hY (by omega) hx hy (by omega) (by omega) ?_ ?_ ?_)
          · intro hlt
            obtain ⟨y, hyy⟩ : ∃ y, Lx[j]? = some y := ⟨_, List.getElem?_eq_getElem (by omega)⟩
            obtain ⟨S', hS', hJ'⟩ := q1 y hlt hyy
            refine ⟨y, x, hyy, hxx, fun va2 mm2 cn2 g1 g2 => c259 _ _ _ _ _ ?_⟩
            rw [hS'] at hT0
            refine yd_314 (k := 17) (i := i) (j := (j + 1)) (Or.inr (Or.inl rfl)) hp hat hnow ht hem het hxq hyq hfx hfy (by omega) (by omega) rfl rfl g1 (g2 xq hpx _ _ hx) (g2 yq hpy _ _ hy) (fun w => ?_) (fun w en em k1 k2 => ?_)
            · rw [if_neg (by rw [w]; decide)] at hT0
              exact ih i (j + 1) S' _ va2 mm2 cn2 (by omega) (by omega) (by omega) (by rw [n2]; simp; omega) g1 (g2 xq hpx _ _ hx) (g2 yq hpy _ _ hy) (yb_trans hF g2) hJ' w hT0
            · rw [if_pos w, rn_fold_fin _ _ (yt_finend _ _ _)] at hT0
              exact K _ _ va2 mm2 cn2 en em _ _ k1 hT0.symm (yb_trans hF (yb_trans g2 k2)) (by simp; omega)
          · intro hle h8
            obtain ⟨hcm, S', hS', hJ'⟩ := q2 hle h8
            rw [hS'] at hT0
            refine c259 _ _ _ _ _ (yd_314 (k := 17) (i := i) (j := (j + 1)) (Or.inr (Or.inl rfl)) hp hat hnow ht hem het hxq hyq hfx hfy (by omega) (by omega) rfl rfl hY hx hy (fun _ => ?_) (fun w => by rw [hcm] at w; exact absurd w (by decide)))
            exact ih i (j + 1) S' Lo va mm cn (by omega) (by omega) (by omega) (by rw [n2]; omega) hY hx hy hF hJ' hcm hT0
          · intro hle h8 en em k1 k2
            have hf := q3 hle h8
            rw [rn_fold_fin _ _ (by rw [hf]; exact yt_finend _ _ _), hf] at hT0
            exact c259 _ _ _ _ _ (over314 e x.2 _ _ va mm cn en em Lo (8, x.2) k1 hT0.symm (yb_trans hF k2) (by omega))
        · subst hk0
          obtain ⟨S', hJ', hcm, q1, q2⟩ := yg_18y (a := a) (b := b) (Lo := Lo) hxx hJ hc
          have hT0 : RES = (List.foldl (stp 18 a b) (stp 18 a b (S, evs Lo none) (1, 1, x.1, x.2)) (mrg (tg 0 ((evs Lx zx).drop i)) (tg 1 ((evs Ly zy).drop (j + 1))))).2 := hT
          have c314 : ∀ (Lo2 : List (Int32 × Nat)) (va2 : Nat → Int32) (mm2 : Nat → Int64) (cn2 : Nat → Int32), YA va2 mm2 cn2 a_end a_endMom p Lo2 none → YA va2 mm2 cn2 a_end a_endMom xq Lx zx → YA va2 mm2 cn2 a_end a_endMom yq Ly zy → YF p a_val a_mom a_cnt a_end a_endMom va2 mm2 cn2 a_end a_endMom → Lo2.length ≤ mn i Lx.length + mn (j + 1) Ly.length → stp 18 a b (S, evs Lo none) (1, 1, x.1, x.2) = (S', evs Lo2 none) → wY_both_314 post (wY_both_10 post (nI 18) (e + 1)) (nI 18) (lN x.2) f_stages f_heard f_now f_calls f_parts f_start f_at (nI i) (nI (j + 1)) f_x f_y a_kind a_opA a_opB a_heardBy a_what a_said a_when a_over a_part a_first a_second a_user a_goStage a_goStep a_done (va2) (mm2) (cn2) a_end a_endMom a_begun a_status a_stageOf a_began a_taken a_demand a_asked a_code a_waits a_waiting a_came a_given a_got := by
            intro Lo2 va2 mm2 cn2 g1 g2 g3 g4 g5 g6
            rw [g6] at hT0
            refine yd_314 (k := 18) (i := i) (j := (j + 1)) (Or.inr (Or.inr rfl)) hp hat hnow ht hem het hxq hyq hfx hfy (by omega) (by omega) rfl rfl g1 g2 g3 (fun _ => ?_) (fun w => by rw [hcm] at w; exact absurd w (by decide))
            exact ih i (j + 1) S' Lo2 va2 mm2 cn2 (by omega) (by omega) (by omega) g5 g1 g2 g3 g4 hJ' hcm hT0
          have hcx : f_x.toNatClampNeg = xq := by rw [hfx]; exact nI_clamp (by omega)
          have hix : vp_in f_x 9 := by rw [hfx]; exact vp_in_nI hxq (by decide)
          have cx : cn f_x.toNatClampNeg = nI Lx.length := by rw [hcx]; exact hx.1
          have hcy : f_y.toNatClampNeg = yq := by rw [hfy]; exact nI_clamp (by omega)
          have hiy : vp_in f_y 9 := by rw [hfy]; exact vp_in_nI hyq (by decide)
          have cy : cn f_y.toNatClampNeg = nI Ly.length := by rw [hcy]; exact hy.1
          have none0 : mn i Lx.length = 0 → wY_both_314 post (wY_both_10 post (nI 18) (e + 1)) (nI 18) (lN x.2) f_stages f_heard f_now f_calls f_parts f_start f_at (nI i) (nI (j + 1)) f_x f_y a_kind a_opA a_opB a_heardBy a_what a_said a_when a_over a_part a_first a_second a_user a_goStage a_goStep a_done (va) (mm) (cn) a_end a_endMom a_begun a_status a_stageOf a_began a_taken a_demand a_asked a_code a_waits a_waiting a_came a_given a_got := fun h0 => c314 Lo va mm cn hY hx hy hF (by rw [n2]; omega) (q1 h0)
          have m3 := ye_mnle i Lx.length
          refine br_f (by decide) (br_f (by decide) (br_t rfl (br_f (by decide) ?_)))
          by_cases h0 : mn i Lx.length = 0
          · have hz := none0 h0
            by_cases e2 : i = 0
            · exact br_t (by rw [e2]; decide) hz
            · refine br_f (nI_nle (by omega) (by omega)) (br_f (nI_nle (by omega) (by omega)) ⟨hix, br_t ?_ hz⟩)
              have h00 : Lx.length = 0 := by
                unfold mn at h0
                split at h0 <;> omega
              rw [cx, h00]; decide
          · obtain ⟨y, hyy⟩ : ∃ y, Lx[mn i Lx.length - 1]? = some y := ⟨_, List.getElem?_eq_getElem (by omega)⟩
            refine br_f (nI_nle (by omega) (by omega)) (br_f (nI_nle (by omega) (by omega)) ⟨hix, br_f (by rw [cx]; exact nI_nle (by omega) (by omega)) ⟨hiy, br_f (by rw [cy]; exact nI_nle (by omega) (by omega)) ?_⟩⟩)
            refine yh_latest (f_nextX := nI i) (f_nextY := nI (j + 1)) (i := i) (j := j + 1) (x := y) (y := x) hp hat hnow ht hem het hxq hyq hfx hfy rfl rfl (by omega) (by omega) hY (by omega) hx hy (by omega) (by omega) hyy (by rw [n2, Nat.add_sub_cancel]; exact hxx) (fun va2 mm2 cn2 g1 g2 => ?_)
            exact c314 _ va2 mm2 cn2 g1 (g2 xq hpx _ _ hx) (g2 yq hpy _ _ hy) (yb_trans hF g2) (by rw [n2]; simp; omega) (q2 y (by omega) hyy)
      · rw [decide_eq_false hil]
        have hie : j = Ly.length := by omega
        subst hie
        cases zy with
        | none => simp [evs] at hiH
        | some w =>
          obtain ⟨v, m⟩ := w
          rw [yd_endi] at h1
          cases h1
          obtain ⟨n1, n2⟩ := ye_mn2 Ly.length
          obtain ⟨hm1, jj, hjj, ejj⟩ := hy.2.2.2.1 (v, m) rfl
          have hev0 := hy.2.2.2.2.2 (v, m) rfl
          have hev : a_end (nI yq).toNatClampNeg = v := by rw [hcq]; exact hev0.1
          refine br_t rfl ⟨hiq, ?_⟩
          by_cases hv0 : v = 0
          · subst hv0
            obtain ⟨S', hS', hJ'⟩ := ye_compy (a := a) (b := b) (Lo := Lo) (m := m) hk hJ hc
            have hT0 : RES = (List.foldl (stp k a b) (stp k a b (S, evs Lo none) (1, 2, 0, m)) (mrg (tg 0 ((evs Lx zx).drop i)) (tg 1 ((evs Ly (some (0, m))).drop (Ly.length + 1))))).2 := hT
            rw [hS'] at hT0
            have g314 : wY_both_314 post (wY_both_10 post (nI k) (e + 1)) (nI k) (lN m) f_stages f_heard f_now f_calls f_parts f_start f_at (nI i) (nI (Ly.length + 1)) f_x f_y a_kind a_opA a_opB a_heardBy a_what a_said a_when a_over a_part a_first a_second a_user a_goStage a_goStep a_done (va) (mm) (cn) a_end a_endMom a_begun a_status a_stageOf a_began a_taken a_demand a_asked a_code a_waits a_waiting a_came a_given a_got := by
              refine yd_314 (k := k) (i := i) (j := (Ly.length + 1)) hk hp hat hnow ht hem het hxq hyq hfx hfy (by omega) (by omega) rfl rfl hY hx hy (fun w => ?_) (fun w en em k1 k2 => ?_)
              · rw [if_neg (by rw [w]; decide)] at hT0
                exact ih i (Ly.length + 1) S' Lo va mm cn (by omega) (by omega) (by omega) (by rw [n2]; rw [n1] at hLo; exact hLo) hY hx hy hF hJ' w hT0
              · rw [if_pos w, rn_fold_fin _ _ (yt_finend _ _ _)] at hT0
                exact K _ _ va mm cn en em _ _ k1 hT0.symm (yb_trans hF k2) (by omega)
            refine br_t (by rw [hev]; decide) ?_
            rcases hk with hk0 | hk0 | hk0
            · subst hk0
              exact br_t rfl (br_t rfl (br_f (by decide) (br_f (by decide) g314)))
            · subst hk0
              exact br_f (by decide) (br_t rfl (br_t rfl (br_f (by decide) g314)))
            · subst hk0
              exact br_f (by decide) (br_f (by decide) (br_t rfl (br_t rfl g314)))
          · have hjp : 0 < jj := by
              rcases Nat.eq_zero_or_pos jj with w | w
              · exfalso; apply hv0; have : v = nI jj := ejj; rw [this, w]; rfl
              · exact w
            refine br_f (by rw [hev, show v = nI jj from ejj]; exact nI_nle hjp (by omega)) ⟨hiq, ?_⟩
            rw [hev]
            refine yw_stop (f_nextX := nI i) (f_nextY := nI (Ly.length + 1)) hp hat hnow ht hm1 hjj ejj hY (fun _ en em k1 k2 => K _ _ va mm cn en em Lo (some (v, m)) k1 ?_ (yb_trans hF k2) (by omega)) (fun w => absurd het w)
            have hE := ye_err (k := k) (a := a) (b := b) (s := 1) (Lo := Lo) (S := S) (v := v) (m := m) (by omega) (by decide) hv0
            rw [hT, rn_fold_fin _ _ (by rw [hE]; exact yt_finend _ _ _), hE]
end
