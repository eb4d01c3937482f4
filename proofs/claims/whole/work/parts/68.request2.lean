/-! ===== request ===== -/
theorem dw_ws {t : Nat} : ∀ (r : List Int32) (st co : Int32) (en : Nat) (dm : Int64) (dv : Int32) (w1 w2 : List Int32) (hh : Nat → Int64), dlw t r (st, co, en, dm, dv, w1, hh) = dlw t r (st, co, en, dm, dv, w2, hh) := by
  intro r
  induction r with
  | nil => intros; rfl
  | cons v r ih =>
    intro st co en dm dv w1 w2 hh
    show (if dm ≤ 0 then (st, co, en, dm, dv, v :: r, hh) else dlw t r (st, co, en, dec1 dm, dv + 1, w1, vp_updL hh (dj dv) (hv t v))) = (if dm ≤ 0 then (st, co, en, dm, dv, v :: r, hh) else dlw t r (st, co, en, dec1 dm, dv + 1, w2, vp_updL hh (dj dv) (hv t v)))
    rw [ih st co en (dec1 dm) (dv + 1) w1 w2 (vp_updL hh (dj dv) (hv t v))]
section
variable {f_stages : Int32} {f_heard : Int32} {f_now : Int32} {f_calls : Int64} {f_parts : Int32} {f_start : Int64} {f_at : Int32} {f_nextX : Int32} {f_nextY : Int32} {f_x : Int32} {f_y : Int32} {a_kind : (Nat → Int32)} {a_opA : (Nat → Int32)} {a_opB : (Nat → Int32)} {a_heardBy : (Nat → Int32)} {a_what : (Nat → Int32)} {a_said : (Nat → Int32)} {a_when : (Nat → Int64)} {a_over : (Nat → Int32)} {a_part : (Nat → Int32)} {a_first : (Nat → Int32)} {a_second : (Nat → Int32)} {a_user : (Nat → Int32)} {a_goStage : (Nat → Int32)} {a_goStep : (Nat → Int32)} {a_done : (Nat → Int32)} {a_val : (Nat → Int32)} {a_mom : (Nat → Int64)} {a_cnt : (Nat → Int32)} {a_end : (Nat → Int32)} {a_endMom : (Nat → Int64)} {a_begun : (Nat → Int32)} {a_status : (Nat → Int32)} {a_stageOf : (Nat → Int32)} {a_began : (Nat → Int64)} {a_taken : (Nat → Int32)} {a_demand : (Nat → Int64)} {a_asked : (Nat → Int32)} {a_code : (Nat → Int32)} {a_waits : (Nat → Int32)} {a_waiting : (Nat → Int32)} {a_came : (Nat → Int32)} {a_given : (Nat → Int32)} {a_got : (Nat → Int64)}
theorem yd_shift {post : Int32 → SY → Prop} {J : Int32 → Int32 → Int32 → Int64 → Int32 → Int64 → Int32 → Int32 → Int32 → Int32 → Int32 → (Nat → Int32) → (Nat → Int32) → (Nat → Int32) → (Nat → Int32) → (Nat → Int32) → (Nat → Int32) → (Nat → Int64) → (Nat → Int32) → (Nat → Int32) → (Nat → Int32) → (Nat → Int32) → (Nat → Int32) → (Nat → Int32) → (Nat → Int32) → (Nat → Int32) → (Nat → Int32) → (Nat → Int64) → (Nat → Int32) → (Nat → Int32) → (Nat → Int64) → (Nat → Int32) → (Nat → Int32) → (Nat → Int32) → (Nat → Int64) → (Nat → Int32) → (Nat → Int64) → (Nat → Int32) → (Nat → Int32) → (Nat → Int32) → (Nat → Int32) → (Nat → Int32) → (Nat → Int32) → (Nat → Int64) → Prop} {id m : Nat} {ws : List Int32} (hid : id < 3) (hm : ws.length = m + 1) (h8 : ws.length ≤ 8) (hwt : a_waits id = nI m)
    (H : ∀ wg, (∀ r x, ws[r + 1]? = some x → wg (8 * id + r) = x) → (∀ j, j ≠ id → ∀ r, r < 8 → wg (8 * j + r) = a_waiting (8 * j + r)) → J f_stages f_heard f_now f_calls f_parts f_start f_at f_nextX f_nextY f_x f_y a_kind a_opA a_opB a_heardBy a_what a_said a_when a_over a_part a_first a_second a_user a_goStage a_goStep a_done a_val a_mom a_cnt a_end a_endMom a_begun a_status a_stageOf a_began a_taken a_demand a_asked a_code a_waits (wg) a_came a_given a_got) :
    ∀ (e i : Nat) (wg : Nat → Int32), i + e = m → (∀ r x, r < i → ws[r + 1]? = some x → wg (8 * id + r) = x) → (∀ r x, i ≤ r → ws[r]? = some x → wg (8 * id + r) = x) → (∀ j, j ≠ id → ∀ r, r < 8 → wg (8 * j + r) = a_waiting (8 * j + r)) → wY_request_136 post J (nI id) f_stages f_heard f_now f_calls f_parts f_start f_at f_nextX f_nextY f_x f_y (e + 1) (nI (8 * id + i)) a_kind a_opA a_opB a_heardBy a_what a_said a_when a_over a_part a_first a_second a_user a_goStage a_goStep a_done a_val a_mom a_cnt a_end a_endMom a_begun a_status a_stageOf a_began a_taken a_demand a_asked a_code a_waits (wg) a_came a_given a_got := by
  have hcl : (nI id).toNatClampNeg = id := nI_clamp (by omega)
  have hin : vp_in (nI id) 3 := vp_in_nI hid (by decide)
  have e8 : 8 * nI id + a_waits (nI id).toNatClampNeg = nI (8 * id + m) := by
    rw [hcl, hwt, show (8 : Int32) = nI 8 from rfl, pk_mul, nI_add]
  intro e
  induction e with
  | zero =>
    intro i wg hi h1 h2 h3
    have : i = m := by omega
    subst this
    refine ⟨hin, br_t (by rw [e8]; exact nI_le (Nat.le_refl _) (by omega)) (H wg (fun r x hx => h1 r x ?_ hx) h3)⟩
    rcases Nat.lt_or_ge (r + 1) ws.length with y | y
    · omega
    · rw [List.getElem?_eq_none y] at hx; exact absurd hx (by simp)
  | succ e ih =>
    intro i wg hi h1 h2 h3
    have ea : nI (8 * id + i) + 1 = nI (8 * id + (i + 1)) := nI_1 _
    have hca : (nI (8 * id + i)).toNatClampNeg = 8 * id + i := nI_clamp (by omega)
    have hcb : (nI (8 * id + (i + 1))).toNatClampNeg = 8 * id + (i + 1) := nI_clamp (by omega)
    have hil : i + 1 < ws.length := by omega
    refine ⟨hin, br_f (by rw [e8]; exact nI_ge (by omega) (by omega)) ⟨by rw [ea]; exact vp_in_nI (by omega) (by decide), vp_in_nI (by omega) (by decide), nm_r (e' := upd wg (8 * id + i) ws[i + 1]) (by rw [ea, hca, hcb, h2 (i + 1) ws[i + 1] (by omega) (List.getElem?_eq_getElem hil)]) (nm_r ea ?_)⟩⟩
    refine ih (i + 1) _ (by omega) (fun r x hr hx => ?_) (fun r x hr hx => ?_) (fun j hj r hr => ?_)
    · by_cases e1 : r = i
      · subst e1
        rw [pk_us]
        rw [List.getElem?_eq_getElem hil] at hx
        exact Option.some.inj hx
      · rw [pk_un (by omega)]
        exact h1 r x (by omega) hx
    · rw [pk_un (by omega)]
      exact h2 r x (by omega) hx
    · rw [pk_un (by omega)]
      exact h3 j hj r hr
theorem yd_loop {post : Int32 → SY → Prop} {id t : Nat} (hid : id < 3) (ht : t < 1000) (hn : f_now = nI t) {G : Sb}
    (K : ∀ sd wt wg gv gt, RepV a_status a_code sd wt wg a_came gv gt id G → VF id a_status a_code a_demand a_waits a_waiting a_came a_given a_got a_status a_code sd wt wg a_came gv gt → wY_request_177 post (nI id) f_stages f_heard f_now f_calls f_parts f_start f_at f_nextX f_nextY f_x f_y a_kind a_opA a_opB a_heardBy a_what a_said a_when a_over a_part a_first a_second a_user a_goStage a_goStep a_done a_val a_mom a_cnt a_end a_endMom a_begun a_status a_stageOf a_began a_taken (sd) a_asked a_code (wt) (wg) a_came (gv) (gt)) :
    ∀ (ws : List Int32) (st co : Int32) (en : Nat) (dm : Int64) (dv : Int32) (hh : Nat → Int64) (sd : Nat → Int64) (wt wg gv : Nat → Int32) (gt : Nat → Int64), RepV a_status a_code sd wt wg a_came gv gt id (st, co, en, dm, dv, ws, hh) → VF id a_status a_code a_demand a_waits a_waiting a_came a_given a_got a_status a_code sd wt wg a_came gv gt → G = dlw t ws (st, co, en, dm, dv, ws, hh) → wY_request_82 post (nI id) (ws.length + 1) f_stages f_heard f_now f_calls f_parts f_start f_at f_nextX f_nextY f_x f_y a_kind a_opA a_opB a_heardBy a_what a_said a_when a_over a_part a_first a_second a_user a_goStage a_goStep a_done a_val a_mom a_cnt a_end a_endMom a_begun a_status a_stageOf a_began a_taken (sd) a_asked a_code (wt) (wg) a_came (gv) (gt) := by
  have hcl : (nI id).toNatClampNeg = id := nI_clamp (by omega)
  have hin : vp_in (nI id) 3 := vp_in_nI hid (by decide)
  have e8 : 8 * nI id = nI (8 * id) := by rw [show (8 : Int32) = nI 8 from rfl, pk_mul]
  have hc8 : (nI (8 * id)).toNatClampNeg = 8 * id := nI_clamp (by omega)
  intro ws
  induction ws with
  | nil =>
    intro st co en dm dv hh sd wt wg gv gt hR hF hG
    have hk := K sd wt wg gv gt (by rw [hG]; exact hR) hF
    obtain ⟨a1, a2, a3, a4, a5, a6, a7, a8, a9⟩ := hR
    refine ⟨hin, br_c (fun _ => hk) (fun _ => ⟨hin, br_t (by rw [hcl, a5]; decide) hk⟩)⟩
  | cons v r ih =>
    intro st co en dm dv hh sd wt wg gv gt hR hF hG
    have hR0 := hR
    obtain ⟨a1, a2, a3, a4, a5, a6, a7, a8, a9⟩ := hR
    have a6' : r.length + 1 ≤ 8 := a6
    by_cases hdm : dm ≤ 0
    · have hG' : G = (st, co, en, dm, dv, v :: r, hh) := by rw [hG]; exact if_pos hdm
      exact ⟨hin, br_t (by rw [hcl, a3]; exact hdm) (K sd wt wg gv gt (by rw [hG']; exact hR0) hF)⟩
    · have hG' : G = dlw t r (st, co, en, dec1 dm, dv + 1, v :: r, vp_updL hh (dj dv) (hv t v)) := by rw [hG]; exact if_neg hdm
      rw [dw_ws r st co en (dec1 dm) (dv + 1) (v :: r) r] at hG'
      have hw0 := a7 0 v rfl
      refine ⟨hin, br_f (by rw [hcl, a3]; exact hdm) ⟨hin, br_f (by rw [hcl, a5]; exact nI_ge (a := 0) (by simp) (by simp; omega)) ?_⟩⟩
      rw [e8, hc8, show wg (8 * id) = v from hw0, hn]
      refine ⟨vp_in_nI (by omega) (by decide), yu_deliver (a_demand := sd) (a_waits := wt) (a_waiting := wg) (a_given := gv) (a_got := gt) hid ht hR0 (fun sd2 gv2 gt2 k1 k2 => ?_)⟩
      obtain ⟨b1, b2, b3, b4, b5, b6, b7, b8, b9⟩ := k1
      have ew : upd wt (nI id).toNatClampNeg (wt (nI id).toNatClampNeg - 1) = upd wt id (nI r.length) := by
        rw [hcl, a5]
        show upd wt id (nI (r.length + 1) - 1) = _
        rw [nI_pred]
      refine ⟨hin, hin, nm_r ew (nm_r rfl ⟨r.length + 1, ?_⟩)⟩
      refine yd_shift (f_now := nI t) (a_demand := sd2) (a_waits := upd wt id (nI r.length)) (a_waiting := wg) (a_given := gv2) (a_got := gt2) (ws := v :: r) (m := r.length) hid rfl a6 pk_us (fun wg2 s1 s2 => ?_) r.length 0 wg (by omega) (fun i x hi => by omega) (fun i x _ hx => a7 i x hx) (fun _ _ _ _ => rfl)
      rw [← hn]
      refine ih st co en (dec1 dm) (dv + 1) (vp_updL hh (dj dv) (hv t v)) sd2 (upd wt id (nI r.length)) wg2 gv2 gt2 ⟨b1, b2, b3, b4, pk_us, by omega, fun i x hx => s1 i x hx, b8, b9⟩ (vf_trans hF (vf_trans k2 (fun j hj => ⟨fun s hs => rv_frame hs rfl rfl rfl (pk_un hj) rfl rfl (fun i hi => s2 j hj i hi) (fun _ _ => rfl), rfl⟩))) hG'
end
theorem yd_req {post : Int32 → SY → Prop} {v : SY} {id t r en : Nat} {n : Int64} {co : Int32} {dm : Int64} {dv : Int32} {ws : List Int32} {hh : Nat → Int64} (hid : id < 3) (ht : t < 1000) (hn : y_now v = nI t) (hr : r < 32) (ha : y_asked v id = nI r) (hR : RepW v id (0, co, en, dm, dv, ws, hh)) (hen0 : en = 0 ∨ (en = 2 ∧ co = 0) ∨ (en = 3 ∧ ∃ j : Nat, 1 ≤ j ∧ j ≤ 9 ∧ co = nI j))
    (KK : ∀ v2, YO id v v2 → RepW v2 id (srq t n (0, co, en, dm, dv, ws, hh)) → y_asked v2 = upd (y_asked v) id (nI (r + 1)) → post 1 v2) : wpY_request post v (nI id) n := by
  have hcl : (nI id).toNatClampNeg = id := nI_clamp (by omega)
  have hin : vp_in (nI id) 3 := vp_in_nI hid (by decide)
  obtain ⟨f_stages, f_heard, f_now, f_calls, f_parts, f_start, f_at, f_nextX, f_nextY, f_x, f_y, a_kind, a_opA, a_opB, a_heardBy, a_what, a_said, a_when, a_over, a_part, a_first, a_second, a_user, a_goStage, a_goStep, a_done, a_val, a_mom, a_cnt, a_end, a_endMom, a_begun, a_status, a_stageOf, a_began, a_taken, a_demand, a_asked, a_code, a_waits, a_waiting, a_came, a_given, a_got⟩ := v
  have hn' : f_now = nI t := hn
  have ha' : a_asked id = nI r := ha
  have hR' := ye_rw hR
  have hR0 := hR'
  obtain ⟨a1, a2, a3, a4, a5, a6, a7, a8, a9⟩ := hR'
  unfold wpY_request
  refine yq_act hid hR (fun _ => br_f (by decide) ⟨hin, br_f ?_ ⟨hin, hin, nm_r (e' := upd a_asked id (nI (r + 1))) (by rw [hcl, ha', nI_1]) ?_⟩⟩) (fun y => absurd rfl y)
  · rw [hcl, ha', show (32 : Int32) = nI 32 from rfl, nI_eq (by omega) (by decide)]; omega
  · by_cases h1 : 1 ≤ n
    · have hs : srq t n (0, co, en, dm, dv, ws, hh) = sef (dlw t ws (0, co, en, ndm n dm, dv, ws, hh)) := if_pos h1
      have main : ∀ sd : Nat → Int64, sd id = ndm n dm → (∀ j, j ≠ id → sd j = a_demand j) → wY_request_82 post (nI id) (ws.length + 1) f_stages f_heard f_now f_calls f_parts f_start f_at f_nextX f_nextY f_x f_y a_kind a_opA a_opB a_heardBy a_what a_said a_when a_over a_part a_first a_second a_user a_goStage a_goStep a_done a_val a_mom a_cnt a_end a_endMom a_begun a_status a_stageOf a_began a_taken (sd) (upd a_asked id (nI (r + 1))) a_code a_waits a_waiting a_came a_given a_got := by
        intro sd q1 q2
        refine yd_loop (a_demand := sd) (a_asked := upd a_asked id (nI (r + 1))) hid ht hn' (G := dlw t ws (0, co, en, ndm n dm, dv, ws, hh)) (fun sd2 wt2 wg2 gv2 gt2 k1 k2 => ?_) ws 0 co en (ndm n dm) dv hh sd a_waits a_waiting a_given a_got ⟨a1, a2, q1, a4, a5, a6, a7, a8, a9⟩ vf_refl rfl
        obtain ⟨w1, w2, w3⟩ := dw_keep (t := t) ws (0, co, en, ndm n dm, dv, ws, hh)
        generalize dlw t ws (0, co, en, ndm n dm, dv, ws, hh) = G at k1 w1 w2 w3 hs
        obtain ⟨st', co', en', dm', dv', ws', hh'⟩ := G
        have w1' : st' = 0 := w1
        have w2' : co' = co := w2
        have w3' : en' = en := w3
        subst w1' w2' w3'
        refine yu_finish (a_demand := sd2) (a_waits := wt2) (a_waiting := wg2) (a_given := gv2) (a_got := gt2) (a_asked := upd a_asked id (nI (r + 1))) hid (fun _ => hen0) k1 (fun ss sc wt3 m1 m2 => ?_)
        rw [if_pos rfl, ← hs] at m1
        exact KK (f_stages, f_heard, f_now, f_calls, f_parts, f_start, f_at, f_nextX, f_nextY, f_x, f_y, a_kind, a_opA, a_opB, a_heardBy, a_what, a_said, a_when, a_over, a_part, a_first, a_second, a_user, a_goStage, a_goStep, a_done, a_val, a_mom, a_cnt, a_end, a_endMom, a_begun, ss, a_stageOf, a_began, a_taken, sd2, upd a_asked id (nI (r + 1)), sc, wt3, wg2, a_came, gv2, gt2) (yo_of (vf_trans (fun j hj => ⟨fun s hs => rv_frame hs rfl rfl (q2 j hj) rfl rfl rfl (fun _ _ => rfl) (fun _ _ => rfl), rfl⟩) (vf_trans k2 m2))) (ye_rw' m1) ye_asked
      refine br_t h1 ⟨hin, ?_⟩
      by_cases h2 : n ≤ 9223372036854775807 - dm
      · refine br_t (by rw [hcl, a3]; exact h2) ⟨hin, hin, nm_r (e' := vp_updL a_demand id (ndm n dm)) (by rw [hcl, a3]; unfold ndm; rw [if_pos h2]) ⟨ws.length + 1, main _ pk_uLs (fun j hj => pk_uLn hj)⟩⟩
      · refine br_f (by rw [hcl, a3]; exact h2) ⟨hin, nm_r (e' := vp_updL a_demand id (ndm n dm)) (by rw [hcl]; unfold ndm; rw [if_neg h2]) ⟨ws.length + 1, main _ pk_uLs (fun j hj => pk_uLn hj)⟩⟩
    · have hs : srq t n (0, co, en, dm, dv, ws, hh) = (2, 6, en, dm, dv, [], hh) := if_neg h1
      refine br_f h1 (yu_close (a_asked := upd a_asked id (nI (r + 1))) (s1 := 2) (c1 := 6) hid (by decide) hR0 (fun ss sc wt g1 g2 => ?_))
      refine KK (f_stages, f_heard, f_now, f_calls, f_parts, f_start, f_at, f_nextX, f_nextY, f_x, f_y, a_kind, a_opA, a_opB, a_heardBy, a_what, a_said, a_when, a_over, a_part, a_first, a_second, a_user, a_goStage, a_goStep, a_done, a_val, a_mom, a_cnt, a_end, a_endMom, a_begun, ss, a_stageOf, a_began, a_taken, a_demand, upd a_asked id (nI (r + 1)), sc, wt, a_waiting, a_came, a_given, a_got) (yo_of g2) ?_ ye_asked
      rw [hs]
      exact ye_rw' (g1 6 en (fun _ => rfl))
def setR (f : Nat → Int32) : St2 → St2
  | (a, b, c, d, e, g, h, i, j, k, l, m, _) => (a, b, c, d, e, g, h, i, j, k, l, m, f)
theorem xd_req {post : Int32 → SX → Prop} {u : SX} {id t r en : Nat} {n : Int64} {co : Int32} {dm : Int64} {dv : Int32} {ws : List Int32} {hh : Nat → Int64} (hid : id < 3) (ht : x_time u = nI t) (hr : r < 32) (ha : x_subRequests u id = nI r) (hR : RepU u id (0, co, en, dm, dv, ws, hh))
    (KK : ∀ u', x_st2 u' = setR (upd (x_subRequests u) id (nI (r + 1))) (x_st2 u) → x_ph u' = x_ph u → x_pa u' = x_pa u → x_tk u' = x_tk u → RepU u' id (srq t n (0, co, en, dm, dv, ws, hh)) → (∀ j, j ≠ id → ∀ s, RepU u j s → RepU u' j s) → post 1 u') : wpX_request post u (nI id) n := by
  have hcl : (nI id).toNatClampNeg = id := nI_clamp (by omega)
  have hin : vp_in (nI id) 3 := vp_in_nI hid (by decide)
  obtain ⟨f_time, f_sent, f_stageCount, f_tasks, a_sourceEnded, a_stageKind, a_stageA, a_stageB, a_stageParts, a_partStage, a_partUser, a_partX, a_partY, a_phase, a_beganAfter, a_due, a_count, a_held, a_heldY, a_hasHeld, a_hasHeldY, a_queueSize, a_queueIsOfX, a_queueValue, a_queueDue, a_subStatus, a_subCode, a_subEnd, a_subDemand, a_subRequests, a_subDelivered, a_subWaiting, a_waitValue, a_history, a_taskWhat, a_taskPart, a_taskValue⟩ := u
  have ht' : f_time = nI t := ht
  have ha' : a_subRequests id = nI r := ha
  have hR0 := xe_ru hR
  obtain ⟨r1, r2, r3, r4, r5, r6, r7, r8, r9, r10⟩ := xe_ru hR
  unfold wpX_request
  refine xq_act hid hR (fun _ => br_f (by decide) ⟨hin, br_t ?_ ⟨hin, hin, nm_r (e' := upd a_subRequests id (nI (r + 1))) (by rw [hcl, ha', nI_1]) ?_⟩⟩) (fun y => absurd rfl y)
  · rw [hcl, ha']; exact nI_lt (b := 32) hr (by decide)
  · have hst : ∀ u' : SX, x_st2 u' = x_st2 (f_time, f_sent, f_stageCount, f_tasks, a_sourceEnded, a_stageKind, a_stageA, a_stageB, a_stageParts, a_partStage, a_partUser, a_partX, a_partY, a_phase, a_beganAfter, a_due, a_count, a_held, a_heldY, a_hasHeld, a_hasHeldY, a_queueSize, a_queueIsOfX, a_queueValue, a_queueDue, a_subStatus, a_subCode, a_subEnd, a_subDemand, upd a_subRequests id (nI (r + 1)), a_subDelivered, a_subWaiting, a_waitValue, a_history, a_taskWhat, a_taskPart, a_taskValue) → x_st2 u' = setR (upd (x_subRequests (f_time, f_sent, f_stageCount, f_tasks, a_sourceEnded, a_stageKind, a_stageA, a_stageB, a_stageParts, a_partStage, a_partUser, a_partX, a_partY, a_phase, a_beganAfter, a_due, a_count, a_held, a_heldY, a_hasHeld, a_hasHeldY, a_queueSize, a_queueIsOfX, a_queueValue, a_queueDue, a_subStatus, a_subCode, a_subEnd, a_subDemand, a_subRequests, a_subDelivered, a_subWaiting, a_waitValue, a_history, a_taskWhat, a_taskPart, a_taskValue)) id (nI (r + 1))) (x_st2 (f_time, f_sent, f_stageCount, f_tasks, a_sourceEnded, a_stageKind, a_stageA, a_stageB, a_stageParts, a_partStage, a_partUser, a_partX, a_partY, a_phase, a_beganAfter, a_due, a_count, a_held, a_heldY, a_hasHeld, a_hasHeldY, a_queueSize, a_queueIsOfX, a_queueValue, a_queueDue, a_subStatus, a_subCode, a_subEnd, a_subDemand, a_subRequests, a_subDelivered, a_subWaiting, a_waitValue, a_history, a_taskWhat, a_taskPart, a_taskValue)) := fun u' h => by rw [h, xe_st2, xe_st2]; rfl
    by_cases h1 : 1 ≤ n
    · have hs : srq t n (0, co, en, dm, dv, ws, hh) = sef (dlw t ws (0, co, en, ndm n dm, dv, ws, hh)) := if_pos h1
      have main : ∀ z : Int64, z = ndm n dm → wX_request_81 post (nI id) z (nI id) f_time f_sent f_stageCount f_tasks a_sourceEnded a_stageKind a_stageA a_stageB a_stageParts a_partStage a_partUser a_partX a_partY a_phase a_beganAfter a_due a_count a_held a_heldY a_hasHeld a_hasHeldY a_queueSize a_queueIsOfX a_queueValue a_queueDue a_subStatus a_subCode a_subEnd a_subDemand (upd a_subRequests id (nI (r + 1))) a_subDelivered a_subWaiting a_waitValue a_history a_taskWhat a_taskPart a_taskValue := by
        intro z hz
        refine ⟨hin, nm_r (e' := vp_updL a_subDemand id (ndm n dm)) (by rw [hcl, hz]) (nm_r (e' := nI (8 * id)) (by rw [show (8 : Int32) = nI 8 from rfl, pk_mul, Nat.mul_comm]) ⟨ws.length + 1, ?_⟩)⟩
        have hl := xd_loop (t := t) (ws := ws) (post := fun u => match u with | (f_time, f_sent, f_stageCount, f_tasks, a_sourceEnded, a_stageKind, a_stageA, a_stageB, a_stageParts, a_partStage, a_partUser, a_partX, a_partY, a_phase, a_beganAfter, a_due, a_count, a_held, a_heldY, a_hasHeld, a_hasHeldY, a_queueSize, a_queueIsOfX, a_queueValue, a_queueDue, a_subStatus, a_subCode, a_subEnd, a_subDemand, a_subRequests, a_subDelivered, a_subWaiting, a_waitValue, a_history, a_taskWhat, a_taskPart, a_taskValue) => wpX_endIfNothingWaits (fun u => match u with | (f_time, f_sent, f_stageCount, f_tasks, a_sourceEnded, a_stageKind, a_stageA, a_stageB, a_stageParts, a_partStage, a_partUser, a_partX, a_partY, a_phase, a_beganAfter, a_due, a_count, a_held, a_heldY, a_hasHeld, a_hasHeldY, a_queueSize, a_queueIsOfX, a_queueValue, a_queueDue, a_subStatus, a_subCode, a_subEnd, a_subDemand, a_subRequests, a_subDelivered, a_subWaiting, a_waitValue, a_history, a_taskWhat, a_taskPart, a_taskValue) => post 1 (f_time, f_sent, f_stageCount, f_tasks, a_sourceEnded, a_stageKind, a_stageA, a_stageB, a_stageParts, a_partStage, a_partUser, a_partX, a_partY, a_phase, a_beganAfter, a_due, a_count, a_held, a_heldY, a_hasHeld, a_hasHeldY, a_queueSize, a_queueIsOfX, a_queueValue, a_queueDue, a_subStatus, a_subCode, a_subEnd, a_subDemand, a_subRequests, a_subDelivered, a_subWaiting, a_waitValue, a_history, a_taskWhat, a_taskPart, a_taskValue)) (f_time, f_sent, f_stageCount, f_tasks, a_sourceEnded, a_stageKind, a_stageA, a_stageB, a_stageParts, a_partStage, a_partUser, a_partX, a_partY, a_phase, a_beganAfter, a_due, a_count, a_held, a_heldY, a_hasHeld, a_hasHeldY, a_queueSize, a_queueIsOfX, a_queueValue, a_queueDue, a_subStatus, a_subCode, a_subEnd, a_subDemand, a_subRequests, a_subDelivered, a_subWaiting, a_waitValue, a_history, a_taskWhat, a_taskPart, a_taskValue) (nI id)) hid r8 (G := dlw t ws (0, co, en, ndm n dm, dv, ws, hh)) (f_time, f_sent, f_stageCount, f_tasks, a_sourceEnded, a_stageKind, a_stageA, a_stageB, a_stageParts, a_partStage, a_partUser, a_partX, a_partY, a_phase, a_beganAfter, a_due, a_count, a_held, a_heldY, a_hasHeld, a_hasHeldY, a_queueSize, a_queueIsOfX, a_queueValue, a_queueDue, a_subStatus, a_subCode, a_subEnd, vp_updL a_subDemand id (ndm n dm), upd a_subRequests id (nI (r + 1)), a_subDelivered, a_subWaiting, a_waitValue, a_history, a_taskWhat, a_taskPart, a_taskValue) (fun u' g1 g2 g3 g4 g5 g6 => ?_) ws.length 0 (f_time, f_sent, f_stageCount, f_tasks, a_sourceEnded, a_stageKind, a_stageA, a_stageB, a_stageParts, a_partStage, a_partUser, a_partX, a_partY, a_phase, a_beganAfter, a_due, a_count, a_held, a_heldY, a_hasHeld, a_hasHeldY, a_queueSize, a_queueIsOfX, a_queueValue, a_queueDue, a_subStatus, a_subCode, a_subEnd, vp_updL a_subDemand id (ndm n dm), upd a_subRequests id (nI (r + 1)), a_subDelivered, a_subWaiting, a_waitValue, a_history, a_taskWhat, a_taskPart, a_taskValue) 0 co en (ndm n dm) dv hh (Nat.zero_add _) ht' rfl rfl rfl rfl (xe_ru' ⟨r1, r2, r3, r4, pk_uLs, r6, r7, r8, r9, r10⟩) (fun _ _ _ h => h) rfl
        · exact hl
        · have hfin : ∀ u2, EffS u' u2 id (sef (dlw t ws (0, co, en, ndm n dm, dv, ws, hh))) → post 1 u2 := by
            intro u2 he
            obtain ⟨e1, e2, e3, e4, e5, e6⟩ := he
            refine KK u2 (hst u2 ?_) (e2.trans (g2.trans (xe_ph.trans xe_ph.symm))) (e3.trans (g3.trans (xe_pa.trans xe_pa.symm))) (e4.trans (g4.trans (xe_tk.trans xe_tk.symm))) (by rw [hs]; exact e5) (fun j hj s hs' => e6 j hj s (g6 j hj s (xe_ru' (xs_frame (xe_ru hs') rfl rfl rfl (pk_uLn hj) rfl rfl (fun _ _ => rfl) (fun _ _ => rfl)))))
            exact e1.trans (g1.trans (xe_st2.trans xe_st2.symm))
          obtain ⟨f_time, f_sent, f_stageCount, f_tasks, a_sourceEnded, a_stageKind, a_stageA, a_stageB, a_stageParts, a_partStage, a_partUser, a_partX, a_partY, a_phase, a_beganAfter, a_due, a_count, a_held, a_heldY, a_hasHeld, a_hasHeldY, a_queueSize, a_queueIsOfX, a_queueValue, a_queueDue, a_subStatus, a_subCode, a_subEnd, a_subDemand, a_subRequests, a_subDelivered, a_subWaiting, a_waitValue, a_history, a_taskWhat, a_taskPart, a_taskValue⟩ := u'
          refine xs_endIf hid (xe_ru g5) (fun u2 he => ?_)
          have h2 := hfin u2 he
          obtain ⟨f_time, f_sent, f_stageCount, f_tasks, a_sourceEnded, a_stageKind, a_stageA, a_stageB, a_stageParts, a_partStage, a_partUser, a_partX, a_partY, a_phase, a_beganAfter, a_due, a_count, a_held, a_heldY, a_hasHeld, a_hasHeldY, a_queueSize, a_queueIsOfX, a_queueValue, a_queueDue, a_subStatus, a_subCode, a_subEnd, a_subDemand, a_subRequests, a_subDelivered, a_subWaiting, a_waitValue, a_history, a_taskWhat, a_taskPart, a_taskValue⟩ := u2
          exact h2
      refine br_t h1 ⟨hin, ?_⟩
      by_cases h2 : n ≤ 9223372036854775807 - dm
      · exact br_t (by rw [hcl, r5]; exact h2) ⟨hin, main _ (by rw [hcl, r5]; unfold ndm; rw [if_pos h2])⟩
      · exact br_f (by rw [hcl, r5]; exact h2) (main _ (by unfold ndm; rw [if_neg h2]))
    · have hs : srq t n (0, co, en, dm, dv, ws, hh) = (2, 6, en, dm, dv, [], hh) := if_neg h1
      refine br_f h1 (xs_endSub (a_subRequests := upd a_subRequests id (nI (r + 1))) (s1 := 2) (c1 := 6) hid hR0 (fun u' he => ?_))
      obtain ⟨e1, e2, e3, e4, e5, e6⟩ := he
      have h2 := KK u' (hst u' e1) (e2.trans (xe_ph.trans xe_ph.symm)) (e3.trans (xe_pa.trans xe_pa.symm)) (e4.trans (xe_tk.trans xe_tk.symm)) (by rw [hs]; exact e5) (fun j hj s hs' => e6 j hj s (xe_ru' (xe_ru hs')))
      obtain ⟨f_time, f_sent, f_stageCount, f_tasks, a_sourceEnded, a_stageKind, a_stageA, a_stageB, a_stageParts, a_partStage, a_partUser, a_partX, a_partY, a_phase, a_beganAfter, a_due, a_count, a_held, a_heldY, a_hasHeld, a_hasHeldY, a_queueSize, a_queueIsOfX, a_queueValue, a_queueDue, a_subStatus, a_subCode, a_subEnd, a_subDemand, a_subRequests, a_subDelivered, a_subWaiting, a_waitValue, a_history, a_taskWhat, a_taskPart, a_taskValue⟩ := u'
      exact h2
