section
variable {f_stages : Int32} {f_heard : Int32} {f_now : Int32} {f_calls : Int64} {f_parts : Int32} {f_start : Int64} {f_at : Int32} {f_nextX : Int32} {f_nextY : Int32} {f_x : Int32} {f_y : Int32} {a_kind : (Nat → Int32)} {a_opA : (Nat → Int32)} {a_opB : (Nat → Int32)} {a_heardBy : (Nat → Int32)} {a_what : (Nat → Int32)} {a_said : (Nat → Int32)} {a_when : (Nat → Int64)} {a_over : (Nat → Int32)} {a_part : (Nat → Int32)} {a_first : (Nat → Int32)} {a_second : (Nat → Int32)} {a_user : (Nat → Int32)} {a_goStage : (Nat → Int32)} {a_goStep : (Nat → Int32)} {a_done : (Nat → Int32)} {a_val : (Nat → Int32)} {a_mom : (Nat → Int64)} {a_cnt : (Nat → Int32)} {a_end : (Nat → Int32)} {a_endMom : (Nat → Int64)} {a_begun : (Nat → Int32)} {a_status : (Nat → Int32)} {a_stageOf : (Nat → Int32)} {a_began : (Nat → Int64)} {a_taken : (Nat → Int32)} {a_demand : (Nat → Int64)} {a_asked : (Nat → Int32)} {a_code : (Nat → Int32)} {a_waits : (Nat → Int32)} {a_waiting : (Nat → Int32)} {a_came : (Nat → Int32)} {a_given : (Nat → Int32)} {a_got : (Nat → Int64)}
theorem yr_moment {post : Int64 → Prop} {t c : Nat} (hn : f_now = nI t) (ht : t ≤ 200) (hcl : f_calls = lN c) (hc : c < 3000000000) (H : post (lN (mo t 1 c))) : wpY_moment post (f_stages, f_heard, f_now, f_calls, f_parts, f_start, f_at, f_nextX, f_nextY, f_x, f_y, a_kind, a_opA, a_opB, a_heardBy, a_what, a_said, a_when, a_over, a_part, a_first, a_second, a_user, a_goStage, a_goStep, a_done, a_val, a_mom, a_cnt, a_end, a_endMom, a_begun, a_status, a_stageOf, a_began, a_taken, a_demand, a_asked, a_code, a_waits, a_waiting, a_came, a_given, a_got) f_now.toInt64 1 f_calls 0 := by
  show post ((((f_now.toInt64 <<< ((41 : Int32).toInt64 &&& 63)) ||| (1 <<< ((40 : Int32).toInt64 &&& 63))) ||| (f_calls <<< ((8 : Int32).toInt64 &&& 63))) ||| 0)
  rw [hn, nI_l (by omega), hcl]
  have := ts_mo (t := t) (ph := 1) (nu := c) (by omega) (by decide) (by omega)
  rw [show lN 1 = (1 : Int64) from by decide] at this
  rw [this]
  exact H
end
theorem yr_advance {post : Int32 → SY → Prop} {v : SY} {t d : Nat} (hn : y_now v = nI t) (h : t + d ≤ 200) (KK : ∀ v2, y_sub v2 = y_sub v → y_tab v2 = y_tab v → y_log v2 = y_log v → y_heard v2 = y_heard v → y_calls v2 = y_calls v → y_over v2 = y_over v → y_now v2 = nI (t + d) → ∀ pst : SY → Prop, (∀ v', post (y_now v') v' → pst v') → wpY_go pst v2) : wpY_advance post v (nI d) := by
  obtain ⟨f_stages, f_heard, f_now, f_calls, f_parts, f_start, f_at, f_nextX, f_nextY, f_x, f_y, a_kind, a_opA, a_opB, a_heardBy, a_what, a_said, a_when, a_over, a_part, a_first, a_second, a_user, a_goStage, a_goStep, a_done, a_val, a_mom, a_cnt, a_end, a_endMom, a_begun, a_status, a_stageOf, a_began, a_taken, a_demand, a_asked, a_code, a_waits, a_waiting, a_came, a_given, a_got⟩ := v
  have hn' : f_now = nI t := hn
  refine br_f (nI_pos (by omega)) (br_t ?_ (nm_r (e' := nI (t + d)) (by rw [hn', nI_add]) ?_))
  · rw [hn', show (200 : Int32) = nI 200 from rfl, pk_sub (by omega)]
    exact nI_le (by omega) (by omega)
  · refine KK (f_stages, f_heard, nI (t + d), f_calls, f_parts, f_start, f_at, f_nextX, f_nextY, f_x, f_y, a_kind, a_opA, a_opB, a_heardBy, a_what, a_said, a_when, a_over, a_part, a_first, a_second, a_user, a_goStage, a_goStep, a_done, a_val, a_mom, a_cnt, a_end, a_endMom, a_begun, a_status, a_stageOf, a_began, a_taken, a_demand, a_asked, a_code, a_waits, a_waiting, a_came, a_given, a_got) (ye_sub.trans ye_sub.symm) (ye_tab.trans ye_tab.symm) (ye_log.trans ye_log.symm) (ye_heard.trans ye_heard.symm) (ye_calls.trans ye_calls.symm) (ye_over.trans ye_over.symm) ye_now _ (fun v' h' => ?_)
    obtain ⟨f_stages, f_heard, f_now, f_calls, f_parts, f_start, f_at, f_nextX, f_nextY, f_x, f_y, a_kind, a_opA, a_opB, a_heardBy, a_what, a_said, a_when, a_over, a_part, a_first, a_second, a_user, a_goStage, a_goStep, a_done, a_val, a_mom, a_cnt, a_end, a_endMom, a_begun, a_status, a_stageOf, a_began, a_taken, a_demand, a_asked, a_code, a_waits, a_waiting, a_came, a_given, a_got⟩ := v'
    exact h'
theorem ra_advance {k : Nat} {u : SX} {v : SY} (hk : k < 2000000000) (I : i_Rel k u v) (v1 : Int32) : wpX_advance (fun r u' => wpY_advance (fun r' v' => r' = r ∧ i_Rel (k + 4) u' v') v v1) u v1 := by
  have I0 := i_up I
  obtain ⟨ns, K, A, B, oa, ob, cc, t, LG, S, hck, hX, hY, hC, hSE, hJ⟩ := I
  have hcc : cc < 3000000000 := by omega
  have ht := hC.1
  by_cases hneg : v1 < 0
  · have hy : wpY_advance (fun r' v' => r' = -3 ∧ i_Rel (k + 4) u v') v v1 := by
      obtain ⟨f_stages, f_heard, f_now, f_calls, f_parts, f_start, f_at, f_nextX, f_nextY, f_x, f_y, a_kind, a_opA, a_opB, a_heardBy, a_what, a_said, a_when, a_over, a_part, a_first, a_second, a_user, a_goStage, a_goStep, a_done, a_val, a_mom, a_cnt, a_end, a_endMom, a_begun, a_status, a_stageOf, a_began, a_taken, a_demand, a_asked, a_code, a_waits, a_waiting, a_came, a_given, a_got⟩ := v
      exact br_t hneg ⟨rfl, I0⟩
    obtain ⟨f_time, f_sent, f_stageCount, f_tasks, a_sourceEnded, a_stageKind, a_stageA, a_stageB, a_stageParts, a_partStage, a_partUser, a_partX, a_partY, a_phase, a_beganAfter, a_due, a_count, a_held, a_heldY, a_hasHeld, a_hasHeldY, a_queueSize, a_queueIsOfX, a_queueValue, a_queueDue, a_subStatus, a_subCode, a_subEnd, a_subDemand, a_subRequests, a_subDelivered, a_subWaiting, a_waitValue, a_history, a_taskWhat, a_taskPart, a_taskValue⟩ := u
    exact br_t hneg hy
  · obtain ⟨d, hd, rfl⟩ := nI_of hneg
    by_cases hb : t + d ≤ 200
    · obtain ⟨Dd, hDd⟩ := rl_cd hJ
      refine av_advance (D := r_D Dd S) (cc := cc) (t0 := t) (d := d) (LG := LG) (by omega) (rl_ok hDd) hb hX.2.1 (fun g hg => (cq_all hcc hC.2.2.2 _ (List.mem_map.mpr ⟨g, hg, rfl⟩)).2.2) hX.2.2.2 (fun j hj => sr_pb (rl_pb hJ hDd j hj)) (fun u' h1 h2 h3 => ?_)
      obtain ⟨x1, x2, x3, x4⟩ := xr_setT h1
      refine yr_advance hY.2.2.1 hb (fun v2 e1 e2 e3 e4 e5 e6 e7 pst hp => ?_)
      obtain ⟨t1, t2, t3, t4⟩ := yt_eq e2
      obtain ⟨l1, l2, l3, l4⟩ := yl_eq e3
      refine ra_go (k := k + 4) (K := K) (A := A) (B := B) (oa := oa) (ob := ob) (cc' := cc) (t' := t + d) (lx := []) (LG2 := LG) (by omega) hcc (by omega) (List.append_nil _).symm (fun g hg => absurd hg (by simp)) hJ hDd (fun j hj h0 => cq_mono (Nat.le_refl _) (by omega) (hDd j hj h0).2.1) h3 x4 ⟨by rw [h1]; exact xr_txT hX.1, x1, x2.trans hX.2.2.1, h2⟩ ⟨by rw [t2, t3, t4]; exact hY.1, t1.trans hY.2.1, e7, e4.trans hY.2.2.2.1, by rw [l1, l2, l3, l4]; exact hY.2.2.2.2.1, e5.trans hY.2.2.2.2.2⟩ ⟨hb, hC.2.1, hC.2.2.1, cq_mono (Nat.le_refl _) (by omega) hC.2.2.2⟩ (fun s hs => by rw [x3, e6]; exact hSE s hs) e1 e2 (fun v' hI hc => hp v' ⟨?_, hI⟩)
      exact (yx_ycst hc).2.2.1.trans e7
    · have hb2 : ¬ nI d ≤ 200 - nI t := by
        rw [show (200 : Int32) = nI 200 from rfl, pk_sub (by omega)]
        exact nI_ge (by omega) (by omega)
      have hy : wpY_advance (fun r' v' => r' = -3 ∧ i_Rel (k + 4) u v') v (nI d) := by
        have hn := hY.2.2.1
        obtain ⟨f_stages, f_heard, f_now, f_calls, f_parts, f_start, f_at, f_nextX, f_nextY, f_x, f_y, a_kind, a_opA, a_opB, a_heardBy, a_what, a_said, a_when, a_over, a_part, a_first, a_second, a_user, a_goStage, a_goStep, a_done, a_val, a_mom, a_cnt, a_end, a_endMom, a_begun, a_status, a_stageOf, a_began, a_taken, a_demand, a_asked, a_code, a_waits, a_waiting, a_came, a_given, a_got⟩ := v
        have hn' : f_now = nI t := hn
        exact br_f hneg (br_f (by rw [hn']; exact hb2) ⟨rfl, I0⟩)
      have hn := hX.2.1
      obtain ⟨f_time, f_sent, f_stageCount, f_tasks, a_sourceEnded, a_stageKind, a_stageA, a_stageB, a_stageParts, a_partStage, a_partUser, a_partX, a_partY, a_phase, a_beganAfter, a_due, a_count, a_held, a_heldY, a_hasHeld, a_hasHeldY, a_queueSize, a_queueIsOfX, a_queueValue, a_queueDue, a_subStatus, a_subCode, a_subEnd, a_subDemand, a_subRequests, a_subDelivered, a_subWaiting, a_waitValue, a_history, a_taskWhat, a_taskPart, a_taskValue⟩ := u
      have hn' : f_time = nI t := hn
      exact br_f hneg (br_f (by rw [hn']; exact hb2) hy)
theorem yl_snoc {hb wh sa : Nat → Int32} {wn : Nat → Int64} {LG : List Lg} {g : Lg} {x y z : Int32} {w : Int64} (h : YL hb wh sa wn LG) (h1 : x = nI g.1) (h2 : y = nI g.2.1) (h3 : z = g.2.2.1) (h4 : w = lN g.2.2.2) (h5 : g.1 < 3 ∧ g.2.1 ≤ 2 ∧ g.2.2.2 < 900000000000000 ∧ (g.2.1 = 1 → g.2.2.1 = 0) ∧ (g.2.1 = 2 → ∃ j : Nat, 1 ≤ j ∧ j ≤ 9 ∧ g.2.2.1 = nI j)) : YL (upd hb LG.length x) (upd wh LG.length y) (upd sa LG.length z) (vp_updL wn LG.length w) (LG ++ [g]) := by
  intro i e he
  rcases Nat.lt_trichotomy i LG.length with y1 | y1 | y1
  · rw [List.getElem?_append_left y1] at he
    have := h i e he
    rw [pk_un (by omega), pk_un (by omega), pk_un (by omega), pk_uLn (by omega)]
    exact this
  · subst y1
    rw [List.getElem?_append_right (Nat.le_refl _), Nat.sub_self] at he
    cases he
    rw [pk_us, pk_us, pk_us, pk_uLs]
    exact ⟨h1, h2, h3, h4, h5⟩
  · rw [List.getElem?_eq_none (by simp; omega)] at he
    exact absurd he (by simp)
theorem yr_send {post : Int32 → SY → Prop} {v : SY} {t cc s w : Nat} {x : Int32} {LG : List Lg} (hs : s < 3) (hw : w ≤ 2) (ht : t ≤ 200) (hcc : cc < 2900000000) (hn : y_now v = nI t) (hc : y_calls v = lN cc) (hh : y_heard v = nI LG.length) (hl : LG.length < 32) (hL : YL (y_heardBy v) (y_what v) (y_said v) (y_when v) LG) (ho : y_over v s = 0) (hx : (w = 1 → x = 0) ∧ (w = 2 → ∃ j : Nat, 1 ≤ j ∧ j ≤ 9 ∧ x = nI j))
    (KK : ∀ v2, y_sub v2 = y_sub v → y_tab v2 = y_tab v → y_now v2 = y_now v → y_calls v2 = lN (cc + 1) → y_heard v2 = nI (LG.length + 1) → YL (y_heardBy v2) (y_what v2) (y_said v2) (y_when v2) (LG ++ [(s, w, x, mo t 1 (cc + 1))]) → (∀ r, y_over v2 r = if r = s then bI (w != 0) else y_over v r) → ∀ pst : SY → Prop, (∀ v', post 1 v' → pst v') → wpY_go pst v2) : wpY_send post v (nI s) (nI w) x := by
  have hcl : (nI s).toNatClampNeg = s := nI_clamp (by omega)
  have hin : vp_in (nI s) 3 := vp_in_nI hs (by decide)
  obtain ⟨f_stages, f_heard, f_now, f_calls, f_parts, f_start, f_at, f_nextX, f_nextY, f_x, f_y, a_kind, a_opA, a_opB, a_heardBy, a_what, a_said, a_when, a_over, a_part, a_first, a_second, a_user, a_goStage, a_goStep, a_done, a_val, a_mom, a_cnt, a_end, a_endMom, a_begun, a_status, a_stageOf, a_began, a_taken, a_demand, a_asked, a_code, a_waits, a_waiting, a_came, a_given, a_got⟩ := v
  have hn' : f_now = nI t := hn
  have hc' : f_calls = lN cc := hc
  have hh' : f_heard = nI LG.length := hh
  have ho' : a_over s = 0 := ho
  have hL' : YL a_heardBy a_what a_said a_when LG := hL
  have hhc : (f_heard).toNatClampNeg = LG.length := by rw [hh']; exact nI_clamp (by omega)
  have hhin : vp_in f_heard 32 := by rw [hh']; exact vp_in_nI hl (by decide)
  have hmo := cq_big (t := t) (c := cc + 1) ht (by omega)
  have hYL := yl_snoc (g := (s, w, x, mo t 1 (cc + 1))) (x := nI s) (y := nI w) (z := x) (w := lN (mo t 1 (cc + 1))) hL' rfl rfl rfl rfl ⟨hs, hw, hmo, hx⟩
  refine br_f (nI_pos (by omega)) (br_f ?_ ⟨hin, br_t (by rw [hcl]; exact ho') (br_f ?_ (nm_r (e' := lN (cc + 1)) (by rw [hc', lN_1]) ⟨hhin, nm_r (e' := upd a_heardBy LG.length (nI s)) (by rw [hhc]) ⟨hhin, nm_r (e' := upd a_what LG.length (nI w)) (by rw [hhc]) ⟨hhin, nm_r (e' := upd a_said LG.length x) (by rw [hhc]) (nm_r (e' := nI (LG.length + 1)) (by rw [hh', nI_1]) ?_)⟩⟩⟩))⟩)
  · rw [show (2 : Int32) = nI 2 from rfl, nI_ltI (by decide) (by omega)]; omega
  · rw [hh', show (32 : Int32) = nI 32 from rfl, nI_eq (by omega) (by decide)]; omega
  · refine yr_moment (f_calls := lN (cc + 1)) hn' ht rfl (by omega) ⟨hhin, nm_r (e' := vp_updL a_when LG.length (lN (mo t 1 (cc + 1)))) (by rw [hhc]) ?_⟩
    by_cases hw0 : w = 0
    · refine br_t (by rw [hw0]; decide) ?_
      refine KK (f_stages, nI (LG.length + 1), f_now, lN (cc + 1), f_parts, f_start, f_at, f_nextX, f_nextY, f_x, f_y, a_kind, a_opA, a_opB, upd a_heardBy LG.length (nI s), upd a_what LG.length (nI w), upd a_said LG.length x, vp_updL a_when LG.length (lN (mo t 1 (cc + 1))), a_over, a_part, a_first, a_second, a_user, a_goStage, a_goStep, a_done, a_val, a_mom, a_cnt, a_end, a_endMom, a_begun, a_status, a_stageOf, a_began, a_taken, a_demand, a_asked, a_code, a_waits, a_waiting, a_came, a_given, a_got) (ye_sub.trans ye_sub.symm) (ye_tab.trans ye_tab.symm) (ye_now.trans ye_now.symm) ye_calls ye_heard hYL (fun r => ?_) _ (fun v' h' => ?_)
      · by_cases e : r = s
        · rw [if_pos e, e, hw0]; exact ho'
        · rw [if_neg e]; exact congrFun (ye_over.trans ye_over.symm) r
      · obtain ⟨f_stages, f_heard, f_now, f_calls, f_parts, f_start, f_at, f_nextX, f_nextY, f_x, f_y, a_kind, a_opA, a_opB, a_heardBy, a_what, a_said, a_when, a_over, a_part, a_first, a_second, a_user, a_goStage, a_goStep, a_done, a_val, a_mom, a_cnt, a_end, a_endMom, a_begun, a_status, a_stageOf, a_began, a_taken, a_demand, a_asked, a_code, a_waits, a_waiting, a_came, a_given, a_got⟩ := v'
        exact h'
    · refine br_f (by rw [show (0 : Int32) = nI 0 from rfl]; exact nI_ge (by omega) (by omega)) ⟨hin, nm_r (e' := upd a_over s (bI true)) (by rw [hcl, xd_nar1]) ?_⟩
      refine KK (f_stages, nI (LG.length + 1), f_now, lN (cc + 1), f_parts, f_start, f_at, f_nextX, f_nextY, f_x, f_y, a_kind, a_opA, a_opB, upd a_heardBy LG.length (nI s), upd a_what LG.length (nI w), upd a_said LG.length x, vp_updL a_when LG.length (lN (mo t 1 (cc + 1))), upd a_over s (bI true), a_part, a_first, a_second, a_user, a_goStage, a_goStep, a_done, a_val, a_mom, a_cnt, a_end, a_endMom, a_begun, a_status, a_stageOf, a_began, a_taken, a_demand, a_asked, a_code, a_waits, a_waiting, a_came, a_given, a_got) (ye_sub.trans ye_sub.symm) (ye_tab.trans ye_tab.symm) (ye_now.trans ye_now.symm) ye_calls ye_heard hYL (fun r => ?_) _ (fun v' h' => ?_)
      · show upd a_over s (bI true) r = if r = s then bI (w != 0) else a_over r
        have hb : (w != 0) = true := by simpa using hw0
        by_cases e : r = s
        · rw [if_pos e, e, pk_us, hb]
        · rw [if_neg e, pk_un e]
      · obtain ⟨f_stages, f_heard, f_now, f_calls, f_parts, f_start, f_at, f_nextX, f_nextY, f_x, f_y, a_kind, a_opA, a_opB, a_heardBy, a_what, a_said, a_when, a_over, a_part, a_first, a_second, a_user, a_goStage, a_goStep, a_done, a_val, a_mom, a_cnt, a_end, a_endMom, a_begun, a_status, a_stageOf, a_began, a_taken, a_demand, a_asked, a_code, a_waits, a_waiting, a_came, a_given, a_got⟩ := v'
        exact h'
theorem rs_wfo {w : Nat} {x : Int32} (hw : 1 ≤ w) (hw3 : w ≤ 3) (hx : (w = 2 → x = 0) ∧ (w = 3 → ∃ j : Nat, 1 ≤ j ∧ j ≤ 9 ∧ x = nI j)) : wfo [(w, x)] := by
  by_cases h1 : w = 1
  · rw [h1]; exact rn_wfo_1 x
  · refine ⟨[], some (w, x), rfl, fun e he => ?_⟩
    have he' : (w, x) = e := by simpa using he
    rw [← he']
    by_cases h2 : w = 2
    · exact Or.inl ⟨h2, hx.1 h2⟩
    · exact Or.inr ⟨by show w = 3; omega, hx.2 (by omega)⟩
theorem whs_snoc {LG : List Lg} {g : Lg} {w : Nat} (h : w ∈ whs (LG ++ [g])) : w ∈ whs LG ∨ w = g.2.2.2 := by
  unfold whs at h ⊢
  rw [List.map_append, List.mem_append] at h
  rcases h with y | y
  · exact Or.inl y
  · refine Or.inr ?_
    simpa using y
theorem rs_send {k : Nat} {u : SX} {v : SY} (hk : k < 2000000000) (I : i_Rel k u v) {w : Nat} {x : Int32} (hw : 1 ≤ w) (hw3 : w ≤ 3) (hx : (w = 2 → x = 0) ∧ (w = 3 → ∃ j : Nat, 1 ≤ j ∧ j ≤ 9 ∧ x = nI j)) (s : Int32) (postX : Int32 → SX → Prop) (KK : ∀ (r : Int32) (u' : SX), (r = 0 ∨ r = 1) → (∀ postY : Int32 → SY → Prop, (∀ v', i_Rel (k + 4) u' v' → postY r v') → wpY_send postY v s (nI (w - 1)) x) → postX r u') : wpX_send postX u (nI w) s x := by
  have I0 := i_up I
  obtain ⟨ns, K, A, B, oa, ob, cc, t, LG, S, hck, hX, hY, hC, hSE, hJ⟩ := I
  have hcc : cc < 2900000000 := by omega
  have ht := hC.1
  have h32 := hC.2.1
  by_cases hneg : s < 0
  · have hp := KK 0 u (Or.inl rfl) (fun postY hY' => by
      have h1 := hY' v I0
      obtain ⟨f_stages, f_heard, f_now, f_calls, f_parts, f_start, f_at, f_nextX, f_nextY, f_x, f_y, a_kind, a_opA, a_opB, a_heardBy, a_what, a_said, a_when, a_over, a_part, a_first, a_second, a_user, a_goStage, a_goStep, a_done, a_val, a_mom, a_cnt, a_end, a_endMom, a_begun, a_status, a_stageOf, a_began, a_taken, a_demand, a_asked, a_code, a_waits, a_waiting, a_came, a_given, a_got⟩ := v
      exact br_t hneg h1)
    obtain ⟨f_time, f_sent, f_stageCount, f_tasks, a_sourceEnded, a_stageKind, a_stageA, a_stageB, a_stageParts, a_partStage, a_partUser, a_partX, a_partY, a_phase, a_beganAfter, a_due, a_count, a_held, a_heldY, a_hasHeld, a_hasHeldY, a_queueSize, a_queueIsOfX, a_queueValue, a_queueDue, a_subStatus, a_subCode, a_subEnd, a_subDemand, a_subRequests, a_subDelivered, a_subWaiting, a_waitValue, a_history, a_taskWhat, a_taskPart, a_taskValue⟩ := u
    exact br_t hneg hp
  · obtain ⟨sn, hsn, rfl⟩ := nI_of hneg
    by_cases h3 : sn < 3
    · have hcl : (nI sn).toNatClampNeg = sn := nI_clamp (by omega)
      have hin : vp_in (nI sn) 3 := vp_in_nI h3 (by decide)
      have h2 : ¬ (2 : Int32) < nI sn := by
        rw [show (2 : Int32) = nI 2 from rfl, nI_ltI (by decide) (by omega)]; omega
      obtain ⟨b, hb1, hb2⟩ := hSE sn h3
      by_cases hb : b = false
      · by_cases hl : LG.length < 32
        · obtain ⟨Dd, hDd⟩ := rl_cd hJ
          have hcq := cq_all (by omega) hC.2.2.2
          refine sr_send (D := r_D Dd S) (cc := cc) (t := t) (s := sn) (w := w) (v := x) (Lo := LG) (rl_ok hDd) ht (by omega) h3 hw hw3 (rs_wfo hw hw3 hx) (fun g hg => ?_) hl hX.2.2.1 (by rw [hb1, hb]; rfl) hX.2.2.2 (fun j hj => rl_pb hJ hDd j hj) (fun u' g1 g2 g3 => ?_)
          · have := hcq g.2.2.2 (List.mem_map.mpr ⟨g, hg, rfl⟩)
            exact ⟨this.1, this.2.1⟩
          obtain ⟨x1, x2, x3, x4⟩ := xr_setS g1
          refine KK 1 u' (Or.inr rfl) (fun postY hpY => ?_)
          refine yr_send (w := w - 1) h3 (by omega) ht hcc hY.2.2.1 hY.2.2.2.2.2 hY.2.2.2.1 hl hY.2.2.2.2.1 (by rw [hb2, hb]; rfl) ⟨fun y => hx.1 (by omega), fun y => hx.2 (by omega)⟩ (fun v2 e1 e2 e3 e4 e5 e6 e7 pst hp => ?_)
          obtain ⟨t1, t2, t3, t4⟩ := yt_eq e2
          refine ra_go (k := k + 4) (K := K) (A := A) (B := B) (oa := oa) (ob := ob) (cc' := cc + 1) (t' := t) (lx := [(sn, w - 1, x, mo t 1 (cc + 1))]) (LG2 := LG ++ [(sn, w - 1, x, mo t 1 (cc + 1))]) (by omega) (by omega) (Nat.le_refl _) rfl (fun g hg => by rw [List.mem_singleton.mp hg]; exact Nat.le_refl _) hJ hDd (fun j hj h0 => cq_new (by omega) (hDd j hj h0).2.1 (fun z hz => ?_)) g3 x4 ⟨by rw [g1]; exact xr_txS hX.1, x1.trans hX.2.1, by rw [x2]; simp, g2⟩ ⟨by rw [t2, t3, t4]; exact hY.1, t1.trans hY.2.1, e3.trans hY.2.2.1, by rw [e5]; simp, e6, e4⟩ ⟨ht, by simp; omega, ?_, cq_new (by omega) hC.2.2.2 (fun z hz => whs_snoc hz)⟩ (fun s' hs' => ?_) e1 e2 (fun v' hI _ => hp v' (hpY v' hI))
          · rcases List.mem_cons.mp hz with y | y
            · exact Or.inl (by rw [y]; exact List.mem_cons_self)
            · rcases whs_snoc y with y2 | y2
              · exact Or.inl (List.mem_cons_of_mem _ y2)
              · exact Or.inr y2
          · refine List.pairwise_append.mpr ⟨hC.2.2.1, List.pairwise_singleton _ _, fun a ha b2 hb2' => ?_⟩
            rw [List.mem_singleton.mp hb2']
            exact (hcq a.2.2.2 (List.mem_map.mpr ⟨a, ha, rfl⟩)).1
          · rw [x3, e7 s']
            by_cases e : s' = sn
            · refine ⟨w != 1, ?_, ?_⟩
              · rw [e, pk_us]
              · rw [if_pos e]
                have hww : w = 1 ∨ w = 2 ∨ w = 3 := by omega
                rcases hww with y | y | y <;> rw [y] <;> rfl
            · rw [pk_un e, if_neg e]
              exact hSE s' hs'
        · have hp := KK 0 u (Or.inl rfl) (fun postY hY' => by
            have h1 := hY' v I0
            have hh := hY.2.2.2.1
            obtain ⟨f_stages, f_heard, f_now, f_calls, f_parts, f_start, f_at, f_nextX, f_nextY, f_x, f_y, a_kind, a_opA, a_opB, a_heardBy, a_what, a_said, a_when, a_over, a_part, a_first, a_second, a_user, a_goStage, a_goStep, a_done, a_val, a_mom, a_cnt, a_end, a_endMom, a_begun, a_status, a_stageOf, a_began, a_taken, a_demand, a_asked, a_code, a_waits, a_waiting, a_came, a_given, a_got⟩ := v
            have hh' : f_heard = nI LG.length := hh
            have hb2' : a_over sn = bI b := hb2
            have := hC.2.1
            exact br_f hneg (br_f h2 ⟨hin, br_t (by rw [hcl, hb2', hb]; rfl) (br_t (by rw [hh', show LG.length = 32 from by omega]; rfl) h1)⟩))
          have hse := hX.2.2.1
          obtain ⟨f_time, f_sent, f_stageCount, f_tasks, a_sourceEnded, a_stageKind, a_stageA, a_stageB, a_stageParts, a_partStage, a_partUser, a_partX, a_partY, a_phase, a_beganAfter, a_due, a_count, a_held, a_heldY, a_hasHeld, a_hasHeldY, a_queueSize, a_queueIsOfX, a_queueValue, a_queueDue, a_subStatus, a_subCode, a_subEnd, a_subDemand, a_subRequests, a_subDelivered, a_subWaiting, a_waitValue, a_history, a_taskWhat, a_taskPart, a_taskValue⟩ := u
          have hse' : f_sent = nI LG.length := hse
          have hb1' : a_sourceEnded sn = bI b := hb1
          exact br_f hneg (br_f (nI_ge (b := 3) h3 (by decide)) ⟨hin, br_t (by rw [hcl, hb1', hb]; rfl) (br_f (by rw [hse', show (32 : Int32) = nI 32 from rfl, nI_ltI (by omega) (by decide)]; omega) hp)⟩)
      · have hbt : b = true := by simpa using hb
        have hp := KK 0 u (Or.inl rfl) (fun postY hY' => by
          have h1 := hY' v I0
          obtain ⟨f_stages, f_heard, f_now, f_calls, f_parts, f_start, f_at, f_nextX, f_nextY, f_x, f_y, a_kind, a_opA, a_opB, a_heardBy, a_what, a_said, a_when, a_over, a_part, a_first, a_second, a_user, a_goStage, a_goStep, a_done, a_val, a_mom, a_cnt, a_end, a_endMom, a_begun, a_status, a_stageOf, a_began, a_taken, a_demand, a_asked, a_code, a_waits, a_waiting, a_came, a_given, a_got⟩ := v
          have hb2' : a_over sn = bI b := hb2
          exact br_f hneg (br_f h2 ⟨hin, br_f (by rw [hcl, hb2', hbt]; decide) h1⟩))
        obtain ⟨f_time, f_sent, f_stageCount, f_tasks, a_sourceEnded, a_stageKind, a_stageA, a_stageB, a_stageParts, a_partStage, a_partUser, a_partX, a_partY, a_phase, a_beganAfter, a_due, a_count, a_held, a_heldY, a_hasHeld, a_hasHeldY, a_queueSize, a_queueIsOfX, a_queueValue, a_queueDue, a_subStatus, a_subCode, a_subEnd, a_subDemand, a_subRequests, a_subDelivered, a_subWaiting, a_waitValue, a_history, a_taskWhat, a_taskPart, a_taskValue⟩ := u
        have hb1' : a_sourceEnded sn = bI b := hb1
        exact br_f hneg (br_f (nI_ge (b := 3) h3 (by decide)) ⟨hin, br_f (by rw [hcl, hb1', hbt]; decide) hp⟩)
    · have h2 : (2 : Int32) < nI sn := by
        rw [show (2 : Int32) = nI 2 from rfl, nI_ltI (by decide) (by omega)]; omega
      have hp := KK 0 u (Or.inl rfl) (fun postY hY' => by
        have h1 := hY' v I0
        obtain ⟨f_stages, f_heard, f_now, f_calls, f_parts, f_start, f_at, f_nextX, f_nextY, f_x, f_y, a_kind, a_opA, a_opB, a_heardBy, a_what, a_said, a_when, a_over, a_part, a_first, a_second, a_user, a_goStage, a_goStep, a_done, a_val, a_mom, a_cnt, a_end, a_endMom, a_begun, a_status, a_stageOf, a_began, a_taken, a_demand, a_asked, a_code, a_waits, a_waiting, a_came, a_given, a_got⟩ := v
        exact br_f hneg (br_t h2 h1))
      obtain ⟨f_time, f_sent, f_stageCount, f_tasks, a_sourceEnded, a_stageKind, a_stageA, a_stageB, a_stageParts, a_partStage, a_partUser, a_partX, a_partY, a_phase, a_beganAfter, a_due, a_count, a_held, a_heldY, a_hasHeld, a_hasHeldY, a_queueSize, a_queueIsOfX, a_queueValue, a_queueDue, a_subStatus, a_subCode, a_subEnd, a_subDemand, a_subRequests, a_subDelivered, a_subWaiting, a_waitValue, a_history, a_taskWhat, a_taskPart, a_taskValue⟩ := u
      exact br_f hneg (br_t (nI_le (a := 3) (by omega) (by omega)) hp)
theorem nw_b {r : Int32} (h : r = 0 ∨ r = 1) : narrow .boolean (.int r) = .int r := by
  rcases h with e | e <;> subst e <;> rfl
theorem rs_emit {k : Nat} {u : SX} {v : SY} (hk : k < 2000000000) (I : i_Rel k u v) (v1 v2 : Int32) : wpX_emit (fun r u' => wpY_emit (fun r' v' => r' = r ∧ i_Rel (k + 4) u' v') v v1 v2) u v1 v2 := by
  have h := rs_send (w := 1) (x := v2) hk I (by decide) (by decide) ⟨fun y => absurd y (by decide), fun y => absurd y (by decide)⟩ v1 (fun r u' => match u' with | (f_time, f_sent, f_stageCount, f_tasks, a_sourceEnded, a_stageKind, a_stageA, a_stageB, a_stageParts, a_partStage, a_partUser, a_partX, a_partY, a_phase, a_beganAfter, a_due, a_count, a_held, a_heldY, a_hasHeld, a_hasHeldY, a_queueSize, a_queueIsOfX, a_queueValue, a_queueDue, a_subStatus, a_subCode, a_subEnd, a_subDemand, a_subRequests, a_subDelivered, a_subWaiting, a_waitValue, a_history, a_taskWhat, a_taskPart, a_taskValue) => narrow .boolean (.int r) = .int r ∧ wpY_emit (fun r' v' => r' = r ∧ i_Rel (k + 4) (f_time, f_sent, f_stageCount, f_tasks, a_sourceEnded, a_stageKind, a_stageA, a_stageB, a_stageParts, a_partStage, a_partUser, a_partX, a_partY, a_phase, a_beganAfter, a_due, a_count, a_held, a_heldY, a_hasHeld, a_hasHeldY, a_queueSize, a_queueIsOfX, a_queueValue, a_queueDue, a_subStatus, a_subCode, a_subEnd, a_subDemand, a_subRequests, a_subDelivered, a_subWaiting, a_waitValue, a_history, a_taskWhat, a_taskPart, a_taskValue) v') v v1 v2) (fun r u' hr hy => ?_)
  · obtain ⟨f_time, f_sent, f_stageCount, f_tasks, a_sourceEnded, a_stageKind, a_stageA, a_stageB, a_stageParts, a_partStage, a_partUser, a_partX, a_partY, a_phase, a_beganAfter, a_due, a_count, a_held, a_heldY, a_hasHeld, a_hasHeldY, a_queueSize, a_queueIsOfX, a_queueValue, a_queueDue, a_subStatus, a_subCode, a_subEnd, a_subDemand, a_subRequests, a_subDelivered, a_subWaiting, a_waitValue, a_history, a_taskWhat, a_taskPart, a_taskValue⟩ := u
    exact h
  · have h2 : wpY_emit (fun r' v' => r' = r ∧ i_Rel (k + 4) u' v') v v1 v2 := by
      have h3 := hy (fun r' v' => match v' with | (f_stages, f_heard, f_now, f_calls, f_parts, f_start, f_at, f_nextX, f_nextY, f_x, f_y, a_kind, a_opA, a_opB, a_heardBy, a_what, a_said, a_when, a_over, a_part, a_first, a_second, a_user, a_goStage, a_goStep, a_done, a_val, a_mom, a_cnt, a_end, a_endMom, a_begun, a_status, a_stageOf, a_began, a_taken, a_demand, a_asked, a_code, a_waits, a_waiting, a_came, a_given, a_got) => narrow .boolean (.int r') = .int r' ∧ (r' = r ∧ i_Rel (k + 4) u' (f_stages, f_heard, f_now, f_calls, f_parts, f_start, f_at, f_nextX, f_nextY, f_x, f_y, a_kind, a_opA, a_opB, a_heardBy, a_what, a_said, a_when, a_over, a_part, a_first, a_second, a_user, a_goStage, a_goStep, a_done, a_val, a_mom, a_cnt, a_end, a_endMom, a_begun, a_status, a_stageOf, a_began, a_taken, a_demand, a_asked, a_code, a_waits, a_waiting, a_came, a_given, a_got))) (fun v' hI => by
        obtain ⟨f_stages, f_heard, f_now, f_calls, f_parts, f_start, f_at, f_nextX, f_nextY, f_x, f_y, a_kind, a_opA, a_opB, a_heardBy, a_what, a_said, a_when, a_over, a_part, a_first, a_second, a_user, a_goStage, a_goStep, a_done, a_val, a_mom, a_cnt, a_end, a_endMom, a_begun, a_status, a_stageOf, a_began, a_taken, a_demand, a_asked, a_code, a_waits, a_waiting, a_came, a_given, a_got⟩ := v'
        exact ⟨nw_b hr, rfl, hI⟩)
      obtain ⟨f_stages, f_heard, f_now, f_calls, f_parts, f_start, f_at, f_nextX, f_nextY, f_x, f_y, a_kind, a_opA, a_opB, a_heardBy, a_what, a_said, a_when, a_over, a_part, a_first, a_second, a_user, a_goStage, a_goStep, a_done, a_val, a_mom, a_cnt, a_end, a_endMom, a_begun, a_status, a_stageOf, a_began, a_taken, a_demand, a_asked, a_code, a_waits, a_waiting, a_came, a_given, a_got⟩ := v
      exact h3
    obtain ⟨f_time, f_sent, f_stageCount, f_tasks, a_sourceEnded, a_stageKind, a_stageA, a_stageB, a_stageParts, a_partStage, a_partUser, a_partX, a_partY, a_phase, a_beganAfter, a_due, a_count, a_held, a_heldY, a_hasHeld, a_hasHeldY, a_queueSize, a_queueIsOfX, a_queueValue, a_queueDue, a_subStatus, a_subCode, a_subEnd, a_subDemand, a_subRequests, a_subDelivered, a_subWaiting, a_waitValue, a_history, a_taskWhat, a_taskPart, a_taskValue⟩ := u'
    exact ⟨nw_b hr, h2⟩
theorem rs_complete {k : Nat} {u : SX} {v : SY} (hk : k < 2000000000) (I : i_Rel k u v) (v1 : Int32) : wpX_complete (fun r u' => wpY_complete (fun r' v' => r' = r ∧ i_Rel (k + 4) u' v') v v1) u v1 := by
  have h := rs_send (w := 2) (x := 0) hk I (by decide) (by decide) ⟨fun _ => rfl, fun y => absurd y (by decide)⟩ v1 (fun r u' => match u' with | (f_time, f_sent, f_stageCount, f_tasks, a_sourceEnded, a_stageKind, a_stageA, a_stageB, a_stageParts, a_partStage, a_partUser, a_partX, a_partY, a_phase, a_beganAfter, a_due, a_count, a_held, a_heldY, a_hasHeld, a_hasHeldY, a_queueSize, a_queueIsOfX, a_queueValue, a_queueDue, a_subStatus, a_subCode, a_subEnd, a_subDemand, a_subRequests, a_subDelivered, a_subWaiting, a_waitValue, a_history, a_taskWhat, a_taskPart, a_taskValue) => narrow .boolean (.int r) = .int r ∧ wpY_complete (fun r' v' => r' = r ∧ i_Rel (k + 4) (f_time, f_sent, f_stageCount, f_tasks, a_sourceEnded, a_stageKind, a_stageA, a_stageB, a_stageParts, a_partStage, a_partUser, a_partX, a_partY, a_phase, a_beganAfter, a_due, a_count, a_held, a_heldY, a_hasHeld, a_hasHeldY, a_queueSize, a_queueIsOfX, a_queueValue, a_queueDue, a_subStatus, a_subCode, a_subEnd, a_subDemand, a_subRequests, a_subDelivered, a_subWaiting, a_waitValue, a_history, a_taskWhat, a_taskPart, a_taskValue) v') v v1) (fun r u' hr hy => ?_)
  · obtain ⟨f_time, f_sent, f_stageCount, f_tasks, a_sourceEnded, a_stageKind, a_stageA, a_stageB, a_stageParts, a_partStage, a_partUser, a_partX, a_partY, a_phase, a_beganAfter, a_due, a_count, a_held, a_heldY, a_hasHeld, a_hasHeldY, a_queueSize, a_queueIsOfX, a_queueValue, a_queueDue, a_subStatus, a_subCode, a_subEnd, a_subDemand, a_subRequests, a_subDelivered, a_subWaiting, a_waitValue, a_history, a_taskWhat, a_taskPart, a_taskValue⟩ := u
    exact h
  · have h2 : wpY_complete (fun r' v' => r' = r ∧ i_Rel (k + 4) u' v') v v1 := by
      have h3 := hy (fun r' v' => match v' with | (f_stages, f_heard, f_now, f_calls, f_parts, f_start, f_at, f_nextX, f_nextY, f_x, f_y, a_kind, a_opA, a_opB, a_heardBy, a_what, a_said, a_when, a_over, a_part, a_first, a_second, a_user, a_goStage, a_goStep, a_done, a_val, a_mom, a_cnt, a_end, a_endMom, a_begun, a_status, a_stageOf, a_began, a_taken, a_demand, a_asked, a_code, a_waits, a_waiting, a_came, a_given, a_got) => narrow .boolean (.int r') = .int r' ∧ (r' = r ∧ i_Rel (k + 4) u' (f_stages, f_heard, f_now, f_calls, f_parts, f_start, f_at, f_nextX, f_nextY, f_x, f_y, a_kind, a_opA, a_opB, a_heardBy, a_what, a_said, a_when, a_over, a_part, a_first, a_second, a_user, a_goStage, a_goStep, a_done, a_val, a_mom, a_cnt, a_end, a_endMom, a_begun, a_status, a_stageOf, a_began, a_taken, a_demand, a_asked, a_code, a_waits, a_waiting, a_came, a_given, a_got))) (fun v' hI => by
        obtain ⟨f_stages, f_heard, f_now, f_calls, f_parts, f_start, f_at, f_nextX, f_nextY, f_x, f_y, a_kind, a_opA, a_opB, a_heardBy, a_what, a_said, a_when, a_over, a_part, a_first, a_second, a_user, a_goStage, a_goStep, a_done, a_val, a_mom, a_cnt, a_end, a_endMom, a_begun, a_status, a_stageOf, a_began, a_taken, a_demand, a_asked, a_code, a_waits, a_waiting, a_came, a_given, a_got⟩ := v'
        exact ⟨nw_b hr, rfl, hI⟩)
      obtain ⟨f_stages, f_heard, f_now, f_calls, f_parts, f_start, f_at, f_nextX, f_nextY, f_x, f_y, a_kind, a_opA, a_opB, a_heardBy, a_what, a_said, a_when, a_over, a_part, a_first, a_second, a_user, a_goStage, a_goStep, a_done, a_val, a_mom, a_cnt, a_end, a_endMom, a_begun, a_status, a_stageOf, a_began, a_taken, a_demand, a_asked, a_code, a_waits, a_waiting, a_came, a_given, a_got⟩ := v
      exact h3
    obtain ⟨f_time, f_sent, f_stageCount, f_tasks, a_sourceEnded, a_stageKind, a_stageA, a_stageB, a_stageParts, a_partStage, a_partUser, a_partX, a_partY, a_phase, a_beganAfter, a_due, a_count, a_held, a_heldY, a_hasHeld, a_hasHeldY, a_queueSize, a_queueIsOfX, a_queueValue, a_queueDue, a_subStatus, a_subCode, a_subEnd, a_subDemand, a_subRequests, a_subDelivered, a_subWaiting, a_waitValue, a_history, a_taskWhat, a_taskPart, a_taskValue⟩ := u'
    exact ⟨nw_b hr, h2⟩
theorem rs_fail {k : Nat} {u : SX} {v : SY} (hk : k < 2000000000) (I : i_Rel k u v) (v1 v2 : Int32) : wpX_fail (fun r u' => wpY_fail (fun r' v' => r' = r ∧ i_Rel (k + 4) u' v') v v1 v2) u v1 v2 := by
  have I0 := i_up I
  by_cases h1 : v2 < 1
  · have hy : wpY_fail (fun r' v' => r' = 0 ∧ i_Rel (k + 4) u v') v v1 v2 := by
      obtain ⟨f_stages, f_heard, f_now, f_calls, f_parts, f_start, f_at, f_nextX, f_nextY, f_x, f_y, a_kind, a_opA, a_opB, a_heardBy, a_what, a_said, a_when, a_over, a_part, a_first, a_second, a_user, a_goStage, a_goStep, a_done, a_val, a_mom, a_cnt, a_end, a_endMom, a_begun, a_status, a_stageOf, a_began, a_taken, a_demand, a_asked, a_code, a_waits, a_waiting, a_came, a_given, a_got⟩ := v
      exact br_t h1 ⟨rfl, I0⟩
    obtain ⟨f_time, f_sent, f_stageCount, f_tasks, a_sourceEnded, a_stageKind, a_stageA, a_stageB, a_stageParts, a_partStage, a_partUser, a_partX, a_partY, a_phase, a_beganAfter, a_due, a_count, a_held, a_heldY, a_hasHeld, a_hasHeldY, a_queueSize, a_queueIsOfX, a_queueValue, a_queueDue, a_subStatus, a_subCode, a_subEnd, a_subDemand, a_subRequests, a_subDelivered, a_subWaiting, a_waitValue, a_history, a_taskWhat, a_taskPart, a_taskValue⟩ := u
    exact br_t h1 hy
  · by_cases h5 : 5 < v2
    · have hy : wpY_fail (fun r' v' => r' = 0 ∧ i_Rel (k + 4) u v') v v1 v2 := by
        obtain ⟨f_stages, f_heard, f_now, f_calls, f_parts, f_start, f_at, f_nextX, f_nextY, f_x, f_y, a_kind, a_opA, a_opB, a_heardBy, a_what, a_said, a_when, a_over, a_part, a_first, a_second, a_user, a_goStage, a_goStep, a_done, a_val, a_mom, a_cnt, a_end, a_endMom, a_begun, a_status, a_stageOf, a_began, a_taken, a_demand, a_asked, a_code, a_waits, a_waiting, a_came, a_given, a_got⟩ := v
        exact br_f h1 (br_t h5 ⟨rfl, I0⟩)
      obtain ⟨f_time, f_sent, f_stageCount, f_tasks, a_sourceEnded, a_stageKind, a_stageA, a_stageB, a_stageParts, a_partStage, a_partUser, a_partX, a_partY, a_phase, a_beganAfter, a_due, a_count, a_held, a_heldY, a_hasHeld, a_hasHeldY, a_queueSize, a_queueIsOfX, a_queueValue, a_queueDue, a_subStatus, a_subCode, a_subEnd, a_subDemand, a_subRequests, a_subDelivered, a_subWaiting, a_waitValue, a_history, a_taskWhat, a_taskPart, a_taskValue⟩ := u
      exact br_f h1 (br_t h5 hy)
    · have hj : ∃ j : Nat, 1 ≤ j ∧ j ≤ 9 ∧ v2 = nI j := by
        have hn : ¬ v2 < 0 := fun y => h1 (Int32.lt_trans y (by decide))
        obtain ⟨j, hj, rfl⟩ := nI_of hn
        rw [show (1 : Int32) = nI 1 from rfl, nI_ltI (by omega) (by decide)] at h1
        rw [show (5 : Int32) = nI 5 from rfl, nI_ltI (by decide) (by omega)] at h5
        exact ⟨j, by omega, by omega, rfl⟩
      have h := rs_send (w := 3) (x := v2) hk I (by decide) (by decide) ⟨fun y => absurd y (by decide), fun _ => hj⟩ v1 (fun r u' => match u' with | (f_time, f_sent, f_stageCount, f_tasks, a_sourceEnded, a_stageKind, a_stageA, a_stageB, a_stageParts, a_partStage, a_partUser, a_partX, a_partY, a_phase, a_beganAfter, a_due, a_count, a_held, a_heldY, a_hasHeld, a_hasHeldY, a_queueSize, a_queueIsOfX, a_queueValue, a_queueDue, a_subStatus, a_subCode, a_subEnd, a_subDemand, a_subRequests, a_subDelivered, a_subWaiting, a_waitValue, a_history, a_taskWhat, a_taskPart, a_taskValue) => (r = 0 → wpY_fail (fun r' v' => r' = 0 ∧ i_Rel (k + 4) (f_time, f_sent, f_stageCount, f_tasks, a_sourceEnded, a_stageKind, a_stageA, a_stageB, a_stageParts, a_partStage, a_partUser, a_partX, a_partY, a_phase, a_beganAfter, a_due, a_count, a_held, a_heldY, a_hasHeld, a_hasHeldY, a_queueSize, a_queueIsOfX, a_queueValue, a_queueDue, a_subStatus, a_subCode, a_subEnd, a_subDemand, a_subRequests, a_subDelivered, a_subWaiting, a_waitValue, a_history, a_taskWhat, a_taskPart, a_taskValue) v') v v1 v2) ∧ (¬ r = 0 → wpY_fail (fun r' v' => r' = 1 ∧ i_Rel (k + 4) (f_time, f_sent, f_stageCount, f_tasks, a_sourceEnded, a_stageKind, a_stageA, a_stageB, a_stageParts, a_partStage, a_partUser, a_partX, a_partY, a_phase, a_beganAfter, a_due, a_count, a_held, a_heldY, a_hasHeld, a_hasHeldY, a_queueSize, a_queueIsOfX, a_queueValue, a_queueDue, a_subStatus, a_subCode, a_subEnd, a_subDemand, a_subRequests, a_subDelivered, a_subWaiting, a_waitValue, a_history, a_taskWhat, a_taskPart, a_taskValue) v') v v1 v2)) (fun r u' hr hy => ?_)
      · obtain ⟨f_time, f_sent, f_stageCount, f_tasks, a_sourceEnded, a_stageKind, a_stageA, a_stageB, a_stageParts, a_partStage, a_partUser, a_partX, a_partY, a_phase, a_beganAfter, a_due, a_count, a_held, a_heldY, a_hasHeld, a_hasHeldY, a_queueSize, a_queueIsOfX, a_queueValue, a_queueDue, a_subStatus, a_subCode, a_subEnd, a_subDemand, a_subRequests, a_subDelivered, a_subWaiting, a_waitValue, a_history, a_taskWhat, a_taskPart, a_taskValue⟩ := u
        exact br_f h1 (br_f h5 h)
      · have h2 : wpY_fail (fun r' v' => r' = r ∧ i_Rel (k + 4) u' v') v v1 v2 := by
          have h3 := hy (fun r' v' => match v' with | (f_stages, f_heard, f_now, f_calls, f_parts, f_start, f_at, f_nextX, f_nextY, f_x, f_y, a_kind, a_opA, a_opB, a_heardBy, a_what, a_said, a_when, a_over, a_part, a_first, a_second, a_user, a_goStage, a_goStep, a_done, a_val, a_mom, a_cnt, a_end, a_endMom, a_begun, a_status, a_stageOf, a_began, a_taken, a_demand, a_asked, a_code, a_waits, a_waiting, a_came, a_given, a_got) => (r' = 0 → (0 : Int32) = r ∧ i_Rel (k + 4) u' (f_stages, f_heard, f_now, f_calls, f_parts, f_start, f_at, f_nextX, f_nextY, f_x, f_y, a_kind, a_opA, a_opB, a_heardBy, a_what, a_said, a_when, a_over, a_part, a_first, a_second, a_user, a_goStage, a_goStep, a_done, a_val, a_mom, a_cnt, a_end, a_endMom, a_begun, a_status, a_stageOf, a_began, a_taken, a_demand, a_asked, a_code, a_waits, a_waiting, a_came, a_given, a_got)) ∧ (¬ r' = 0 → (1 : Int32) = r ∧ i_Rel (k + 4) u' (f_stages, f_heard, f_now, f_calls, f_parts, f_start, f_at, f_nextX, f_nextY, f_x, f_y, a_kind, a_opA, a_opB, a_heardBy, a_what, a_said, a_when, a_over, a_part, a_first, a_second, a_user, a_goStage, a_goStep, a_done, a_val, a_mom, a_cnt, a_end, a_endMom, a_begun, a_status, a_stageOf, a_began, a_taken, a_demand, a_asked, a_code, a_waits, a_waiting, a_came, a_given, a_got))) (fun v' hI => by
            obtain ⟨f_stages, f_heard, f_now, f_calls, f_parts, f_start, f_at, f_nextX, f_nextY, f_x, f_y, a_kind, a_opA, a_opB, a_heardBy, a_what, a_said, a_when, a_over, a_part, a_first, a_second, a_user, a_goStage, a_goStep, a_done, a_val, a_mom, a_cnt, a_end, a_endMom, a_begun, a_status, a_stageOf, a_began, a_taken, a_demand, a_asked, a_code, a_waits, a_waiting, a_came, a_given, a_got⟩ := v'
            rcases hr with e | e
            · exact br_t e ⟨e.symm, hI⟩
            · exact br_f (by rw [e]; decide) ⟨e.symm, hI⟩)
          obtain ⟨f_stages, f_heard, f_now, f_calls, f_parts, f_start, f_at, f_nextX, f_nextY, f_x, f_y, a_kind, a_opA, a_opB, a_heardBy, a_what, a_said, a_when, a_over, a_part, a_first, a_second, a_user, a_goStage, a_goStep, a_done, a_val, a_mom, a_cnt, a_end, a_endMom, a_begun, a_status, a_stageOf, a_began, a_taken, a_demand, a_asked, a_code, a_waits, a_waiting, a_came, a_given, a_got⟩ := v
          exact br_f h1 (br_f h5 h3)
        obtain ⟨f_time, f_sent, f_stageCount, f_tasks, a_sourceEnded, a_stageKind, a_stageA, a_stageB, a_stageParts, a_partStage, a_partUser, a_partX, a_partY, a_phase, a_beganAfter, a_due, a_count, a_held, a_heldY, a_hasHeld, a_hasHeldY, a_queueSize, a_queueIsOfX, a_queueValue, a_queueDue, a_subStatus, a_subCode, a_subEnd, a_subDemand, a_subRequests, a_subDelivered, a_subWaiting, a_waitValue, a_history, a_taskWhat, a_taskPart, a_taskValue⟩ := u'
        rcases hr with e | e
        · subst e; exact br_t rfl h2
        · subst e; exact br_f (by decide) h2
