/-! ===== cancel, request: one subscription's own state ===== -/
theorem sa_refl {id ns : Nat} {z : St2} : SA id ns z z := by
  obtain ⟨ti, se, sc, so, sk, sa, sb, sp, ps, pu, px, py, sr⟩ := z
  exact ⟨rfl, rfl, fun _ _ => ⟨rfl, rfl, rfl⟩, fun _ _ _ => ⟨rfl, rfl, rfl, rfl⟩⟩
theorem ow_rp {u u' : SX} (hpa : x_pa u' = x_pa u) : ∀ i S, RepP u i S → RepP u' i S := by
  intro i S hS
  unfold x_pa at hpa
  simp only [Prod.mk.injEq] at hpa
  obtain ⟨p1, p2, p3, p4, p5, p6, p7, p8, p9, p10⟩ := hpa
  unfold RepP at hS ⊢
  rw [p1, p2, p3, p4, p5, p6, p7, p8, p9, p10]
  exact hS
theorem ow_ph {u u' : SX} (hph : x_ph u' = x_ph u) : x_phase u' = x_phase u ∧ x_beganAfter u' = x_beganAfter u := by
  unfold x_ph at hph
  simp only [Prod.mk.injEq] at hph
  exact hph
theorem ow_tk {u u' : SX} {R : List Tk} (h : x_tk u' = x_tk u) (hS : RepS u R) : RepS u' R := by
  unfold x_tk at h
  simp only [Prod.mk.injEq] at h
  obtain ⟨p1, p2, p3, p4⟩ := h
  unfold RepS at hS ⊢
  rw [p1, p2, p3, p4]
  exact hS
theorem rl_one {k ns cc t id : Nat} {K A B : Nat → Nat} {oa ob : Nat → Int32} {LG : List Lg} {u u' : SX} {v v2 : SY} {S : Nat → Sb} {s1 : Sb} (hid : id < 3) (h0 : (S id).1 = 0) (hck : cc ≤ k) (hX : RXg ns K A B oa ob t LG u) (hY : RYg ns K A B oa ob cc t LG v) (hC : RC cc t LG) (hSE : SE u v) (hJ : ∀ j, j < 3 → RJ ns cc t LG j u v (S j))
    (hA : ∀ j, SA j ns (x_st2 u) (x_st2 u')) (hX' : RXg ns K A B oa ob t LG u') (hse : x_sourceEnded u' = x_sourceEnded u) (hsr : ∀ j, j ≠ id → x_subRequests u' j = x_subRequests u j) (hph : x_ph u' = x_ph u) (hpa : x_pa u' = x_pa u) (hU : RepU u' id s1) (hUo : ∀ j, j ≠ id → ∀ s, RepU u j s → RepU u' j s)
    (hyt : y_tab v2 = y_tab v) (hyl : y_log v2 = y_log v) (hyh : y_heard v2 = y_heard v) (hyc : y_calls v2 = y_calls v) (hyo : y_over v2 = y_over v) (hyn : y_now v2 = y_now v) (hW : RepW v2 id s1) (hWo : ∀ j, j ≠ id → ∀ s, RepW v j s → RepW v2 j s) (hta : y_taken v2 = y_taken v ∧ y_stageOf v2 = y_stageOf v ∧ y_began v2 = y_began v) (hao : ∀ j, j ≠ id → y_asked v2 j = y_asked v j) (hq : x_subRequests u' id = y_asked v2 id) (hr : ∃ r, r ≤ 32 ∧ y_asked v2 id = nI r) (hz : ∀ z0, ENZ z0 (S id) → ENZ z0 s1) : i_Rel k u' v2 := by
  obtain ⟨t1, t2, t3, t4⟩ := yt_eq hyt
  obtain ⟨l1, l2, l3, l4⟩ := yl_eq hyl
  refine ⟨ns, K, A, B, oa, ob, cc, t, LG, fup S id s1, hck, hX', ⟨by rw [t2, t3, t4]; exact hY.1, t1.trans hY.2.1, hyn.trans hY.2.2.1, hyh.trans hY.2.2.2.1, by rw [l1, l2, l3, l4]; exact hY.2.2.2.2.1, hyc.trans hY.2.2.2.2.2⟩, hC, fun s hs => by rw [hse, hyo]; exact hSE s hs, fun j hj => ?_⟩
  by_cases e : j = id
  · subst e
    rw [fu_s]
    exact rj_sub hj (hJ j hj) h0 (hA j) hph hpa hX'.2.2.2 hU hW hq hr hyt ⟨by rw [hta.1], by rw [hta.2.1], by rw [hta.2.2]⟩ hz
  · rw [fu_n e]
    have hp := ow_ph hph
    refine rj_frame hj (Nat.le_refl _) (hJ j hj) ⟨hA j, fun i _ _ => ⟨fun S' hS' => ow_rp hpa i S' hS', by rw [hp.1], by rw [hp.2]⟩, hUo j e, hX'.2.2.2⟩ (hsr j e) (hWo j e _) (hao j e) (fun σ _ => ⟨by rw [t2], by rw [t3], by rw [t4]⟩) ⟨by rw [hta.1], by rw [hta.2.1], by rw [hta.2.2]⟩
/-- what the reference's own steps of one subscription leave -/
def YO (id : Nat) (v v2 : SY) : Prop := y_tab v2 = y_tab v ∧ y_log v2 = y_log v ∧ y_heard v2 = y_heard v ∧ y_calls v2 = y_calls v ∧ y_over v2 = y_over v ∧ y_now v2 = y_now v ∧ (∀ j, j ≠ id → ∀ s, RepW v j s → RepW v2 j s) ∧ (y_taken v2 = y_taken v ∧ y_stageOf v2 = y_stageOf v ∧ y_began v2 = y_began v)
section
variable {f_stages : Int32} {f_heard : Int32} {f_now : Int32} {f_calls : Int64} {f_parts : Int32} {f_start : Int64} {f_at : Int32} {f_nextX : Int32} {f_nextY : Int32} {f_x : Int32} {f_y : Int32} {a_kind : (Nat → Int32)} {a_opA : (Nat → Int32)} {a_opB : (Nat → Int32)} {a_heardBy : (Nat → Int32)} {a_what : (Nat → Int32)} {a_said : (Nat → Int32)} {a_when : (Nat → Int64)} {a_over : (Nat → Int32)} {a_part : (Nat → Int32)} {a_first : (Nat → Int32)} {a_second : (Nat → Int32)} {a_user : (Nat → Int32)} {a_goStage : (Nat → Int32)} {a_goStep : (Nat → Int32)} {a_done : (Nat → Int32)} {a_val : (Nat → Int32)} {a_mom : (Nat → Int64)} {a_cnt : (Nat → Int32)} {a_end : (Nat → Int32)} {a_endMom : (Nat → Int64)} {a_begun : (Nat → Int32)} {a_status : (Nat → Int32)} {a_stageOf : (Nat → Int32)} {a_began : (Nat → Int64)} {a_taken : (Nat → Int32)} {a_demand : (Nat → Int64)} {a_asked : (Nat → Int32)} {a_code : (Nat → Int32)} {a_waits : (Nat → Int32)} {a_waiting : (Nat → Int32)} {a_came : (Nat → Int32)} {a_given : (Nat → Int32)} {a_got : (Nat → Int64)}
theorem ye_taken : y_taken (f_stages, f_heard, f_now, f_calls, f_parts, f_start, f_at, f_nextX, f_nextY, f_x, f_y, a_kind, a_opA, a_opB, a_heardBy, a_what, a_said, a_when, a_over, a_part, a_first, a_second, a_user, a_goStage, a_goStep, a_done, a_val, a_mom, a_cnt, a_end, a_endMom, a_begun, a_status, a_stageOf, a_began, a_taken, a_demand, a_asked, a_code, a_waits, a_waiting, a_came, a_given, a_got) = a_taken := rfl
theorem ye_stageOf : y_stageOf (f_stages, f_heard, f_now, f_calls, f_parts, f_start, f_at, f_nextX, f_nextY, f_x, f_y, a_kind, a_opA, a_opB, a_heardBy, a_what, a_said, a_when, a_over, a_part, a_first, a_second, a_user, a_goStage, a_goStep, a_done, a_val, a_mom, a_cnt, a_end, a_endMom, a_begun, a_status, a_stageOf, a_began, a_taken, a_demand, a_asked, a_code, a_waits, a_waiting, a_came, a_given, a_got) = a_stageOf := rfl
theorem ye_began : y_began (f_stages, f_heard, f_now, f_calls, f_parts, f_start, f_at, f_nextX, f_nextY, f_x, f_y, a_kind, a_opA, a_opB, a_heardBy, a_what, a_said, a_when, a_over, a_part, a_first, a_second, a_user, a_goStage, a_goStep, a_done, a_val, a_mom, a_cnt, a_end, a_endMom, a_begun, a_status, a_stageOf, a_began, a_taken, a_demand, a_asked, a_code, a_waits, a_waiting, a_came, a_given, a_got) = a_began := rfl
theorem ye_asked : y_asked (f_stages, f_heard, f_now, f_calls, f_parts, f_start, f_at, f_nextX, f_nextY, f_x, f_y, a_kind, a_opA, a_opB, a_heardBy, a_what, a_said, a_when, a_over, a_part, a_first, a_second, a_user, a_goStage, a_goStep, a_done, a_val, a_mom, a_cnt, a_end, a_endMom, a_begun, a_status, a_stageOf, a_began, a_taken, a_demand, a_asked, a_code, a_waits, a_waiting, a_came, a_given, a_got) = a_asked := rfl
theorem yo_of {id : Nat} {ss sc wt wg gv aq : Nat → Int32} {sd gt : Nat → Int64} (h : VF id a_status a_code a_demand a_waits a_waiting a_came a_given a_got ss sc sd wt wg a_came gv gt) : YO id (f_stages, f_heard, f_now, f_calls, f_parts, f_start, f_at, f_nextX, f_nextY, f_x, f_y, a_kind, a_opA, a_opB, a_heardBy, a_what, a_said, a_when, a_over, a_part, a_first, a_second, a_user, a_goStage, a_goStep, a_done, a_val, a_mom, a_cnt, a_end, a_endMom, a_begun, a_status, a_stageOf, a_began, a_taken, a_demand, a_asked, a_code, a_waits, a_waiting, a_came, a_given, a_got) (f_stages, f_heard, f_now, f_calls, f_parts, f_start, f_at, f_nextX, f_nextY, f_x, f_y, a_kind, a_opA, a_opB, a_heardBy, a_what, a_said, a_when, a_over, a_part, a_first, a_second, a_user, a_goStage, a_goStep, a_done, a_val, a_mom, a_cnt, a_end, a_endMom, a_begun, ss, a_stageOf, a_began, a_taken, sd, aq, sc, wt, wg, a_came, gv, gt) :=
  ⟨ye_tab.trans ye_tab.symm, ye_log.trans ye_log.symm, ye_heard.trans ye_heard.symm, ye_calls.trans ye_calls.symm, ye_over.trans ye_over.symm, ye_now.trans ye_now.symm, fun j hj s hs => ye_rw' ((h j hj).1 s (ye_rw hs)), ye_taken.trans ye_taken.symm, ye_stageOf.trans ye_stageOf.symm, ye_began.trans ye_began.symm⟩
end
section
variable {f_time : Int32} {f_sent : Int32} {f_stageCount : Int32} {f_tasks : Int32} {a_sourceEnded : (Nat → Int32)} {a_stageKind : (Nat → Int32)} {a_stageA : (Nat → Int32)} {a_stageB : (Nat → Int32)} {a_stageParts : (Nat → Int32)} {a_partStage : (Nat → Int32)} {a_partUser : (Nat → Int32)} {a_partX : (Nat → Int32)} {a_partY : (Nat → Int32)} {a_phase : (Nat → Int32)} {a_beganAfter : (Nat → Int32)} {a_due : (Nat → Int32)} {a_count : (Nat → Int32)} {a_held : (Nat → Int32)} {a_heldY : (Nat → Int32)} {a_hasHeld : (Nat → Int32)} {a_hasHeldY : (Nat → Int32)} {a_queueSize : (Nat → Int32)} {a_queueIsOfX : (Nat → Int32)} {a_queueValue : (Nat → Int32)} {a_queueDue : (Nat → Int32)} {a_subStatus : (Nat → Int32)} {a_subCode : (Nat → Int32)} {a_subEnd : (Nat → Int32)} {a_subDemand : (Nat → Int64)} {a_subRequests : (Nat → Int32)} {a_subDelivered : (Nat → Int32)} {a_subWaiting : (Nat → Int32)} {a_waitValue : (Nat → Int32)} {a_history : (Nat → Int64)} {a_taskWhat : (Nat → Int32)} {a_taskPart : (Nat → Int32)} {a_taskValue : (Nat → Int32)}
theorem xe_sr : x_subRequests (f_time, f_sent, f_stageCount, f_tasks, a_sourceEnded, a_stageKind, a_stageA, a_stageB, a_stageParts, a_partStage, a_partUser, a_partX, a_partY, a_phase, a_beganAfter, a_due, a_count, a_held, a_heldY, a_hasHeld, a_hasHeldY, a_queueSize, a_queueIsOfX, a_queueValue, a_queueDue, a_subStatus, a_subCode, a_subEnd, a_subDemand, a_subRequests, a_subDelivered, a_subWaiting, a_waitValue, a_history, a_taskWhat, a_taskPart, a_taskValue) = a_subRequests := rfl
theorem xe_so : x_sourceEnded (f_time, f_sent, f_stageCount, f_tasks, a_sourceEnded, a_stageKind, a_stageA, a_stageB, a_stageParts, a_partStage, a_partUser, a_partX, a_partY, a_phase, a_beganAfter, a_due, a_count, a_held, a_heldY, a_hasHeld, a_hasHeldY, a_queueSize, a_queueIsOfX, a_queueValue, a_queueDue, a_subStatus, a_subCode, a_subEnd, a_subDemand, a_subRequests, a_subDelivered, a_subWaiting, a_waitValue, a_history, a_taskWhat, a_taskPart, a_taskValue) = a_sourceEnded := rfl
end
theorem xr_st2 {u u' : SX} (h : x_st2 u' = x_st2 u) : x_time u' = x_time u ∧ x_sent u' = x_sent u ∧ x_sourceEnded u' = x_sourceEnded u ∧ x_subRequests u' = x_subRequests u :=
  ⟨congrArg (fun w => w.1) h, congrArg (fun w => w.2.1) h, congrArg (fun w => w.2.2.2.1) h, congrArg (fun w => w.2.2.2.2.2.2.2.2.2.2.2.2) h⟩
theorem rx_eff {ns t id : Nat} {K A B : Nat → Nat} {oa ob : Nat → Int32} {LG : List Lg} {u u' : SX} {s1 : Sb} (hX : RXg ns K A B oa ob t LG u) (h : EffS u u' id s1) : RXg ns K A B oa ob t LG u' := by
  obtain ⟨e1, e2, e3, e4, e5, e6⟩ := h
  have x := xr_st2 e1
  exact ⟨by rw [e1]; exact hX.1, x.1.trans hX.2.1, x.2.1.trans hX.2.2.1, ow_tk e4 hX.2.2.2⟩
theorem rd_cancel {k : Nat} {u : SX} {v : SY} (I : i_Rel k u v) (v1 : Int32) : wpX_cancel (fun r u' => wpY_cancel (fun r' v' => r' = r ∧ i_Rel (k + 4) u' v') v v1) u v1 := by
  have I0 := i_up I
  obtain ⟨ns, K, A, B, oa, ob, cc, t, LG, S, hck, hX, hY, hC, hSE, hJ⟩ := I
  have hout : v1 < 0 ∨ (¬ v1 < 0 ∧ 3 ≤ v1) → wpX_cancel (fun r u' => wpY_cancel (fun r' v' => r' = r ∧ i_Rel (k + 4) u' v') v v1) u v1 := by
    intro h
    have hy : wpY_cancel (fun r' v' => r' = 0 ∧ i_Rel (k + 4) u v') v v1 := by
      obtain ⟨f_stages, f_heard, f_now, f_calls, f_parts, f_start, f_at, f_nextX, f_nextY, f_x, f_y, a_kind, a_opA, a_opB, a_heardBy, a_what, a_said, a_when, a_over, a_part, a_first, a_second, a_user, a_goStage, a_goStep, a_done, a_val, a_mom, a_cnt, a_end, a_endMom, a_begun, a_status, a_stageOf, a_began, a_taken, a_demand, a_asked, a_code, a_waits, a_waiting, a_came, a_given, a_got⟩ := v
      unfold wpY_cancel
      exact yq_act0 h (br_t rfl ⟨rfl, I0⟩)
    obtain ⟨f_time, f_sent, f_stageCount, f_tasks, a_sourceEnded, a_stageKind, a_stageA, a_stageB, a_stageParts, a_partStage, a_partUser, a_partX, a_partY, a_phase, a_beganAfter, a_due, a_count, a_held, a_heldY, a_hasHeld, a_hasHeldY, a_queueSize, a_queueIsOfX, a_queueValue, a_queueDue, a_subStatus, a_subCode, a_subEnd, a_subDemand, a_subRequests, a_subDelivered, a_subWaiting, a_waitValue, a_history, a_taskWhat, a_taskPart, a_taskValue⟩ := u
    unfold wpX_cancel
    exact xq_act0 h (br_t rfl hy)
  rcases rc_id v1 with h | ⟨h, h3, h2, h2'⟩ | ⟨j, hj, rfl⟩
  · exact hout (Or.inl h)
  · exact hout (Or.inr ⟨h, h3⟩)
  · obtain ⟨hx, hyy, hq1, hq2, _⟩ := hJ j hj
    by_cases h0 : (S j).1 = 0
    · cases hS : S j with
      | mk st r =>
      obtain ⟨co, en, dm, dv, ws, hh⟩ := r
      rw [hS] at hx hyy h0
      suffices hmain : ∀ u', EffS u u' j (3, 0, en, dm, dv, [], hh) → wpY_cancel (fun r' v' => r' = 1 ∧ i_Rel (k + 4) u' v') v (nI j) by
        obtain ⟨f_time, f_sent, f_stageCount, f_tasks, a_sourceEnded, a_stageKind, a_stageA, a_stageB, a_stageParts, a_partStage, a_partUser, a_partX, a_partY, a_phase, a_beganAfter, a_due, a_count, a_held, a_heldY, a_hasHeld, a_hasHeldY, a_queueSize, a_queueIsOfX, a_queueValue, a_queueDue, a_subStatus, a_subCode, a_subEnd, a_subDemand, a_subRequests, a_subDelivered, a_subWaiting, a_waitValue, a_history, a_taskWhat, a_taskPart, a_taskValue⟩ := u
        unfold wpX_cancel
        refine xq_act hj hx (fun _ => br_f (by decide) (xs_endSub (s1 := 3) (c1 := 0) hj (xe_ru hx) (fun u' he => ?_))) (fun y => absurd h0 y)
        have h2 := hmain u' he
        obtain ⟨f_time, f_sent, f_stageCount, f_tasks, a_sourceEnded, a_stageKind, a_stageA, a_stageB, a_stageParts, a_partStage, a_partUser, a_partX, a_partY, a_phase, a_beganAfter, a_due, a_count, a_held, a_heldY, a_hasHeld, a_hasHeldY, a_queueSize, a_queueIsOfX, a_queueValue, a_queueDue, a_subStatus, a_subCode, a_subEnd, a_subDemand, a_subRequests, a_subDelivered, a_subWaiting, a_waitValue, a_history, a_taskWhat, a_taskPart, a_taskValue⟩ := u'
        exact h2
      intro u' he
      obtain ⟨e1, e2, e3, e4, e5, e6⟩ := he
      have xs := xr_st2 e1
      have key : ∀ v2, YO j v v2 → RepW v2 j (3, 0, en, dm, dv, [], hh) → y_asked v2 = y_asked v → i_Rel (k + 4) u' v2 := by
        intro v2 hyo hW ha
        obtain ⟨o1, o2, o3, o4, o5, o6, o7, o8⟩ := hyo
        refine rl_one (s1 := (3, 0, en, dm, dv, [], hh)) hj (by rw [hS]; exact h0) (Nat.le_trans hck (Nat.le_add_right _ _)) hX hY hC hSE hJ (fun i => by rw [e1]; exact sa_refl) (rx_eff hX ⟨e1, e2, e3, e4, e5, e6⟩) xs.2.2.1 (fun i _ => by rw [xs.2.2.2]) e2 e3 e5 e6 o1 o2 o3 o4 o5 o6 hW o7 o8 (fun i _ => by rw [ha]) (by rw [xs.2.2.2, ha]; exact hq1) (by rw [ha]; exact hq2) (fun z0 _ y => absurd (show (3 : Int32) = 0 from y) (by decide))
      obtain ⟨f_stages, f_heard, f_now, f_calls, f_parts, f_start, f_at, f_nextX, f_nextY, f_x, f_y, a_kind, a_opA, a_opB, a_heardBy, a_what, a_said, a_when, a_over, a_part, a_first, a_second, a_user, a_goStage, a_goStep, a_done, a_val, a_mom, a_cnt, a_end, a_endMom, a_begun, a_status, a_stageOf, a_began, a_taken, a_demand, a_asked, a_code, a_waits, a_waiting, a_came, a_given, a_got⟩ := v
      unfold wpY_cancel
      refine yq_act hj hyy (fun _ => br_f (by decide) (yu_close (s1 := 3) (c1 := 0) hj (by decide) (ye_rw hyy) (fun ss sc wt g1 g2 => ⟨rfl, ?_⟩))) (fun y => absurd h0 y)
      exact key (f_stages, f_heard, f_now, f_calls, f_parts, f_start, f_at, f_nextX, f_nextY, f_x, f_y, a_kind, a_opA, a_opB, a_heardBy, a_what, a_said, a_when, a_over, a_part, a_first, a_second, a_user, a_goStage, a_goStep, a_done, a_val, a_mom, a_cnt, a_end, a_endMom, a_begun, ss, a_stageOf, a_began, a_taken, a_demand, a_asked, sc, wt, a_waiting, a_came, a_given, a_got) (yo_of (aq := a_asked) g2) (ye_rw' (g1 0 en (fun y => absurd y (by decide)))) (ye_asked.trans ye_asked.symm)
    · have hy : wpY_cancel (fun r' v' => r' = 0 ∧ i_Rel (k + 4) u v') v (nI j) := by
        obtain ⟨f_stages, f_heard, f_now, f_calls, f_parts, f_start, f_at, f_nextX, f_nextY, f_x, f_y, a_kind, a_opA, a_opB, a_heardBy, a_what, a_said, a_when, a_over, a_part, a_first, a_second, a_user, a_goStage, a_goStep, a_done, a_val, a_mom, a_cnt, a_end, a_endMom, a_begun, a_status, a_stageOf, a_began, a_taken, a_demand, a_asked, a_code, a_waits, a_waiting, a_came, a_given, a_got⟩ := v
        unfold wpY_cancel
        exact yq_act hj hyy (fun y => absurd y h0) (fun _ => br_t rfl ⟨rfl, I0⟩)
      obtain ⟨f_time, f_sent, f_stageCount, f_tasks, a_sourceEnded, a_stageKind, a_stageA, a_stageB, a_stageParts, a_partStage, a_partUser, a_partX, a_partY, a_phase, a_beganAfter, a_due, a_count, a_held, a_heldY, a_hasHeld, a_hasHeldY, a_queueSize, a_queueIsOfX, a_queueValue, a_queueDue, a_subStatus, a_subCode, a_subEnd, a_subDemand, a_subRequests, a_subDelivered, a_subWaiting, a_waitValue, a_history, a_taskWhat, a_taskPart, a_taskValue⟩ := u
      unfold wpX_cancel
      exact xq_act hj hx (fun y => absurd y h0) (fun _ => br_t rfl hy)
