/-! ===== reads; cancel ===== -/
theorem rc_id (x : Int32) : x < 0 ∨ (¬ x < 0 ∧ 3 ≤ x ∧ 2 < x ∧ ¬ x ≤ 2) ∨ ∃ j : Nat, j < 3 ∧ x = nI j := by
  by_cases h : x < 0
  · exact Or.inl h
  · obtain ⟨j, hj, rfl⟩ := nI_of h
    by_cases h3 : j < 3
    · exact Or.inr (Or.inr ⟨j, h3, rfl⟩)
    · exact Or.inr (Or.inl ⟨h, nI_le (a := 3) (by omega) (by omega), nI_lt (a := 2) (by omega) (by omega), nI_ge (a := 2) (by omega) (by omega)⟩)
theorem rc_2 {j : Nat} (h : j < 3) : nI j ≤ 2 ∧ ¬ (2 : Int32) < nI j := by
  constructor
  · exact nI_le (b := 2) (by omega) (by decide)
  · rw [show (2 : Int32) = nI 2 from rfl, nI_ltI (by decide) (by omega)]; omega
theorem xq_isId {post : Int32 → Prop} {j : Nat} (hj : j < 3) (H : post 1) : wpX_isId post (nI j) := br_f (nI_pos (by omega)) (br_f (nI_ge (b := 3) hj (by decide)) H)
theorem xq_isId0 {post : Int32 → Prop} {x : Int32} (h : x < 0 ∨ (¬ x < 0 ∧ 3 ≤ x)) (H : post 0) : wpX_isId post x := by
  rcases h with h | ⟨h, h3⟩
  · exact br_t h H
  · exact br_f h (br_t h3 H)
theorem xq_act {post : Int32 → Prop} {u : SX} {j : Nat} {s : Sb} (hj : j < 3) (hR : RepU u j s) (h1 : s.1 = 0 → post 1) (h0 : s.1 ≠ 0 → post 0) : wpX_isActive post u (nI j) := by
  have hst := ad_st hR
  have hcl : (nI j).toNatClampNeg = j := nI_clamp (by omega)
  obtain ⟨f_time, f_sent, f_stageCount, f_tasks, a_sourceEnded, a_stageKind, a_stageA, a_stageB, a_stageParts, a_partStage, a_partUser, a_partX, a_partY, a_phase, a_beganAfter, a_due, a_count, a_held, a_heldY, a_hasHeld, a_hasHeldY, a_queueSize, a_queueIsOfX, a_queueValue, a_queueDue, a_subStatus, a_subCode, a_subEnd, a_subDemand, a_subRequests, a_subDelivered, a_subWaiting, a_waitValue, a_history, a_taskWhat, a_taskPart, a_taskValue⟩ := u
  have hst' : a_subStatus j = s.1 := hst
  unfold wpX_isActive
  refine xq_isId hj (br_f (by decide) ⟨vp_in_nI hj (by decide), ?_⟩)
  rw [hcl, hst']
  exact ⟨h1, h0⟩
theorem xq_act0 {post : Int32 → Prop} {u : SX} {x : Int32} (h : x < 0 ∨ (¬ x < 0 ∧ 3 ≤ x)) (H : post 0) : wpX_isActive post u x := by
  obtain ⟨f_time, f_sent, f_stageCount, f_tasks, a_sourceEnded, a_stageKind, a_stageA, a_stageB, a_stageParts, a_partStage, a_partUser, a_partX, a_partY, a_phase, a_beganAfter, a_due, a_count, a_held, a_heldY, a_hasHeld, a_hasHeldY, a_queueSize, a_queueIsOfX, a_queueValue, a_queueDue, a_subStatus, a_subCode, a_subEnd, a_subDemand, a_subRequests, a_subDelivered, a_subWaiting, a_waitValue, a_history, a_taskWhat, a_taskPart, a_taskValue⟩ := u
  unfold wpX_isActive
  exact xq_isId0 h (br_t rfl H)
theorem yd_st {v : SY} {id : Nat} {s : Sb} (h : RepW v id s) : y_status v id = s.1 := by
  obtain ⟨st, co, en, dm, dv, ws, hh⟩ := s
  exact h.1
theorem yq_act {post : Int32 → Prop} {v : SY} {j : Nat} {s : Sb} (hj : j < 3) (hR : RepW v j s) (h1 : s.1 = 0 → post 1) (h0 : s.1 ≠ 0 → post 0) : wpY_active post v (nI j) := by
  have hst := yd_st hR
  have hcl : (nI j).toNatClampNeg = j := nI_clamp (by omega)
  obtain ⟨f_stages, f_heard, f_now, f_calls, f_parts, f_start, f_at, f_nextX, f_nextY, f_x, f_y, a_kind, a_opA, a_opB, a_heardBy, a_what, a_said, a_when, a_over, a_part, a_first, a_second, a_user, a_goStage, a_goStep, a_done, a_val, a_mom, a_cnt, a_end, a_endMom, a_begun, a_status, a_stageOf, a_began, a_taken, a_demand, a_asked, a_code, a_waits, a_waiting, a_came, a_given, a_got⟩ := v
  have hst' : a_status j = s.1 := hst
  refine br_f (nI_pos (by omega)) (br_f (nI_ge (b := 3) hj (by decide)) ⟨vp_in_nI hj (by decide), ?_⟩)
  rw [hcl, hst']
  exact ⟨h1, h0⟩
theorem yq_act0 {post : Int32 → Prop} {v : SY} {x : Int32} (h : x < 0 ∨ (¬ x < 0 ∧ 3 ≤ x)) (H : post 0) : wpY_active post v x := by
  obtain ⟨f_stages, f_heard, f_now, f_calls, f_parts, f_start, f_at, f_nextX, f_nextY, f_x, f_y, a_kind, a_opA, a_opB, a_heardBy, a_what, a_said, a_when, a_over, a_part, a_first, a_second, a_user, a_goStage, a_goStep, a_done, a_val, a_mom, a_cnt, a_end, a_endMom, a_begun, a_status, a_stageOf, a_began, a_taken, a_demand, a_asked, a_code, a_waits, a_waiting, a_came, a_given, a_got⟩ := v
  rcases h with h | ⟨h, h3⟩
  · exact br_t h H
  · exact br_f h (br_t h3 H)
theorem rd_status {k : Nat} {u : SX} {v : SY} (I : i_Rel k u v) (v1 : Int32) : wpX_status (fun r => wpY_status (fun r' => r' = r ∧ i_Rel (k + 4) u v) v v1) u v1 := by
  have I0 := i_up I
  obtain ⟨ns, K, A, B, oa, ob, cc, t, LG, S, hck, hX, hY, hC, hSE, hJ⟩ := I
  rcases rc_id v1 with h | ⟨h, h3, h2, h2'⟩ | ⟨j, hj, rfl⟩
  · have hy : wpY_status (fun r' => r' = -1 ∧ i_Rel (k + 4) u v) v v1 := by
      obtain ⟨f_stages, f_heard, f_now, f_calls, f_parts, f_start, f_at, f_nextX, f_nextY, f_x, f_y, a_kind, a_opA, a_opB, a_heardBy, a_what, a_said, a_when, a_over, a_part, a_first, a_second, a_user, a_goStage, a_goStep, a_done, a_val, a_mom, a_cnt, a_end, a_endMom, a_begun, a_status, a_stageOf, a_began, a_taken, a_demand, a_asked, a_code, a_waits, a_waiting, a_came, a_given, a_got⟩ := v
      exact br_t h ⟨rfl, I0⟩
    obtain ⟨f_time, f_sent, f_stageCount, f_tasks, a_sourceEnded, a_stageKind, a_stageA, a_stageB, a_stageParts, a_partStage, a_partUser, a_partX, a_partY, a_phase, a_beganAfter, a_due, a_count, a_held, a_heldY, a_hasHeld, a_hasHeldY, a_queueSize, a_queueIsOfX, a_queueValue, a_queueDue, a_subStatus, a_subCode, a_subEnd, a_subDemand, a_subRequests, a_subDelivered, a_subWaiting, a_waitValue, a_history, a_taskWhat, a_taskPart, a_taskValue⟩ := u
    unfold wpX_status
    exact xq_isId0 (Or.inl h) (br_t rfl hy)
  · have hy : wpY_status (fun r' => r' = -1 ∧ i_Rel (k + 4) u v) v v1 := by
      obtain ⟨f_stages, f_heard, f_now, f_calls, f_parts, f_start, f_at, f_nextX, f_nextY, f_x, f_y, a_kind, a_opA, a_opB, a_heardBy, a_what, a_said, a_when, a_over, a_part, a_first, a_second, a_user, a_goStage, a_goStep, a_done, a_val, a_mom, a_cnt, a_end, a_endMom, a_begun, a_status, a_stageOf, a_began, a_taken, a_demand, a_asked, a_code, a_waits, a_waiting, a_came, a_given, a_got⟩ := v
      exact br_f h (br_f h2' ⟨rfl, I0⟩)
    obtain ⟨f_time, f_sent, f_stageCount, f_tasks, a_sourceEnded, a_stageKind, a_stageA, a_stageB, a_stageParts, a_partStage, a_partUser, a_partX, a_partY, a_phase, a_beganAfter, a_due, a_count, a_held, a_heldY, a_hasHeld, a_hasHeldY, a_queueSize, a_queueIsOfX, a_queueValue, a_queueDue, a_subStatus, a_subCode, a_subEnd, a_subDemand, a_subRequests, a_subDelivered, a_subWaiting, a_waitValue, a_history, a_taskWhat, a_taskPart, a_taskValue⟩ := u
    unfold wpX_status
    exact xq_isId0 (Or.inr ⟨h, h3⟩) (br_t rfl hy)
  · have hcl : (nI j).toNatClampNeg = j := nI_clamp (by omega)
    have hin : vp_in (nI j) 3 := vp_in_nI hj (by decide)
    have hx := ad_st (hJ j hj).1
    have hyy := yd_st (hJ j hj).2.1
    have hy : wpY_status (fun r' => r' = (S j).1 ∧ i_Rel (k + 4) u v) v (nI j) := by
      obtain ⟨f_stages, f_heard, f_now, f_calls, f_parts, f_start, f_at, f_nextX, f_nextY, f_x, f_y, a_kind, a_opA, a_opB, a_heardBy, a_what, a_said, a_when, a_over, a_part, a_first, a_second, a_user, a_goStage, a_goStep, a_done, a_val, a_mom, a_cnt, a_end, a_endMom, a_begun, a_status, a_stageOf, a_began, a_taken, a_demand, a_asked, a_code, a_waits, a_waiting, a_came, a_given, a_got⟩ := v
      have hyy' : a_status j = (S j).1 := hyy
      exact br_f (nI_pos (by omega)) (br_t (rc_2 hj).1 ⟨hin, by rw [hcl]; exact hyy', I0⟩)
    obtain ⟨f_time, f_sent, f_stageCount, f_tasks, a_sourceEnded, a_stageKind, a_stageA, a_stageB, a_stageParts, a_partStage, a_partUser, a_partX, a_partY, a_phase, a_beganAfter, a_due, a_count, a_held, a_heldY, a_hasHeld, a_hasHeldY, a_queueSize, a_queueIsOfX, a_queueValue, a_queueDue, a_subStatus, a_subCode, a_subEnd, a_subDemand, a_subRequests, a_subDelivered, a_subWaiting, a_waitValue, a_history, a_taskWhat, a_taskPart, a_taskValue⟩ := u
    have hx' : a_subStatus j = (S j).1 := hx
    unfold wpX_status
    refine xq_isId hj (br_f (by decide) ⟨hin, ?_⟩)
    rw [hcl, hx']
    exact hy
theorem rd_code {k : Nat} {u : SX} {v : SY} (I : i_Rel k u v) (v1 : Int32) : wpX_code (fun r => wpY_code (fun r' => r' = r ∧ i_Rel (k + 4) u v) v v1) u v1 := by
  have I0 := i_up I
  obtain ⟨ns, K, A, B, oa, ob, cc, t, LG, S, hck, hX, hY, hC, hSE, hJ⟩ := I
  rcases rc_id v1 with h | ⟨h, h3, h2, h2'⟩ | ⟨j, hj, rfl⟩
  · have hy : wpY_code (fun r' => r' = 0 ∧ i_Rel (k + 4) u v) v v1 := by
      obtain ⟨f_stages, f_heard, f_now, f_calls, f_parts, f_start, f_at, f_nextX, f_nextY, f_x, f_y, a_kind, a_opA, a_opB, a_heardBy, a_what, a_said, a_when, a_over, a_part, a_first, a_second, a_user, a_goStage, a_goStep, a_done, a_val, a_mom, a_cnt, a_end, a_endMom, a_begun, a_status, a_stageOf, a_began, a_taken, a_demand, a_asked, a_code, a_waits, a_waiting, a_came, a_given, a_got⟩ := v
      exact br_t h ⟨rfl, I0⟩
    obtain ⟨f_time, f_sent, f_stageCount, f_tasks, a_sourceEnded, a_stageKind, a_stageA, a_stageB, a_stageParts, a_partStage, a_partUser, a_partX, a_partY, a_phase, a_beganAfter, a_due, a_count, a_held, a_heldY, a_hasHeld, a_hasHeldY, a_queueSize, a_queueIsOfX, a_queueValue, a_queueDue, a_subStatus, a_subCode, a_subEnd, a_subDemand, a_subRequests, a_subDelivered, a_subWaiting, a_waitValue, a_history, a_taskWhat, a_taskPart, a_taskValue⟩ := u
    unfold wpX_code
    exact xq_isId0 (Or.inl h) (br_t rfl hy)
  · have hy : wpY_code (fun r' => r' = 0 ∧ i_Rel (k + 4) u v) v v1 := by
      obtain ⟨f_stages, f_heard, f_now, f_calls, f_parts, f_start, f_at, f_nextX, f_nextY, f_x, f_y, a_kind, a_opA, a_opB, a_heardBy, a_what, a_said, a_when, a_over, a_part, a_first, a_second, a_user, a_goStage, a_goStep, a_done, a_val, a_mom, a_cnt, a_end, a_endMom, a_begun, a_status, a_stageOf, a_began, a_taken, a_demand, a_asked, a_code, a_waits, a_waiting, a_came, a_given, a_got⟩ := v
      exact br_f h (br_t h2 ⟨rfl, I0⟩)
    obtain ⟨f_time, f_sent, f_stageCount, f_tasks, a_sourceEnded, a_stageKind, a_stageA, a_stageB, a_stageParts, a_partStage, a_partUser, a_partX, a_partY, a_phase, a_beganAfter, a_due, a_count, a_held, a_heldY, a_hasHeld, a_hasHeldY, a_queueSize, a_queueIsOfX, a_queueValue, a_queueDue, a_subStatus, a_subCode, a_subEnd, a_subDemand, a_subRequests, a_subDelivered, a_subWaiting, a_waitValue, a_history, a_taskWhat, a_taskPart, a_taskValue⟩ := u
    unfold wpX_code
    exact xq_isId0 (Or.inr ⟨h, h3⟩) (br_t rfl hy)
  · have hcl : (nI j).toNatClampNeg = j := nI_clamp (by omega)
    have hin : vp_in (nI j) 3 := vp_in_nI hj (by decide)
    obtain ⟨hx, hyy, _⟩ := hJ j hj
    cases hS : S j with
    | mk st r =>
    obtain ⟨co, en, dm, dv, ws, hh⟩ := r
    rw [hS] at hx hyy
    have x1 : x_subStatus u j = st := hx.1
    have x2 : x_subCode u j = co := hx.2.1
    have y1 : y_status v j = st := hyy.1
    have y2 : st = 2 → y_code v j = co := hyy.2.1
    by_cases h2 : st = 2
    · have hy : wpY_code (fun r' => r' = co ∧ i_Rel (k + 4) u v) v (nI j) := by
        have y2' := y2 h2
        obtain ⟨f_stages, f_heard, f_now, f_calls, f_parts, f_start, f_at, f_nextX, f_nextY, f_x, f_y, a_kind, a_opA, a_opB, a_heardBy, a_what, a_said, a_when, a_over, a_part, a_first, a_second, a_user, a_goStage, a_goStep, a_done, a_val, a_mom, a_cnt, a_end, a_endMom, a_begun, a_status, a_stageOf, a_began, a_taken, a_demand, a_asked, a_code, a_waits, a_waiting, a_came, a_given, a_got⟩ := v
        have y1' : a_status j = st := y1
        have y2'' : a_code j = co := y2'
        exact br_f (nI_pos (by omega)) (br_f (rc_2 hj).2 ⟨hin, br_t (by rw [hcl, y1', h2]) ⟨hin, by rw [hcl]; exact y2'', I0⟩⟩)
      obtain ⟨f_time, f_sent, f_stageCount, f_tasks, a_sourceEnded, a_stageKind, a_stageA, a_stageB, a_stageParts, a_partStage, a_partUser, a_partX, a_partY, a_phase, a_beganAfter, a_due, a_count, a_held, a_heldY, a_hasHeld, a_hasHeldY, a_queueSize, a_queueIsOfX, a_queueValue, a_queueDue, a_subStatus, a_subCode, a_subEnd, a_subDemand, a_subRequests, a_subDelivered, a_subWaiting, a_waitValue, a_history, a_taskWhat, a_taskPart, a_taskValue⟩ := u
      have x1' : a_subStatus j = st := x1
      have x2' : a_subCode j = co := x2
      unfold wpX_code
      refine xq_isId hj (br_f (by decide) ⟨hin, br_t (by rw [hcl, x1', h2]) ⟨hin, ?_⟩⟩)
      rw [hcl, x2']
      exact hy
    · have hy : wpY_code (fun r' => r' = 0 ∧ i_Rel (k + 4) u v) v (nI j) := by
        obtain ⟨f_stages, f_heard, f_now, f_calls, f_parts, f_start, f_at, f_nextX, f_nextY, f_x, f_y, a_kind, a_opA, a_opB, a_heardBy, a_what, a_said, a_when, a_over, a_part, a_first, a_second, a_user, a_goStage, a_goStep, a_done, a_val, a_mom, a_cnt, a_end, a_endMom, a_begun, a_status, a_stageOf, a_began, a_taken, a_demand, a_asked, a_code, a_waits, a_waiting, a_came, a_given, a_got⟩ := v
        have y1' : a_status j = st := y1
        exact br_f (nI_pos (by omega)) (br_f (rc_2 hj).2 ⟨hin, br_f (by rw [hcl, y1']; exact h2) ⟨rfl, I0⟩⟩)
      obtain ⟨f_time, f_sent, f_stageCount, f_tasks, a_sourceEnded, a_stageKind, a_stageA, a_stageB, a_stageParts, a_partStage, a_partUser, a_partX, a_partY, a_phase, a_beganAfter, a_due, a_count, a_held, a_heldY, a_hasHeld, a_hasHeldY, a_queueSize, a_queueIsOfX, a_queueValue, a_queueDue, a_subStatus, a_subCode, a_subEnd, a_subDemand, a_subRequests, a_subDelivered, a_subWaiting, a_waitValue, a_history, a_taskWhat, a_taskPart, a_taskValue⟩ := u
      have x1' : a_subStatus j = st := x1
      unfold wpX_code
      exact xq_isId hj (br_f (by decide) ⟨hin, br_f (by rw [hcl, x1']; exact h2) hy⟩)
theorem rd_delivered {k : Nat} {u : SX} {v : SY} (I : i_Rel k u v) (v1 : Int32) : wpX_delivered (fun r => wpY_delivered (fun r' => r' = r ∧ i_Rel (k + 4) u v) v v1) u v1 := by
  have I0 := i_up I
  obtain ⟨ns, K, A, B, oa, ob, cc, t, LG, S, hck, hX, hY, hC, hSE, hJ⟩ := I
  rcases rc_id v1 with h | ⟨h, h3, h2, h2'⟩ | ⟨j, hj, rfl⟩
  · have hy : wpY_delivered (fun r' => r' = 0 ∧ i_Rel (k + 4) u v) v v1 := by
      obtain ⟨f_stages, f_heard, f_now, f_calls, f_parts, f_start, f_at, f_nextX, f_nextY, f_x, f_y, a_kind, a_opA, a_opB, a_heardBy, a_what, a_said, a_when, a_over, a_part, a_first, a_second, a_user, a_goStage, a_goStep, a_done, a_val, a_mom, a_cnt, a_end, a_endMom, a_begun, a_status, a_stageOf, a_began, a_taken, a_demand, a_asked, a_code, a_waits, a_waiting, a_came, a_given, a_got⟩ := v
      exact br_t h ⟨rfl, I0⟩
    obtain ⟨f_time, f_sent, f_stageCount, f_tasks, a_sourceEnded, a_stageKind, a_stageA, a_stageB, a_stageParts, a_partStage, a_partUser, a_partX, a_partY, a_phase, a_beganAfter, a_due, a_count, a_held, a_heldY, a_hasHeld, a_hasHeldY, a_queueSize, a_queueIsOfX, a_queueValue, a_queueDue, a_subStatus, a_subCode, a_subEnd, a_subDemand, a_subRequests, a_subDelivered, a_subWaiting, a_waitValue, a_history, a_taskWhat, a_taskPart, a_taskValue⟩ := u
    unfold wpX_delivered
    exact xq_isId0 (Or.inl h) (br_t rfl hy)
  · have hy : wpY_delivered (fun r' => r' = 0 ∧ i_Rel (k + 4) u v) v v1 := by
      obtain ⟨f_stages, f_heard, f_now, f_calls, f_parts, f_start, f_at, f_nextX, f_nextY, f_x, f_y, a_kind, a_opA, a_opB, a_heardBy, a_what, a_said, a_when, a_over, a_part, a_first, a_second, a_user, a_goStage, a_goStep, a_done, a_val, a_mom, a_cnt, a_end, a_endMom, a_begun, a_status, a_stageOf, a_began, a_taken, a_demand, a_asked, a_code, a_waits, a_waiting, a_came, a_given, a_got⟩ := v
      exact br_f h (br_f h2' ⟨rfl, I0⟩)
    obtain ⟨f_time, f_sent, f_stageCount, f_tasks, a_sourceEnded, a_stageKind, a_stageA, a_stageB, a_stageParts, a_partStage, a_partUser, a_partX, a_partY, a_phase, a_beganAfter, a_due, a_count, a_held, a_heldY, a_hasHeld, a_hasHeldY, a_queueSize, a_queueIsOfX, a_queueValue, a_queueDue, a_subStatus, a_subCode, a_subEnd, a_subDemand, a_subRequests, a_subDelivered, a_subWaiting, a_waitValue, a_history, a_taskWhat, a_taskPart, a_taskValue⟩ := u
    unfold wpX_delivered
    exact xq_isId0 (Or.inr ⟨h, h3⟩) (br_t rfl hy)
  · have hcl : (nI j).toNatClampNeg = j := nI_clamp (by omega)
    have hin : vp_in (nI j) 3 := vp_in_nI hj (by decide)
    obtain ⟨hx, hyy, _⟩ := hJ j hj
    cases hS : S j with
    | mk st r =>
    obtain ⟨co, en, dm, dv, ws, hh⟩ := r
    rw [hS] at hx hyy
    have x1 : x_subDelivered u j = dv := hx.2.2.2.2.2.1
    have y1 : y_given v j = dv := hyy.2.2.2.1
    have hy : wpY_delivered (fun r' => r' = dv ∧ i_Rel (k + 4) u v) v (nI j) := by
      obtain ⟨f_stages, f_heard, f_now, f_calls, f_parts, f_start, f_at, f_nextX, f_nextY, f_x, f_y, a_kind, a_opA, a_opB, a_heardBy, a_what, a_said, a_when, a_over, a_part, a_first, a_second, a_user, a_goStage, a_goStep, a_done, a_val, a_mom, a_cnt, a_end, a_endMom, a_begun, a_status, a_stageOf, a_began, a_taken, a_demand, a_asked, a_code, a_waits, a_waiting, a_came, a_given, a_got⟩ := v
      have y1' : a_given j = dv := y1
      exact br_f (nI_pos (by omega)) (br_t (rc_2 hj).1 ⟨hin, by rw [hcl]; exact y1', I0⟩)
    obtain ⟨f_time, f_sent, f_stageCount, f_tasks, a_sourceEnded, a_stageKind, a_stageA, a_stageB, a_stageParts, a_partStage, a_partUser, a_partX, a_partY, a_phase, a_beganAfter, a_due, a_count, a_held, a_heldY, a_hasHeld, a_hasHeldY, a_queueSize, a_queueIsOfX, a_queueValue, a_queueDue, a_subStatus, a_subCode, a_subEnd, a_subDemand, a_subRequests, a_subDelivered, a_subWaiting, a_waitValue, a_history, a_taskWhat, a_taskPart, a_taskValue⟩ := u
    have x1' : a_subDelivered j = dv := x1
    unfold wpX_delivered
    refine xq_isId hj (br_f (by decide) ⟨hin, ?_⟩)
    rw [hcl, x1']
    exact hy
theorem rd_item {k : Nat} {u : SX} {v : SY} (I : i_Rel k u v) (v1 v2 : Int32) : wpX_item (fun r => wpY_item (fun r' => r' = r ∧ i_Rel (k + 4) u v) v v1 v2) u v1 v2 := by
  have I0 := i_up I
  obtain ⟨ns, K, A, B, oa, ob, cc, t, LG, S, hck, hX, hY, hC, hSE, hJ⟩ := I
  rcases rc_id v1 with h | ⟨h, h3, h2, h2'⟩ | ⟨j, hj, rfl⟩
  · have hy : wpY_item (fun r' => r' = -1 ∧ i_Rel (k + 4) u v) v v1 v2 := by
      obtain ⟨f_stages, f_heard, f_now, f_calls, f_parts, f_start, f_at, f_nextX, f_nextY, f_x, f_y, a_kind, a_opA, a_opB, a_heardBy, a_what, a_said, a_when, a_over, a_part, a_first, a_second, a_user, a_goStage, a_goStep, a_done, a_val, a_mom, a_cnt, a_end, a_endMom, a_begun, a_status, a_stageOf, a_began, a_taken, a_demand, a_asked, a_code, a_waits, a_waiting, a_came, a_given, a_got⟩ := v
      exact br_t h ⟨rfl, I0⟩
    obtain ⟨f_time, f_sent, f_stageCount, f_tasks, a_sourceEnded, a_stageKind, a_stageA, a_stageB, a_stageParts, a_partStage, a_partUser, a_partX, a_partY, a_phase, a_beganAfter, a_due, a_count, a_held, a_heldY, a_hasHeld, a_hasHeldY, a_queueSize, a_queueIsOfX, a_queueValue, a_queueDue, a_subStatus, a_subCode, a_subEnd, a_subDemand, a_subRequests, a_subDelivered, a_subWaiting, a_waitValue, a_history, a_taskWhat, a_taskPart, a_taskValue⟩ := u
    unfold wpX_item
    exact xq_isId0 (Or.inl h) (br_t rfl hy)
  · have hy : wpY_item (fun r' => r' = -1 ∧ i_Rel (k + 4) u v) v v1 v2 := by
      obtain ⟨f_stages, f_heard, f_now, f_calls, f_parts, f_start, f_at, f_nextX, f_nextY, f_x, f_y, a_kind, a_opA, a_opB, a_heardBy, a_what, a_said, a_when, a_over, a_part, a_first, a_second, a_user, a_goStage, a_goStep, a_done, a_val, a_mom, a_cnt, a_end, a_endMom, a_begun, a_status, a_stageOf, a_began, a_taken, a_demand, a_asked, a_code, a_waits, a_waiting, a_came, a_given, a_got⟩ := v
      exact br_f h (br_t h2 ⟨rfl, I0⟩)
    obtain ⟨f_time, f_sent, f_stageCount, f_tasks, a_sourceEnded, a_stageKind, a_stageA, a_stageB, a_stageParts, a_partStage, a_partUser, a_partX, a_partY, a_phase, a_beganAfter, a_due, a_count, a_held, a_heldY, a_hasHeld, a_hasHeldY, a_queueSize, a_queueIsOfX, a_queueValue, a_queueDue, a_subStatus, a_subCode, a_subEnd, a_subDemand, a_subRequests, a_subDelivered, a_subWaiting, a_waitValue, a_history, a_taskWhat, a_taskPart, a_taskValue⟩ := u
    unfold wpX_item
    exact xq_isId0 (Or.inr ⟨h, h3⟩) (br_t rfl hy)
  · have hcl : (nI j).toNatClampNeg = j := nI_clamp (by omega)
    have hin : vp_in (nI j) 3 := vp_in_nI hj (by decide)
    have hp := nI_pos (n := j) (by omega)
    by_cases hn : v2 < 0
    · have hy : wpY_item (fun r' => r' = -1 ∧ i_Rel (k + 4) u v) v (nI j) v2 := by
        obtain ⟨f_stages, f_heard, f_now, f_calls, f_parts, f_start, f_at, f_nextX, f_nextY, f_x, f_y, a_kind, a_opA, a_opB, a_heardBy, a_what, a_said, a_when, a_over, a_part, a_first, a_second, a_user, a_goStage, a_goStep, a_done, a_val, a_mom, a_cnt, a_end, a_endMom, a_begun, a_status, a_stageOf, a_began, a_taken, a_demand, a_asked, a_code, a_waits, a_waiting, a_came, a_given, a_got⟩ := v
        exact br_f hp (br_f (rc_2 hj).2 (br_t hn ⟨rfl, I0⟩))
      obtain ⟨f_time, f_sent, f_stageCount, f_tasks, a_sourceEnded, a_stageKind, a_stageA, a_stageB, a_stageParts, a_partStage, a_partUser, a_partX, a_partY, a_phase, a_beganAfter, a_due, a_count, a_held, a_heldY, a_hasHeld, a_hasHeldY, a_queueSize, a_queueIsOfX, a_queueValue, a_queueDue, a_subStatus, a_subCode, a_subEnd, a_subDemand, a_subRequests, a_subDelivered, a_subWaiting, a_waitValue, a_history, a_taskWhat, a_taskPart, a_taskValue⟩ := u
      unfold wpX_item
      exact xq_isId hj (br_f (by decide) (br_t hn hy))
    · obtain ⟨m, hm, rfl⟩ := nI_of hn
      by_cases h16 : 16 ≤ m
      · have hy : wpY_item (fun r' => r' = -1 ∧ i_Rel (k + 4) u v) v (nI j) (nI m) := by
          obtain ⟨f_stages, f_heard, f_now, f_calls, f_parts, f_start, f_at, f_nextX, f_nextY, f_x, f_y, a_kind, a_opA, a_opB, a_heardBy, a_what, a_said, a_when, a_over, a_part, a_first, a_second, a_user, a_goStage, a_goStep, a_done, a_val, a_mom, a_cnt, a_end, a_endMom, a_begun, a_status, a_stageOf, a_began, a_taken, a_demand, a_asked, a_code, a_waits, a_waiting, a_came, a_given, a_got⟩ := v
          exact br_f hp (br_f (rc_2 hj).2 (br_f hn (br_t (nI_lt (a := 15) (by omega) (by omega)) ⟨rfl, I0⟩)))
        obtain ⟨f_time, f_sent, f_stageCount, f_tasks, a_sourceEnded, a_stageKind, a_stageA, a_stageB, a_stageParts, a_partStage, a_partUser, a_partX, a_partY, a_phase, a_beganAfter, a_due, a_count, a_held, a_heldY, a_hasHeld, a_hasHeldY, a_queueSize, a_queueIsOfX, a_queueValue, a_queueDue, a_subStatus, a_subCode, a_subEnd, a_subDemand, a_subRequests, a_subDelivered, a_subWaiting, a_waitValue, a_history, a_taskWhat, a_taskPart, a_taskValue⟩ := u
        unfold wpX_item
        exact xq_isId hj (br_f (by decide) (br_f hn (br_t (nI_le (a := 16) h16 (by omega)) hy)))
      · have hy15 : ¬ (15 : Int32) < nI m := by
          rw [show (15 : Int32) = nI 15 from rfl, nI_ltI (by decide) (by omega)]; omega
        have hx16 : ¬ (16 : Int32) ≤ nI m := nI_ge (b := 16) (by omega) (by decide)
        obtain ⟨hx, hyy, _⟩ := hJ j hj
        cases hS : S j with
        | mk st r =>
        obtain ⟨co, en, dm, dv, ws, hh⟩ := r
        rw [hS] at hx hyy
        have x1 : x_subDelivered u j = dv := hx.2.2.2.2.2.1
        have x2 : ∀ i, i < 16 → x_history u (16 * j + i) = hh i := hx.2.2.2.2.2.2.2.2.2
        have y1 : y_given v j = dv := hyy.2.2.2.1
        have y2 : ∀ i, i < 16 → y_got v (16 * j + i) = hh i := hyy.2.2.2.2.2.2.2.1
        have hdj : ((dv - 1) - nI m) &&& 15 = nI (dj ((dv - 1) - nI m)) := pk_and _ 4 (by decide)
        have hdl : dj ((dv - 1) - nI m) < 16 := Nat.mod_lt _ (by decide)
        have ex : (nI j * 16) + (((dv - 1) - nI m) &&& 15) = nI (16 * j + dj ((dv - 1) - nI m)) := by
          rw [hdj, show (16 : Int32) = nI 16 from rfl, pk_mul, nI_add, Nat.mul_comm]
        have ey : (16 * nI j) + (((dv - 1) - nI m) &&& 15) = nI (16 * j + dj ((dv - 1) - nI m)) := by
          rw [hdj, show (16 : Int32) = nI 16 from rfl, pk_mul, nI_add]
        have hci : (nI (16 * j + dj ((dv - 1) - nI m))).toNatClampNeg = 16 * j + dj ((dv - 1) - nI m) := nI_clamp (by omega)
        have hi48 : vp_in (nI (16 * j + dj ((dv - 1) - nI m))) 48 := vp_in_nI (by omega) (by decide)
        by_cases hlt : nI m < dv
        · have hy : wpY_item (fun r' => r' = hh (dj ((dv - 1) - nI m)) ∧ i_Rel (k + 4) u v) v (nI j) (nI m) := by
            obtain ⟨f_stages, f_heard, f_now, f_calls, f_parts, f_start, f_at, f_nextX, f_nextY, f_x, f_y, a_kind, a_opA, a_opB, a_heardBy, a_what, a_said, a_when, a_over, a_part, a_first, a_second, a_user, a_goStage, a_goStep, a_done, a_val, a_mom, a_cnt, a_end, a_endMom, a_begun, a_status, a_stageOf, a_began, a_taken, a_demand, a_asked, a_code, a_waits, a_waiting, a_came, a_given, a_got⟩ := v
            have y1' : a_given j = dv := y1
            have y2' := y2 _ hdl
            refine br_f hp (br_f (rc_2 hj).2 (br_f hn (br_f hy15 ⟨hin, ?_⟩)))
            rw [hcl, y1', ey, hci]
            exact br_t hlt ⟨hin, hi48, y2', I0⟩
          obtain ⟨f_time, f_sent, f_stageCount, f_tasks, a_sourceEnded, a_stageKind, a_stageA, a_stageB, a_stageParts, a_partStage, a_partUser, a_partX, a_partY, a_phase, a_beganAfter, a_due, a_count, a_held, a_heldY, a_hasHeld, a_hasHeldY, a_queueSize, a_queueIsOfX, a_queueValue, a_queueDue, a_subStatus, a_subCode, a_subEnd, a_subDemand, a_subRequests, a_subDelivered, a_subWaiting, a_waitValue, a_history, a_taskWhat, a_taskPart, a_taskValue⟩ := u
          have x1' : a_subDelivered j = dv := x1
          have x2' : a_history (16 * j + dj ((dv - 1) - nI m)) = hh (dj ((dv - 1) - nI m)) := x2 _ hdl
          unfold wpX_item
          refine xq_isId hj (br_f (by decide) (br_f hn (br_f hx16 ⟨hin, ?_⟩)))
          rw [hcl, x1', ex, hci, x2']
          exact br_t hlt ⟨hin, hi48, hy⟩
        · have hy : wpY_item (fun r' => r' = -1 ∧ i_Rel (k + 4) u v) v (nI j) (nI m) := by
            obtain ⟨f_stages, f_heard, f_now, f_calls, f_parts, f_start, f_at, f_nextX, f_nextY, f_x, f_y, a_kind, a_opA, a_opB, a_heardBy, a_what, a_said, a_when, a_over, a_part, a_first, a_second, a_user, a_goStage, a_goStep, a_done, a_val, a_mom, a_cnt, a_end, a_endMom, a_begun, a_status, a_stageOf, a_began, a_taken, a_demand, a_asked, a_code, a_waits, a_waiting, a_came, a_given, a_got⟩ := v
            have y1' : a_given j = dv := y1
            exact br_f hp (br_f (rc_2 hj).2 (br_f hn (br_f hy15 ⟨hin, br_f (by rw [hcl, y1']; exact hlt) ⟨rfl, I0⟩⟩)))
          obtain ⟨f_time, f_sent, f_stageCount, f_tasks, a_sourceEnded, a_stageKind, a_stageA, a_stageB, a_stageParts, a_partStage, a_partUser, a_partX, a_partY, a_phase, a_beganAfter, a_due, a_count, a_held, a_heldY, a_hasHeld, a_hasHeldY, a_queueSize, a_queueIsOfX, a_queueValue, a_queueDue, a_subStatus, a_subCode, a_subEnd, a_subDemand, a_subRequests, a_subDelivered, a_subWaiting, a_waitValue, a_history, a_taskWhat, a_taskPart, a_taskValue⟩ := u
          have x1' : a_subDelivered j = dv := x1
          unfold wpX_item
          exact xq_isId hj (br_f (by decide) (br_f hn (br_f hx16 ⟨hin, br_f (by rw [hcl, x1']; exact hlt) hy⟩)))
theorem rd_pending {k : Nat} {u : SX} {v : SY} (I : i_Rel k u v) (v1 : Int32) : wpX_pending (fun r => wpY_pending (fun r' => r' = r ∧ i_Rel (k + 4) u v) v v1) u v1 := by
  have I0 := i_up I
  obtain ⟨ns, K, A, B, oa, ob, cc, t, LG, S, hck, hX, hY, hC, hSE, hJ⟩ := I
  have hout : v1 < 0 ∨ (¬ v1 < 0 ∧ 3 ≤ v1) → wpX_pending (fun r => wpY_pending (fun r' => r' = r ∧ i_Rel (k + 4) u v) v v1) u v1 := by
    intro h
    have hy : wpY_pending (fun r' => r' = 0 ∧ i_Rel (k + 4) u v) v v1 := by
      obtain ⟨f_stages, f_heard, f_now, f_calls, f_parts, f_start, f_at, f_nextX, f_nextY, f_x, f_y, a_kind, a_opA, a_opB, a_heardBy, a_what, a_said, a_when, a_over, a_part, a_first, a_second, a_user, a_goStage, a_goStep, a_done, a_val, a_mom, a_cnt, a_end, a_endMom, a_begun, a_status, a_stageOf, a_began, a_taken, a_demand, a_asked, a_code, a_waits, a_waiting, a_came, a_given, a_got⟩ := v
      unfold wpY_pending
      exact yq_act0 h (br_t rfl ⟨rfl, I0⟩)
    obtain ⟨f_time, f_sent, f_stageCount, f_tasks, a_sourceEnded, a_stageKind, a_stageA, a_stageB, a_stageParts, a_partStage, a_partUser, a_partX, a_partY, a_phase, a_beganAfter, a_due, a_count, a_held, a_heldY, a_hasHeld, a_hasHeldY, a_queueSize, a_queueIsOfX, a_queueValue, a_queueDue, a_subStatus, a_subCode, a_subEnd, a_subDemand, a_subRequests, a_subDelivered, a_subWaiting, a_waitValue, a_history, a_taskWhat, a_taskPart, a_taskValue⟩ := u
    unfold wpX_pending
    exact xq_act0 h (br_t rfl hy)
  rcases rc_id v1 with h | ⟨h, h3, h2, h2'⟩ | ⟨j, hj, rfl⟩
  · exact hout (Or.inl h)
  · exact hout (Or.inr ⟨h, h3⟩)
  · have hcl : (nI j).toNatClampNeg = j := nI_clamp (by omega)
    have hin : vp_in (nI j) 3 := vp_in_nI hj (by decide)
    obtain ⟨hx, hyy, _⟩ := hJ j hj
    cases hS : S j with
    | mk st r =>
    obtain ⟨co, en, dm, dv, ws, hh⟩ := r
    rw [hS] at hx hyy
    have x1 : x_subDemand u j = dm := hx.2.2.2.2.1
    have x2 : x_subWaiting u j = nI ws.length := hx.2.2.2.2.2.2.1
    have y1 : y_demand v j = dm := hyy.2.2.1
    have y2 : y_waits v j = nI ws.length := hyy.2.2.2.2.1
    by_cases h0 : st = 0
    · by_cases h15 : dm ≤ 15
      · have hy : wpY_pending (fun r' => r' = 16 * nI ws.length + dm.toInt32 ∧ i_Rel (k + 4) u v) v (nI j) := by
          obtain ⟨f_stages, f_heard, f_now, f_calls, f_parts, f_start, f_at, f_nextX, f_nextY, f_x, f_y, a_kind, a_opA, a_opB, a_heardBy, a_what, a_said, a_when, a_over, a_part, a_first, a_second, a_user, a_goStage, a_goStep, a_done, a_val, a_mom, a_cnt, a_end, a_endMom, a_begun, a_status, a_stageOf, a_began, a_taken, a_demand, a_asked, a_code, a_waits, a_waiting, a_came, a_given, a_got⟩ := v
          have y1' : a_demand j = dm := y1
          have y2' : a_waits j = nI ws.length := y2
          unfold wpY_pending
          refine yq_act hj hyy (fun _ => br_f (by decide) ⟨hin, hin, ?_⟩) (fun y => absurd h0 y)
          rw [hcl, y1', y2']
          exact br_t h15 ⟨hin, rfl, I0⟩
        obtain ⟨f_time, f_sent, f_stageCount, f_tasks, a_sourceEnded, a_stageKind, a_stageA, a_stageB, a_stageParts, a_partStage, a_partUser, a_partX, a_partY, a_phase, a_beganAfter, a_due, a_count, a_held, a_heldY, a_hasHeld, a_hasHeldY, a_queueSize, a_queueIsOfX, a_queueValue, a_queueDue, a_subStatus, a_subCode, a_subEnd, a_subDemand, a_subRequests, a_subDelivered, a_subWaiting, a_waitValue, a_history, a_taskWhat, a_taskPart, a_taskValue⟩ := u
        have x1' : a_subDemand j = dm := x1
        have x2' : a_subWaiting j = nI ws.length := x2
        unfold wpX_pending
        refine xq_act hj hx (fun _ => br_f (by decide) ⟨hin, br_t (by rw [hcl, x1']; exact h15) ⟨hin, hin, ?_⟩⟩) (fun y => absurd h0 y)
        rw [hcl, x1', x2']
        exact hy
      · have hy : wpY_pending (fun r' => r' = 16 * nI ws.length + 15 ∧ i_Rel (k + 4) u v) v (nI j) := by
          obtain ⟨f_stages, f_heard, f_now, f_calls, f_parts, f_start, f_at, f_nextX, f_nextY, f_x, f_y, a_kind, a_opA, a_opB, a_heardBy, a_what, a_said, a_when, a_over, a_part, a_first, a_second, a_user, a_goStage, a_goStep, a_done, a_val, a_mom, a_cnt, a_end, a_endMom, a_begun, a_status, a_stageOf, a_began, a_taken, a_demand, a_asked, a_code, a_waits, a_waiting, a_came, a_given, a_got⟩ := v
          have y1' : a_demand j = dm := y1
          have y2' : a_waits j = nI ws.length := y2
          unfold wpY_pending
          refine yq_act hj hyy (fun _ => br_f (by decide) ⟨hin, hin, ?_⟩) (fun y => absurd h0 y)
          rw [hcl, y1', y2']
          exact br_f h15 ⟨rfl, I0⟩
        obtain ⟨f_time, f_sent, f_stageCount, f_tasks, a_sourceEnded, a_stageKind, a_stageA, a_stageB, a_stageParts, a_partStage, a_partUser, a_partX, a_partY, a_phase, a_beganAfter, a_due, a_count, a_held, a_heldY, a_hasHeld, a_hasHeldY, a_queueSize, a_queueIsOfX, a_queueValue, a_queueDue, a_subStatus, a_subCode, a_subEnd, a_subDemand, a_subRequests, a_subDelivered, a_subWaiting, a_waitValue, a_history, a_taskWhat, a_taskPart, a_taskValue⟩ := u
        have x1' : a_subDemand j = dm := x1
        have x2' : a_subWaiting j = nI ws.length := x2
        unfold wpX_pending
        refine xq_act hj hx (fun _ => br_f (by decide) ⟨hin, br_f (by rw [hcl, x1']; exact h15) ⟨hin, ?_⟩⟩) (fun y => absurd h0 y)
        rw [hcl, x2']
        exact hy
    · have hy : wpY_pending (fun r' => r' = 0 ∧ i_Rel (k + 4) u v) v (nI j) := by
        obtain ⟨f_stages, f_heard, f_now, f_calls, f_parts, f_start, f_at, f_nextX, f_nextY, f_x, f_y, a_kind, a_opA, a_opB, a_heardBy, a_what, a_said, a_when, a_over, a_part, a_first, a_second, a_user, a_goStage, a_goStep, a_done, a_val, a_mom, a_cnt, a_end, a_endMom, a_begun, a_status, a_stageOf, a_began, a_taken, a_demand, a_asked, a_code, a_waits, a_waiting, a_came, a_given, a_got⟩ := v
        unfold wpY_pending
        exact yq_act hj hyy (fun y => absurd y h0) (fun _ => br_t rfl ⟨rfl, I0⟩)
      obtain ⟨f_time, f_sent, f_stageCount, f_tasks, a_sourceEnded, a_stageKind, a_stageA, a_stageB, a_stageParts, a_partStage, a_partUser, a_partX, a_partY, a_phase, a_beganAfter, a_due, a_count, a_held, a_heldY, a_hasHeld, a_hasHeldY, a_queueSize, a_queueIsOfX, a_queueValue, a_queueDue, a_subStatus, a_subCode, a_subEnd, a_subDemand, a_subRequests, a_subDelivered, a_subWaiting, a_waitValue, a_history, a_taskWhat, a_taskPart, a_taskValue⟩ := u
      unfold wpX_pending
      exact xq_act hj hx (fun y => absurd y h0) (fun _ => br_t rfl hy)
