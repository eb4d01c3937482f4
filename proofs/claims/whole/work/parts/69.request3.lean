theorem xr_setR {u u' : SX} {f : Nat → Int32} (h : x_st2 u' = setR f (x_st2 u)) : x_time u' = x_time u ∧ x_sent u' = x_sent u ∧ x_sourceEnded u' = x_sourceEnded u ∧ x_subRequests u' = f :=
  ⟨congrArg (fun w => w.1) h, congrArg (fun w => w.2.1) h, congrArg (fun w => w.2.2.2.1) h, congrArg (fun w => w.2.2.2.2.2.2.2.2.2.2.2.2) h⟩
theorem xr_txR {ns : Nat} {K A B : Nat → Nat} {oa ob : Nat → Int32} {z : St2} {f : Nat → Int32} (h : TXt ns K A B oa ob z) : TXt ns K A B oa ob (setR f z) := by
  obtain ⟨ti, se, sc, so, sk, sa, sb, sp, ps, pu, px, py, sr⟩ := z
  exact h
theorem sa_setR {id ns : Nat} {z : St2} {f : Nat → Int32} : SA id ns z (setR f z) := by
  obtain ⟨ti, se, sc, so, sk, sa, sb, sp, ps, pu, px, py, sr⟩ := z
  exact ⟨rfl, rfl, fun _ _ => ⟨rfl, rfl, rfl⟩, fun _ _ _ => ⟨rfl, rfl, rfl, rfl⟩⟩
theorem rq_en {z0 : Option (Int32 × Nat)} {co : Int32} {en : Nat} {dm : Int64} {dv : Int32} {ws : List Int32} {hh : Nat → Int64} (hz : zok z0) (h : ENZ z0 (0, co, en, dm, dv, ws, hh)) : en = 0 ∨ (en = 2 ∧ co = 0) ∨ (en = 3 ∧ ∃ j : Nat, 1 ≤ j ∧ j ≤ 9 ∧ co = nI j) := by
  obtain ⟨e1, e2⟩ := h rfl
  cases z0 with
  | none => exact Or.inl (e1 rfl)
  | some w =>
    obtain ⟨f1, f2, f3⟩ := e2 w rfl
    have f1' : en = (if w.1 = 0 then 2 else 3) := f1
    have f2' : co = w.1 := f2
    rcases yx_fin3 hz rfl with ⟨p1, p2⟩ | ⟨p1, j, p2, p3, p4⟩
    · exact Or.inr (Or.inl ⟨f1'.trans p1, f2'.trans p2⟩)
    · exact Or.inr (Or.inr ⟨f1'.trans p1, j, p2, p3, f2'.trans p4⟩)
theorem rd_request {k : Nat} {u : SX} {v : SY} (I : i_Rel k u v) (v1 : Int32) (n : Int64) : wpX_request (fun r u' => wpY_request (fun r' v' => r' = r ∧ i_Rel (k + 4) u' v') v v1 n) u v1 n := by
  have I0 := i_up I
  obtain ⟨ns, K, A, B, oa, ob, cc, t, LG, S, hck, hX, hY, hC, hSE, hJ⟩ := I
  have ht := hC.1
  have hout : v1 < 0 ∨ (¬ v1 < 0 ∧ 3 ≤ v1) → wpX_request (fun r u' => wpY_request (fun r' v' => r' = r ∧ i_Rel (k + 4) u' v') v v1 n) u v1 n := by
    intro h
    have hy : wpY_request (fun r' v' => r' = 0 ∧ i_Rel (k + 4) u v') v v1 n := by
      obtain ⟨f_stages, f_heard, f_now, f_calls, f_parts, f_start, f_at, f_nextX, f_nextY, f_x, f_y, a_kind, a_opA, a_opB, a_heardBy, a_what, a_said, a_when, a_over, a_part, a_first, a_second, a_user, a_goStage, a_goStep, a_done, a_val, a_mom, a_cnt, a_end, a_endMom, a_begun, a_status, a_stageOf, a_began, a_taken, a_demand, a_asked, a_code, a_waits, a_waiting, a_came, a_given, a_got⟩ := v
      unfold wpY_request
      exact yq_act0 h (br_t rfl ⟨rfl, I0⟩)
    obtain ⟨f_time, f_sent, f_stageCount, f_tasks, a_sourceEnded, a_stageKind, a_stageA, a_stageB, a_stageParts, a_partStage, a_partUser, a_partX, a_partY, a_phase, a_beganAfter, a_due, a_count, a_held, a_heldY, a_hasHeld, a_hasHeldY, a_queueSize, a_queueIsOfX, a_queueValue, a_queueDue, a_subStatus, a_subCode, a_subEnd, a_subDemand, a_subRequests, a_subDelivered, a_subWaiting, a_waitValue, a_history, a_taskWhat, a_taskPart, a_taskValue⟩ := u
    unfold wpX_request
    exact xq_act0 h (br_t rfl hy)
  rcases rc_id v1 with h | ⟨h, h3, h2, h2'⟩ | ⟨j, hj, rfl⟩
  · exact hout (Or.inl h)
  · exact hout (Or.inr ⟨h, h3⟩)
  · have hcl : (nI j).toNatClampNeg = j := nI_clamp (by omega)
    have hin : vp_in (nI j) 3 := vp_in_nI hj (by decide)
    obtain ⟨hx, hyy, hq1, ⟨r, hr32, har⟩, hact⟩ := hJ j hj
    by_cases h0 : (S j).1 = 0
    · by_cases hr : r < 32
      · obtain ⟨d, _, _, _, ⟨L0, z0, b1, b2, b3, b4⟩, _, _⟩ := hact h0
        cases hS : S j with
        | mk st rr =>
        obtain ⟨co, en, dm, dv, ws, hh⟩ := rr
        rw [hS] at hx hyy h0 b3
        have h0' : st = 0 := h0
        subst h0'
        have hen := rq_en b2 b3
        refine xd_req hj hX.2.1 hr (hq1.trans har) hx (fun u' g1 g2 g3 g4 g5 g6 => ?_)
        have xs := xr_setR g1
        refine yd_req hj (by omega) hY.2.2.1 hr har hyy hen (fun v2 o hW ha => ⟨rfl, ?_⟩)
        obtain ⟨o1, o2, o3, o4, o5, o6, o7, o8⟩ := o
        refine rl_one (s1 := srq t n (0, co, en, dm, dv, ws, hh)) hj (by rw [hS]) (Nat.le_trans hck (Nat.le_add_right _ _)) hX hY hC hSE hJ (fun i => by rw [g1]; exact sa_setR) ⟨by rw [g1]; exact xr_txR hX.1, xs.1.trans hX.2.1, xs.2.1.trans hX.2.2.1, ow_tk g4 hX.2.2.2⟩ xs.2.2.1 (fun i hi => by rw [xs.2.2.2, pk_un hi]) g2 g3 g5 g6 o1 o2 o3 o4 o5 o6 hW o7 o8 (fun i hi => by rw [ha, pk_un hi]) (by rw [xs.2.2.2, ha, pk_us, pk_us]) ⟨r + 1, by omega, by rw [ha, pk_us]⟩ (fun z hz => ?_)
        rw [hS] at hz
        exact sr_enz rfl hz
      · have er : r = 32 := by omega
        have hy : wpY_request (fun r' v' => r' = 0 ∧ i_Rel (k + 4) u v') v (nI j) n := by
          obtain ⟨f_stages, f_heard, f_now, f_calls, f_parts, f_start, f_at, f_nextX, f_nextY, f_x, f_y, a_kind, a_opA, a_opB, a_heardBy, a_what, a_said, a_when, a_over, a_part, a_first, a_second, a_user, a_goStage, a_goStep, a_done, a_val, a_mom, a_cnt, a_end, a_endMom, a_begun, a_status, a_stageOf, a_began, a_taken, a_demand, a_asked, a_code, a_waits, a_waiting, a_came, a_given, a_got⟩ := v
          have har' : a_asked j = nI r := har
          unfold wpY_request
          exact yq_act hj hyy (fun _ => br_f (by decide) ⟨hin, br_t (by rw [hcl, har', er]; rfl) ⟨rfl, I0⟩⟩) (fun y => absurd h0 y)
        have hq := hq1.trans har
        obtain ⟨f_time, f_sent, f_stageCount, f_tasks, a_sourceEnded, a_stageKind, a_stageA, a_stageB, a_stageParts, a_partStage, a_partUser, a_partX, a_partY, a_phase, a_beganAfter, a_due, a_count, a_held, a_heldY, a_hasHeld, a_hasHeldY, a_queueSize, a_queueIsOfX, a_queueValue, a_queueDue, a_subStatus, a_subCode, a_subEnd, a_subDemand, a_subRequests, a_subDelivered, a_subWaiting, a_waitValue, a_history, a_taskWhat, a_taskPart, a_taskValue⟩ := u
        have hq' : a_subRequests j = nI r := hq
        unfold wpX_request
        exact xq_act hj hx (fun _ => br_f (by decide) ⟨hin, br_f (by rw [hcl, hq', er]; decide) hy⟩) (fun y => absurd h0 y)
    · have hy : wpY_request (fun r' v' => r' = 0 ∧ i_Rel (k + 4) u v') v (nI j) n := by
        obtain ⟨f_stages, f_heard, f_now, f_calls, f_parts, f_start, f_at, f_nextX, f_nextY, f_x, f_y, a_kind, a_opA, a_opB, a_heardBy, a_what, a_said, a_when, a_over, a_part, a_first, a_second, a_user, a_goStage, a_goStep, a_done, a_val, a_mom, a_cnt, a_end, a_endMom, a_begun, a_status, a_stageOf, a_began, a_taken, a_demand, a_asked, a_code, a_waits, a_waiting, a_came, a_given, a_got⟩ := v
        unfold wpY_request
        exact yq_act hj hyy (fun y => absurd y h0) (fun _ => br_t rfl ⟨rfl, I0⟩)
      obtain ⟨f_time, f_sent, f_stageCount, f_tasks, a_sourceEnded, a_stageKind, a_stageA, a_stageB, a_stageParts, a_partStage, a_partUser, a_partX, a_partY, a_phase, a_beganAfter, a_due, a_count, a_held, a_heldY, a_hasHeld, a_hasHeldY, a_queueSize, a_queueIsOfX, a_queueValue, a_queueDue, a_subStatus, a_subCode, a_subEnd, a_subDemand, a_subRequests, a_subDelivered, a_subWaiting, a_waitValue, a_history, a_taskWhat, a_taskPart, a_taskValue⟩ := u
      unfold wpX_request
      exact xq_act hj hx (fun y => absurd y h0) (fun _ => br_t rfl hy)
