/-! ===== stage ===== -/
section
variable {f_time : Int32} {f_sent : Int32} {f_stageCount : Int32} {f_tasks : Int32} {a_sourceEnded : (Nat → Int32)} {a_stageKind : (Nat → Int32)} {a_stageA : (Nat → Int32)} {a_stageB : (Nat → Int32)} {a_stageParts : (Nat → Int32)} {a_partStage : (Nat → Int32)} {a_partUser : (Nat → Int32)} {a_partX : (Nat → Int32)} {a_partY : (Nat → Int32)} {a_phase : (Nat → Int32)} {a_beganAfter : (Nat → Int32)} {a_due : (Nat → Int32)} {a_count : (Nat → Int32)} {a_held : (Nat → Int32)} {a_heldY : (Nat → Int32)} {a_hasHeld : (Nat → Int32)} {a_hasHeldY : (Nat → Int32)} {a_queueSize : (Nat → Int32)} {a_queueIsOfX : (Nat → Int32)} {a_queueValue : (Nat → Int32)} {a_queueDue : (Nat → Int32)} {a_subStatus : (Nat → Int32)} {a_subCode : (Nat → Int32)} {a_subEnd : (Nat → Int32)} {a_subDemand : (Nat → Int64)} {a_subRequests : (Nat → Int32)} {a_subDelivered : (Nat → Int32)} {a_subWaiting : (Nat → Int32)} {a_waitValue : (Nat → Int32)} {a_history : (Nat → Int64)} {a_taskWhat : (Nat → Int32)} {a_taskPart : (Nat → Int32)} {a_taskValue : (Nat → Int32)}
theorem xg_stage {post : Int32 → SX → Prop} {ns kn : Nat} {a b : Int32} {K A B : Nat → Nat} {oa ob : Nat → Int32} (hX : TXt ns K A B oa ob (x_st2 (f_time, f_sent, f_stageCount, f_tasks, a_sourceEnded, a_stageKind, a_stageA, a_stageB, a_stageParts, a_partStage, a_partUser, a_partX, a_partY, a_phase, a_beganAfter, a_due, a_count, a_held, a_heldY, a_hasHeld, a_hasHeldY, a_queueSize, a_queueIsOfX, a_queueValue, a_queueDue, a_subStatus, a_subCode, a_subEnd, a_subDemand, a_subRequests, a_subDelivered, a_subWaiting, a_waitValue, a_history, a_taskWhat, a_taskPart, a_taskValue))) (hn : ns < 12) (hq : ftq ns kn a b)
    (KK : ∀ sp' : Nat → Int32, (∀ σ, σ < ns → sp' σ = a_stageParts σ) → sp' ns = nI (if kn < 3 then 1 else if kn < 16 then 1 + sz K A B (cl a) else 1 + sz K A B (cl a) + sz K A B (cl b)) → post (nI ns) (f_time, f_sent, nI (ns + 1), f_tasks, a_sourceEnded, upd a_stageKind ns (nI kn), upd a_stageA ns a, upd a_stageB ns b, sp', a_partStage, a_partUser, a_partX, a_partY, a_phase, a_beganAfter, a_due, a_count, a_held, a_heldY, a_hasHeld, a_hasHeldY, a_queueSize, a_queueIsOfX, a_queueValue, a_queueDue, a_subStatus, a_subCode, a_subEnd, a_subDemand, a_subRequests, a_subDelivered, a_subWaiting, a_waitValue, a_history, a_taskWhat, a_taskPart, a_taskValue)) : wpX_stage post (f_time, f_sent, f_stageCount, f_tasks, a_sourceEnded, a_stageKind, a_stageA, a_stageB, a_stageParts, a_partStage, a_partUser, a_partX, a_partY, a_phase, a_beganAfter, a_due, a_count, a_held, a_heldY, a_hasHeld, a_hasHeldY, a_queueSize, a_queueIsOfX, a_queueValue, a_queueDue, a_subStatus, a_subCode, a_subEnd, a_subDemand, a_subRequests, a_subDelivered, a_subWaiting, a_waitValue, a_history, a_taskWhat, a_taskPart, a_taskValue) (nI kn) a b := by
  obtain ⟨hTB, hsc, htab⟩ := hX
  have hsc' : f_stageCount = nI ns := hsc
  have hsp : ∀ σ, σ < ns → a_stageParts σ = nI (sz K A B σ) := fun σ hσ => (htab σ hσ).2.2.2.1
  subst hsc'
  have hc : (nI ns).toNatClampNeg = ns := nI_clamp (by omega)
  have hin : vp_in (nI ns) 12 := vp_in_nI hn (by decide)
  have hk20 := hq.1.1
  unfold wpX_stage
  refine xf_fits (ns := ns) (by omega) rfl (fun k2 h20 e q => ?_) (fun h => absurd hq (h kn hq.1.1 rfl))
  refine br_f (by decide) (br_t (nI_lt (b := 12) hn (by decide)) ⟨hin, nm_r (e' := upd a_stageKind ns (nI kn)) (by rw [hc]) ⟨hin, nm_r (e' := upd a_stageA ns a) (by rw [hc]) ⟨hin, nm_r (e' := upd a_stageB ns b) (by rw [hc]) ⟨hin, nm_r (e' := upd a_stageParts ns (nI 1)) (by rw [hc]; rfl) ?_⟩⟩⟩⟩)
  have h106 : ∀ sp' : Nat → Int32, (∀ σ, σ < ns → sp' σ = a_stageParts σ) → sp' ns = nI (if kn < 3 then 1 else if kn < 16 then 1 + sz K A B (cl a) else 1 + sz K A B (cl a) + sz K A B (cl b)) → wX_stage_106 post (nI ns) f_time f_sent (nI ns) f_tasks a_sourceEnded (upd a_stageKind ns (nI kn)) (upd a_stageA ns a) (upd a_stageB ns b) (sp') a_partStage a_partUser a_partX a_partY a_phase a_beganAfter a_due a_count a_held a_heldY a_hasHeld a_hasHeldY a_queueSize a_queueIsOfX a_queueValue a_queueDue a_subStatus a_subCode a_subEnd a_subDemand a_subRequests a_subDelivered a_subWaiting a_waitValue a_history a_taskWhat a_taskPart a_taskValue := fun sp' p1 p2 => nm_r (nI_1 ns) (KK sp' p1 p2)
  by_cases k3 : kn < 3
  · refine br_t (nI_le (b := 2) (by omega) (by decide)) (br_t (nI_lt (b := 16) (by omega) (by decide)) (h106 _ (fun σ hσ => pk_un (by omega)) (by rw [pk_us, if_pos k3])))
  · have ha := hq.2.1 (by omega)
    have hina : vp_in a 12 := by rw [ha.2]; exact vp_in_nI (by omega) (by decide)
    have hca : a.toNatClampNeg = cl a := rfl
    refine br_f (nI_ge (a := 2) (by omega) (by omega)) ⟨hin, hina, hin, nm_r (e' := upd (upd a_stageParts ns (nI 1)) ns (nI (1 + sz K A B (cl a)))) (by rw [hc, hca, pk_us, pk_un (by omega), hsp (cl a) ha.1, nI_add]) ?_⟩
    by_cases k16 : kn < 16
    · refine br_t (nI_lt (b := 16) k16 (by decide)) (h106 _ (fun σ hσ => by rw [pk_un (by omega), pk_un (by omega)]) (by rw [pk_us, if_neg k3, if_pos k16]))
    · have hb := hq.2.2 (by omega)
      have hinb : vp_in b 12 := by rw [hb.2]; exact vp_in_nI (by omega) (by decide)
      have hcb : b.toNatClampNeg = cl b := rfl
      refine br_f (by rw [show (16 : Int32) = nI 16 from rfl, nI_ltI (by omega) (by decide)]; exact k16) ⟨hin, hinb, hin, nm_r (e' := upd (upd (upd a_stageParts ns (nI 1)) ns (nI (1 + sz K A B (cl a)))) ns (nI (1 + sz K A B (cl a) + sz K A B (cl b)))) (by rw [hc, hcb, pk_us, pk_un (by omega), pk_un (by omega), hsp (cl b) hb.1, nI_add]) ?_⟩
      exact h106 _ (fun σ hσ => by rw [pk_un (by omega), pk_un (by omega), pk_un (by omega)]) (by rw [pk_us, if_neg k3, if_neg k16])
end
section
variable {f_stages : Int32} {f_heard : Int32} {f_now : Int32} {f_calls : Int64} {f_parts : Int32} {f_start : Int64} {f_at : Int32} {f_nextX : Int32} {f_nextY : Int32} {f_x : Int32} {f_y : Int32} {a_kind : (Nat → Int32)} {a_opA : (Nat → Int32)} {a_opB : (Nat → Int32)} {a_heardBy : (Nat → Int32)} {a_what : (Nat → Int32)} {a_said : (Nat → Int32)} {a_when : (Nat → Int64)} {a_over : (Nat → Int32)} {a_part : (Nat → Int32)} {a_first : (Nat → Int32)} {a_second : (Nat → Int32)} {a_user : (Nat → Int32)} {a_goStage : (Nat → Int32)} {a_goStep : (Nat → Int32)} {a_done : (Nat → Int32)} {a_val : (Nat → Int32)} {a_mom : (Nat → Int64)} {a_cnt : (Nat → Int32)} {a_end : (Nat → Int32)} {a_endMom : (Nat → Int64)} {a_begun : (Nat → Int32)} {a_status : (Nat → Int32)} {a_stageOf : (Nat → Int32)} {a_began : (Nat → Int64)} {a_taken : (Nat → Int32)} {a_demand : (Nat → Int64)} {a_asked : (Nat → Int32)} {a_code : (Nat → Int32)} {a_waits : (Nat → Int32)} {a_waiting : (Nat → Int32)} {a_came : (Nat → Int32)} {a_given : (Nat → Int32)} {a_got : (Nat → Int64)}
theorem yg_stage {post : Int32 → SY → Prop} {ns kn : Nat} {a b : Int32} (hsc : f_stages = nI ns) (hn : ns < 12) (hq : ftq ns kn a b)
    (KK : post (nI ns) (nI (ns + 1), f_heard, f_now, f_calls, f_parts, f_start, f_at, f_nextX, f_nextY, f_x, f_y, upd a_kind ns (nI kn), upd a_opA ns a, upd a_opB ns b, a_heardBy, a_what, a_said, a_when, a_over, a_part, a_first, a_second, a_user, a_goStage, a_goStep, a_done, a_val, a_mom, a_cnt, a_end, a_endMom, a_begun, a_status, a_stageOf, a_began, a_taken, a_demand, a_asked, a_code, a_waits, a_waiting, a_came, a_given, a_got)) : wpY_stage post (f_stages, f_heard, f_now, f_calls, f_parts, f_start, f_at, f_nextX, f_nextY, f_x, f_y, a_kind, a_opA, a_opB, a_heardBy, a_what, a_said, a_when, a_over, a_part, a_first, a_second, a_user, a_goStage, a_goStep, a_done, a_val, a_mom, a_cnt, a_end, a_endMom, a_begun, a_status, a_stageOf, a_began, a_taken, a_demand, a_asked, a_code, a_waits, a_waiting, a_came, a_given, a_got) (nI kn) a b := by
  subst hsc
  have hc : (nI ns).toNatClampNeg = ns := nI_clamp (by omega)
  have hin : vp_in (nI ns) 12 := vp_in_nI hn (by decide)
  unfold wpY_stage
  refine yf_fits (ns := ns) (by omega) rfl (fun k2 h20 e q => ?_) (fun h => absurd hq (h kn hq.1.1 rfl))
  refine br_f (by decide) (br_f (by rw [show (12 : Int32) = nI 12 from rfl, nI_eq (by omega) (by decide)]; omega) ⟨hin, nm_r (e' := upd a_kind ns (nI kn)) (by rw [hc]) ⟨hin, nm_r (e' := upd a_opA ns a) (by rw [hc]) ⟨hin, nm_r (e' := upd a_opB ns b) (by rw [hc]) (nm_r (nI_1 ns) KK)⟩⟩⟩)
theorem ye_stages : y_stages (f_stages, f_heard, f_now, f_calls, f_parts, f_start, f_at, f_nextX, f_nextY, f_x, f_y, a_kind, a_opA, a_opB, a_heardBy, a_what, a_said, a_when, a_over, a_part, a_first, a_second, a_user, a_goStage, a_goStep, a_done, a_val, a_mom, a_cnt, a_end, a_endMom, a_begun, a_status, a_stageOf, a_began, a_taken, a_demand, a_asked, a_code, a_waits, a_waiting, a_came, a_given, a_got) = f_stages := rfl
theorem ye_kab : y_kind (f_stages, f_heard, f_now, f_calls, f_parts, f_start, f_at, f_nextX, f_nextY, f_x, f_y, a_kind, a_opA, a_opB, a_heardBy, a_what, a_said, a_when, a_over, a_part, a_first, a_second, a_user, a_goStage, a_goStep, a_done, a_val, a_mom, a_cnt, a_end, a_endMom, a_begun, a_status, a_stageOf, a_began, a_taken, a_demand, a_asked, a_code, a_waits, a_waiting, a_came, a_given, a_got) = a_kind ∧ y_opA (f_stages, f_heard, f_now, f_calls, f_parts, f_start, f_at, f_nextX, f_nextY, f_x, f_y, a_kind, a_opA, a_opB, a_heardBy, a_what, a_said, a_when, a_over, a_part, a_first, a_second, a_user, a_goStage, a_goStep, a_done, a_val, a_mom, a_cnt, a_end, a_endMom, a_begun, a_status, a_stageOf, a_began, a_taken, a_demand, a_asked, a_code, a_waits, a_waiting, a_came, a_given, a_got) = a_opA ∧ y_opB (f_stages, f_heard, f_now, f_calls, f_parts, f_start, f_at, f_nextX, f_nextY, f_x, f_y, a_kind, a_opA, a_opB, a_heardBy, a_what, a_said, a_when, a_over, a_part, a_first, a_second, a_user, a_goStage, a_goStep, a_done, a_val, a_mom, a_cnt, a_end, a_endMom, a_begun, a_status, a_stageOf, a_began, a_taken, a_demand, a_asked, a_code, a_waits, a_waiting, a_came, a_given, a_got) = a_opB := ⟨rfl, rfl, rfl⟩
end
theorem rd_stage {k : Nat} {u : SX} {v : SY} (I : i_Rel k u v) (v1 v2 v3 : Int32) : wpX_stage (fun r u' => wpY_stage (fun r' v' => r' = r ∧ i_Rel (k + 4) u' v') v v1 v2 v3) u v1 v2 v3 := by
  have I0 := i_up I
  obtain ⟨ns, K, A, B, oa, ob, cc, t, LG, S, hck, hX, hY, hC, hSE, hJ⟩ := I
  have h12 := hY.1.1.1
  by_cases hq : ∃ kn, kn ≤ 20 ∧ v1 = nI kn ∧ ftq ns kn v2 v3
  · obtain ⟨kn, hk20, rfl, hq⟩ := hq
    by_cases hn : ns < 12
    · obtain ⟨f_time, f_sent, f_stageCount, f_tasks, a_sourceEnded, a_stageKind, a_stageA, a_stageB, a_stageParts, a_partStage, a_partUser, a_partX, a_partY, a_phase, a_beganAfter, a_due, a_count, a_held, a_heldY, a_hasHeld, a_hasHeldY, a_queueSize, a_queueIsOfX, a_queueValue, a_queueDue, a_subStatus, a_subCode, a_subEnd, a_subDemand, a_subRequests, a_subDelivered, a_subWaiting, a_waitValue, a_history, a_taskWhat, a_taskPart, a_taskValue⟩ := u
      obtain ⟨f_stages, f_heard, f_now, f_calls, f_parts, f_start, f_at, f_nextX, f_nextY, f_x, f_y, a_kind, a_opA, a_opB, a_heardBy, a_what, a_said, a_when, a_over, a_part, a_first, a_second, a_user, a_goStage, a_goStep, a_done, a_val, a_mom, a_cnt, a_end, a_endMom, a_begun, a_status, a_stageOf, a_began, a_taken, a_demand, a_asked, a_code, a_waits, a_waiting, a_came, a_given, a_got⟩ := v
      refine xg_stage hX.1 hn hq (fun sp' p1 p2 => ?_)
      refine yg_stage hY.2.1 hn hq ⟨rfl, ?_⟩
      have hS := xe_stk hX.2.2.2
      refine ⟨ns + 1, fup K ns kn, fup A ns (cl v2), fup B ns (cl v3), fup oa ns v2, fup ob ns v3, cc, t, LG, S, Nat.le_trans hck (Nat.le_add_right _ _), ⟨?_, hX.2.1, hX.2.2.1, xe_stk' hS.1 hS.2⟩, ⟨ty_add hY.1 hn hq.1 hq.2.1 hq.2.2, ye_stages, ye_now.trans (ye_now.symm.trans hY.2.2.1), ye_heard.trans (ye_heard.symm.trans hY.2.2.2.1), hY.2.2.2.2.1, ye_calls.trans (ye_calls.symm.trans hY.2.2.2.2.2)⟩, hC, hSE, fun j hj => ?_⟩
      · rw [xe_st2]
        have h1 := hX.1
        rw [xe_st2] at h1
        exact tx_add h1 hn hq.1 hq.2.1 hq.2.2 p1 p2
      · refine rj_frame hj (Nat.le_succ _) (hJ j hj) ⟨?_, fun i _ _ => ⟨fun S' h => xe_rep' (xe_rep h), congrFun (xe_phase.trans xe_phase.symm) i, congrFun (xe_began.trans xe_began.symm) i⟩, fun s hs => xe_ru' (xe_ru hs), xe_stk' hS.1 hS.2⟩ (congrFun (xe_sr.trans xe_sr.symm) j) (fun h => ye_rw' (ye_rw h)) (congrFun (ye_asked.trans ye_asked.symm) j) (fun σ hσ => ⟨?_, ?_, ?_⟩) ⟨congrFun (ye_taken.trans ye_taken.symm) j, congrFun (ye_stageOf.trans ye_stageOf.symm) j, congrFun (ye_began.trans ye_began.symm) j⟩
        · rw [xe_st2, xe_st2]
          exact ⟨rfl, rfl, fun σ hσ => ⟨pk_un (by omega), pk_un (by omega), pk_un (by omega)⟩, fun _ _ _ => ⟨rfl, rfl, rfl, rfl⟩⟩
        · show upd a_kind ns (nI kn) σ = a_kind σ
          exact pk_un (by omega)
        · show upd a_opA ns v2 σ = a_opA σ
          exact pk_un (by omega)
        · show upd a_opB ns v3 σ = a_opB σ
          exact pk_un (by omega)
    · have e12 : ns = 12 := by omega
      have hy : wpY_stage (fun r' v' => r' = -2 ∧ i_Rel (k + 4) u v') v (nI kn) v2 v3 := by
        have hsc := hY.2.1
        obtain ⟨f_stages, f_heard, f_now, f_calls, f_parts, f_start, f_at, f_nextX, f_nextY, f_x, f_y, a_kind, a_opA, a_opB, a_heardBy, a_what, a_said, a_when, a_over, a_part, a_first, a_second, a_user, a_goStage, a_goStep, a_done, a_val, a_mom, a_cnt, a_end, a_endMom, a_begun, a_status, a_stageOf, a_began, a_taken, a_demand, a_asked, a_code, a_waits, a_waiting, a_came, a_given, a_got⟩ := v
        have hsc' : f_stages = nI ns := hsc
        unfold wpY_stage
        exact yf_fits (ns := ns) (by omega) hsc' (fun _ _ _ _ => br_f (by decide) (br_t (by rw [hsc', e12]; rfl) ⟨rfl, I0⟩)) (fun h => absurd hq (h kn hk20 rfl))
      have hsc := hX.1
      obtain ⟨f_time, f_sent, f_stageCount, f_tasks, a_sourceEnded, a_stageKind, a_stageA, a_stageB, a_stageParts, a_partStage, a_partUser, a_partX, a_partY, a_phase, a_beganAfter, a_due, a_count, a_held, a_heldY, a_hasHeld, a_hasHeldY, a_queueSize, a_queueIsOfX, a_queueValue, a_queueDue, a_subStatus, a_subCode, a_subEnd, a_subDemand, a_subRequests, a_subDelivered, a_subWaiting, a_waitValue, a_history, a_taskWhat, a_taskPart, a_taskValue⟩ := u
      have hsc' : f_stageCount = nI ns := hsc.2.1
      unfold wpX_stage
      exact xf_fits (ns := ns) (by omega) hsc' (fun _ _ _ _ => br_f (by decide) (br_f (by rw [hsc', e12]; decide) hy)) (fun h => absurd hq (h kn hk20 rfl))
  · have hy : wpY_stage (fun r' v' => r' = -3 ∧ i_Rel (k + 4) u v') v v1 v2 v3 := by
      have hsc := hY.2.1
      obtain ⟨f_stages, f_heard, f_now, f_calls, f_parts, f_start, f_at, f_nextX, f_nextY, f_x, f_y, a_kind, a_opA, a_opB, a_heardBy, a_what, a_said, a_when, a_over, a_part, a_first, a_second, a_user, a_goStage, a_goStep, a_done, a_val, a_mom, a_cnt, a_end, a_endMom, a_begun, a_status, a_stageOf, a_began, a_taken, a_demand, a_asked, a_code, a_waits, a_waiting, a_came, a_given, a_got⟩ := v
      have hsc' : f_stages = nI ns := hsc
      unfold wpY_stage
      exact yf_fits (ns := ns) (by omega) hsc' (fun kn a1 a2 a3 => absurd ⟨kn, a1, a2, a3⟩ hq) (fun _ => br_t rfl ⟨rfl, I0⟩)
    have hsc := hX.1
    obtain ⟨f_time, f_sent, f_stageCount, f_tasks, a_sourceEnded, a_stageKind, a_stageA, a_stageB, a_stageParts, a_partStage, a_partUser, a_partX, a_partY, a_phase, a_beganAfter, a_due, a_count, a_held, a_heldY, a_hasHeld, a_hasHeldY, a_queueSize, a_queueIsOfX, a_queueValue, a_queueDue, a_subStatus, a_subCode, a_subEnd, a_subDemand, a_subRequests, a_subDelivered, a_subWaiting, a_waitValue, a_history, a_taskWhat, a_taskPart, a_taskValue⟩ := u
    have hsc' : f_stageCount = nI ns := hsc.2.1
    unfold wpX_stage
    exact xf_fits (ns := ns) (by omega) hsc' (fun kn a1 a2 a3 => absurd ⟨kn, a1, a2, a3⟩ hq) (fun _ => br_t rfl hy)
