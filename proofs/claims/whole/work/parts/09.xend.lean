/-! ===== what a part does with an end: hearComplete, hearError ===== -/
section
variable {f_time : Int32} {f_sent : Int32} {f_stageCount : Int32} {f_tasks : Int32} {a_sourceEnded : (Nat → Int32)} {a_stageKind : (Nat → Int32)} {a_stageA : (Nat → Int32)} {a_stageB : (Nat → Int32)} {a_stageParts : (Nat → Int32)} {a_partStage : (Nat → Int32)} {a_partUser : (Nat → Int32)} {a_partX : (Nat → Int32)} {a_partY : (Nat → Int32)} {a_phase : (Nat → Int32)} {a_beganAfter : (Nat → Int32)} {a_due : (Nat → Int32)} {a_count : (Nat → Int32)} {a_held : (Nat → Int32)} {a_heldY : (Nat → Int32)} {a_hasHeld : (Nat → Int32)} {a_hasHeldY : (Nat → Int32)} {a_queueSize : (Nat → Int32)} {a_queueIsOfX : (Nat → Int32)} {a_queueValue : (Nat → Int32)} {a_queueDue : (Nat → Int32)} {a_subStatus : (Nat → Int32)} {a_subCode : (Nat → Int32)} {a_subEnd : (Nat → Int32)} {a_subDemand : (Nat → Int64)} {a_subRequests : (Nat → Int32)} {a_subDelivered : (Nat → Int32)} {a_subWaiting : (Nat → Int32)} {a_waitValue : (Nat → Int32)} {a_history : (Nat → Int64)} {a_taskWhat : (Nat → Int32)} {a_taskPart : (Nat → Int32)} {a_taskValue : (Nat → Int32)}
theorem xh_cb {post : SX → Prop} {i : Nat} {v : Int32} {g : Bool} {R : List Tk} (hT : f_tasks = nI R.length) (hR : rps a_taskWhat a_taskPart a_taskValue R) (hl : R.length + 2 ≤ 128)
    (H : ∀ (tk : Int32) (tw tp tv : Nat → Int32), tk = nI (ots i (if g = true then [(1, v), (2, 0)] else [(2, 0)]) ++ R).length → rps tw tp tv (ots i (if g = true then [(1, v), (2, 0)] else [(2, 0)]) ++ R) → post (f_time, f_sent, f_stageCount, tk, a_sourceEnded, a_stageKind, a_stageA, a_stageB, a_stageParts, a_partStage, a_partUser, a_partX, a_partY, a_phase, a_beganAfter, a_due, a_count, a_held, a_heldY, a_hasHeld, a_hasHeldY, a_queueSize, a_queueIsOfX, a_queueValue, a_queueDue, a_subStatus, a_subCode, a_subEnd, a_subDemand, a_subRequests, a_subDelivered, a_subWaiting, a_waitValue, a_history, tw, tp, tv)) :
    wpX_completeBehind post (f_time, f_sent, f_stageCount, f_tasks, a_sourceEnded, a_stageKind, a_stageA, a_stageB, a_stageParts, a_partStage, a_partUser, a_partX, a_partY, a_phase, a_beganAfter, a_due, a_count, a_held, a_heldY, a_hasHeld, a_hasHeldY, a_queueSize, a_queueIsOfX, a_queueValue, a_queueDue, a_subStatus, a_subCode, a_subEnd, a_subDemand, a_subRequests, a_subDelivered, a_subWaiting, a_waitValue, a_history, a_taskWhat, a_taskPart, a_taskValue) (nI i) (bI g) v := by
  unfold wpX_completeBehind
  refine xw_push hT (by omega) ?_
  cases g
  · exact br_t rfl (H _ _ _ _ rfl (xd_rps_push (w := 2) hR))
  · exact br_f (by decide) (xw_push rfl (by omega) (H _ _ _ _ rfl (xd_rps_push (w := 1) (R := (2, i, 0) :: R) (xd_rps_push (w := 2) hR))))
theorem xh_c3 {post : SX → Prop} {i t s d c : Nat} {a b fr h hy : Int32} {f fy qx ox oy sd : Bool} {q : List (Int32 × Nat)} {R : List Tk} (hx : HA f_time a_partStage a_stageKind a_stageA a_stageB i t s 3 a b) (hS : RepA a_due a_count a_held a_heldY a_hasHeld a_hasHeldY a_queueSize a_queueIsOfX a_queueValue a_queueDue i (d, c, h, hy, f, fy, qx, q, ox, oy)) (ok : okS 3 b (d, c, h, hy, f, fy, qx, q, ox, oy)) (hT : f_tasks = nI R.length) (hR : rps a_taskWhat a_taskPart a_taskValue R) (hl : R.length + 2 ≤ 128)   (H : ∀ u', Eff (f_time, f_sent, f_stageCount, f_tasks, a_sourceEnded, a_stageKind, a_stageA, a_stageB, a_stageParts, a_partStage, a_partUser, a_partX, a_partY, a_phase, a_beganAfter, a_due, a_count, a_held, a_heldY, a_hasHeld, a_hasHeldY, a_queueSize, a_queueIsOfX, a_queueValue, a_queueDue, a_subStatus, a_subCode, a_subEnd, a_subDemand, a_subRequests, a_subDelivered, a_subWaiting, a_waitValue, a_history, a_taskWhat, a_taskPart, a_taskValue) u' i (hc 3 b t sd (d, c, h, hy, f, fy, qx, q, ox, oy)).1 (hc 3 b t sd (d, c, h, hy, f, fy, qx, q, ox, oy)).2 R → post u') : wpX_hearComplete post (f_time, f_sent, f_stageCount, f_tasks, a_sourceEnded, a_stageKind, a_stageA, a_stageB, a_stageParts, a_partStage, a_partUser, a_partX, a_partY, a_phase, a_beganAfter, a_due, a_count, a_held, a_heldY, a_hasHeld, a_hasHeldY, a_queueSize, a_queueIsOfX, a_queueValue, a_queueDue, a_subStatus, a_subCode, a_subEnd, a_subDemand, a_subRequests, a_subDelivered, a_subWaiting, a_waitValue, a_history, a_taskWhat, a_taskPart, a_taskValue) (nI i) fr := by
  obtain ⟨h27, ht, ht2, hps, hs, hk, ha, hb, ho⟩ := hx
  have hS0 := hS
  obtain ⟨a1, a2, a3, a4, a5, a6, a7, a8, a9, a10⟩ := hS
  have hcl : (nI i).toNatClampNeg = i := nI_clamp (by omega)
  have hcs : (nI s).toNatClampNeg = s := nI_clamp (by omega)
  have hin : vp_in (nI i) 27 := vp_in_nI h27 (by decide)
  have his : vp_in (nI s) 12 := vp_in_nI hs (by decide)
  have hps' : a_partStage (nI i).toNatClampNeg = nI s := by rw [hcl]; exact hps
  refine ⟨hin, nm_r (e' := nI s) hps' ⟨his, nm_r (e' := nI 3) (by rw [hcs]; exact hk) ?_⟩⟩
  refine br_t (by decide) ?_
  exact xw_push hT (by omega) (H _ (xe_eff hS0 (fun j hj S hS => hS) rfl (xd_rps_push (w := 2) hR)))
theorem xh_c4 {post : SX → Prop} {i t s d c : Nat} {a b fr h hy : Int32} {f fy qx ox oy sd : Bool} {q : List (Int32 × Nat)} {R : List Tk} (hx : HA f_time a_partStage a_stageKind a_stageA a_stageB i t s 4 a b) (hS : RepA a_due a_count a_held a_heldY a_hasHeld a_hasHeldY a_queueSize a_queueIsOfX a_queueValue a_queueDue i (d, c, h, hy, f, fy, qx, q, ox, oy)) (ok : okS 4 b (d, c, h, hy, f, fy, qx, q, ox, oy)) (hT : f_tasks = nI R.length) (hR : rps a_taskWhat a_taskPart a_taskValue R) (hl : R.length + 2 ≤ 128)   (H : ∀ u', Eff (f_time, f_sent, f_stageCount, f_tasks, a_sourceEnded, a_stageKind, a_stageA, a_stageB, a_stageParts, a_partStage, a_partUser, a_partX, a_partY, a_phase, a_beganAfter, a_due, a_count, a_held, a_heldY, a_hasHeld, a_hasHeldY, a_queueSize, a_queueIsOfX, a_queueValue, a_queueDue, a_subStatus, a_subCode, a_subEnd, a_subDemand, a_subRequests, a_subDelivered, a_subWaiting, a_waitValue, a_history, a_taskWhat, a_taskPart, a_taskValue) u' i (hc 4 b t sd (d, c, h, hy, f, fy, qx, q, ox, oy)).1 (hc 4 b t sd (d, c, h, hy, f, fy, qx, q, ox, oy)).2 R → post u') : wpX_hearComplete post (f_time, f_sent, f_stageCount, f_tasks, a_sourceEnded, a_stageKind, a_stageA, a_stageB, a_stageParts, a_partStage, a_partUser, a_partX, a_partY, a_phase, a_beganAfter, a_due, a_count, a_held, a_heldY, a_hasHeld, a_hasHeldY, a_queueSize, a_queueIsOfX, a_queueValue, a_queueDue, a_subStatus, a_subCode, a_subEnd, a_subDemand, a_subRequests, a_subDelivered, a_subWaiting, a_waitValue, a_history, a_taskWhat, a_taskPart, a_taskValue) (nI i) fr := by
  obtain ⟨h27, ht, ht2, hps, hs, hk, ha, hb, ho⟩ := hx
  have hS0 := hS
  obtain ⟨a1, a2, a3, a4, a5, a6, a7, a8, a9, a10⟩ := hS
  have hcl : (nI i).toNatClampNeg = i := nI_clamp (by omega)
  have hcs : (nI s).toNatClampNeg = s := nI_clamp (by omega)
  have hin : vp_in (nI i) 27 := vp_in_nI h27 (by decide)
  have his : vp_in (nI s) 12 := vp_in_nI hs (by decide)
  have hps' : a_partStage (nI i).toNatClampNeg = nI s := by rw [hcl]; exact hps
  refine ⟨hin, nm_r (e' := nI s) hps' ⟨his, nm_r (e' := nI 4) (by rw [hcs]; exact hk) ?_⟩⟩
  refine br_t (by decide) ?_
  exact xw_push hT (by omega) (H _ (xe_eff hS0 (fun j hj S hS => hS) rfl (xd_rps_push (w := 2) hR)))
theorem xh_c5 {post : SX → Prop} {i t s d c : Nat} {a b fr h hy : Int32} {f fy qx ox oy sd : Bool} {q : List (Int32 × Nat)} {R : List Tk} (hx : HA f_time a_partStage a_stageKind a_stageA a_stageB i t s 5 a b) (hS : RepA a_due a_count a_held a_heldY a_hasHeld a_hasHeldY a_queueSize a_queueIsOfX a_queueValue a_queueDue i (d, c, h, hy, f, fy, qx, q, ox, oy)) (ok : okS 5 b (d, c, h, hy, f, fy, qx, q, ox, oy)) (hT : f_tasks = nI R.length) (hR : rps a_taskWhat a_taskPart a_taskValue R) (hl : R.length + 2 ≤ 128)   (H : ∀ u', Eff (f_time, f_sent, f_stageCount, f_tasks, a_sourceEnded, a_stageKind, a_stageA, a_stageB, a_stageParts, a_partStage, a_partUser, a_partX, a_partY, a_phase, a_beganAfter, a_due, a_count, a_held, a_heldY, a_hasHeld, a_hasHeldY, a_queueSize, a_queueIsOfX, a_queueValue, a_queueDue, a_subStatus, a_subCode, a_subEnd, a_subDemand, a_subRequests, a_subDelivered, a_subWaiting, a_waitValue, a_history, a_taskWhat, a_taskPart, a_taskValue) u' i (hc 5 b t sd (d, c, h, hy, f, fy, qx, q, ox, oy)).1 (hc 5 b t sd (d, c, h, hy, f, fy, qx, q, ox, oy)).2 R → post u') : wpX_hearComplete post (f_time, f_sent, f_stageCount, f_tasks, a_sourceEnded, a_stageKind, a_stageA, a_stageB, a_stageParts, a_partStage, a_partUser, a_partX, a_partY, a_phase, a_beganAfter, a_due, a_count, a_held, a_heldY, a_hasHeld, a_hasHeldY, a_queueSize, a_queueIsOfX, a_queueValue, a_queueDue, a_subStatus, a_subCode, a_subEnd, a_subDemand, a_subRequests, a_subDelivered, a_subWaiting, a_waitValue, a_history, a_taskWhat, a_taskPart, a_taskValue) (nI i) fr := by
  obtain ⟨h27, ht, ht2, hps, hs, hk, ha, hb, ho⟩ := hx
  have hS0 := hS
  obtain ⟨a1, a2, a3, a4, a5, a6, a7, a8, a9, a10⟩ := hS
  have hcl : (nI i).toNatClampNeg = i := nI_clamp (by omega)
  have hcs : (nI s).toNatClampNeg = s := nI_clamp (by omega)
  have hin : vp_in (nI i) 27 := vp_in_nI h27 (by decide)
  have his : vp_in (nI s) 12 := vp_in_nI hs (by decide)
  have hps' : a_partStage (nI i).toNatClampNeg = nI s := by rw [hcl]; exact hps
  refine ⟨hin, nm_r (e' := nI s) hps' ⟨his, nm_r (e' := nI 5) (by rw [hcs]; exact hk) ?_⟩⟩
  refine br_t (by decide) ?_
  exact xw_push hT (by omega) (H _ (xe_eff hS0 (fun j hj S hS => hS) rfl (xd_rps_push (w := 2) hR)))
theorem xh_c6 {post : SX → Prop} {i t s d c : Nat} {a b fr h hy : Int32} {f fy qx ox oy sd : Bool} {q : List (Int32 × Nat)} {R : List Tk} (hx : HA f_time a_partStage a_stageKind a_stageA a_stageB i t s 6 a b) (hS : RepA a_due a_count a_held a_heldY a_hasHeld a_hasHeldY a_queueSize a_queueIsOfX a_queueValue a_queueDue i (d, c, h, hy, f, fy, qx, q, ox, oy)) (ok : okS 6 b (d, c, h, hy, f, fy, qx, q, ox, oy)) (hT : f_tasks = nI R.length) (hR : rps a_taskWhat a_taskPart a_taskValue R) (hl : R.length + 2 ≤ 128)   (H : ∀ u', Eff (f_time, f_sent, f_stageCount, f_tasks, a_sourceEnded, a_stageKind, a_stageA, a_stageB, a_stageParts, a_partStage, a_partUser, a_partX, a_partY, a_phase, a_beganAfter, a_due, a_count, a_held, a_heldY, a_hasHeld, a_hasHeldY, a_queueSize, a_queueIsOfX, a_queueValue, a_queueDue, a_subStatus, a_subCode, a_subEnd, a_subDemand, a_subRequests, a_subDelivered, a_subWaiting, a_waitValue, a_history, a_taskWhat, a_taskPart, a_taskValue) u' i (hc 6 b t sd (d, c, h, hy, f, fy, qx, q, ox, oy)).1 (hc 6 b t sd (d, c, h, hy, f, fy, qx, q, ox, oy)).2 R → post u') : wpX_hearComplete post (f_time, f_sent, f_stageCount, f_tasks, a_sourceEnded, a_stageKind, a_stageA, a_stageB, a_stageParts, a_partStage, a_partUser, a_partX, a_partY, a_phase, a_beganAfter, a_due, a_count, a_held, a_heldY, a_hasHeld, a_hasHeldY, a_queueSize, a_queueIsOfX, a_queueValue, a_queueDue, a_subStatus, a_subCode, a_subEnd, a_subDemand, a_subRequests, a_subDelivered, a_subWaiting, a_waitValue, a_history, a_taskWhat, a_taskPart, a_taskValue) (nI i) fr := by
  obtain ⟨h27, ht, ht2, hps, hs, hk, ha, hb, ho⟩ := hx
  have hS0 := hS
  obtain ⟨a1, a2, a3, a4, a5, a6, a7, a8, a9, a10⟩ := hS
  have hcl : (nI i).toNatClampNeg = i := nI_clamp (by omega)
  have hcs : (nI s).toNatClampNeg = s := nI_clamp (by omega)
  have hin : vp_in (nI i) 27 := vp_in_nI h27 (by decide)
  have his : vp_in (nI s) 12 := vp_in_nI hs (by decide)
  have hps' : a_partStage (nI i).toNatClampNeg = nI s := by rw [hcl]; exact hps
  refine ⟨hin, nm_r (e' := nI s) hps' ⟨his, nm_r (e' := nI 6) (by rw [hcs]; exact hk) ?_⟩⟩
  refine br_t (by decide) ?_
  exact xw_push hT (by omega) (H _ (xe_eff hS0 (fun j hj S hS => hS) rfl (xd_rps_push (w := 2) hR)))
theorem xh_c7 {post : SX → Prop} {i t s d c : Nat} {a b fr h hy : Int32} {f fy qx ox oy sd : Bool} {q : List (Int32 × Nat)} {R : List Tk} (hx : HA f_time a_partStage a_stageKind a_stageA a_stageB i t s 7 a b) (hS : RepA a_due a_count a_held a_heldY a_hasHeld a_hasHeldY a_queueSize a_queueIsOfX a_queueValue a_queueDue i (d, c, h, hy, f, fy, qx, q, ox, oy)) (ok : okS 7 b (d, c, h, hy, f, fy, qx, q, ox, oy)) (hT : f_tasks = nI R.length) (hR : rps a_taskWhat a_taskPart a_taskValue R) (hl : R.length + 2 ≤ 128)   (H : ∀ u', Eff (f_time, f_sent, f_stageCount, f_tasks, a_sourceEnded, a_stageKind, a_stageA, a_stageB, a_stageParts, a_partStage, a_partUser, a_partX, a_partY, a_phase, a_beganAfter, a_due, a_count, a_held, a_heldY, a_hasHeld, a_hasHeldY, a_queueSize, a_queueIsOfX, a_queueValue, a_queueDue, a_subStatus, a_subCode, a_subEnd, a_subDemand, a_subRequests, a_subDelivered, a_subWaiting, a_waitValue, a_history, a_taskWhat, a_taskPart, a_taskValue) u' i (hc 7 b t sd (d, c, h, hy, f, fy, qx, q, ox, oy)).1 (hc 7 b t sd (d, c, h, hy, f, fy, qx, q, ox, oy)).2 R → post u') : wpX_hearComplete post (f_time, f_sent, f_stageCount, f_tasks, a_sourceEnded, a_stageKind, a_stageA, a_stageB, a_stageParts, a_partStage, a_partUser, a_partX, a_partY, a_phase, a_beganAfter, a_due, a_count, a_held, a_heldY, a_hasHeld, a_hasHeldY, a_queueSize, a_queueIsOfX, a_queueValue, a_queueDue, a_subStatus, a_subCode, a_subEnd, a_subDemand, a_subRequests, a_subDelivered, a_subWaiting, a_waitValue, a_history, a_taskWhat, a_taskPart, a_taskValue) (nI i) fr := by
  obtain ⟨h27, ht, ht2, hps, hs, hk, ha, hb, ho⟩ := hx
  have hS0 := hS
  obtain ⟨a1, a2, a3, a4, a5, a6, a7, a8, a9, a10⟩ := hS
  have hcl : (nI i).toNatClampNeg = i := nI_clamp (by omega)
  have hcs : (nI s).toNatClampNeg = s := nI_clamp (by omega)
  have hin : vp_in (nI i) 27 := vp_in_nI h27 (by decide)
  have his : vp_in (nI s) 12 := vp_in_nI hs (by decide)
  have hps' : a_partStage (nI i).toNatClampNeg = nI s := by rw [hcl]; exact hps
  refine ⟨hin, nm_r (e' := nI s) hps' ⟨his, nm_r (e' := nI 7) (by rw [hcs]; exact hk) ?_⟩⟩
  refine br_t (by decide) ?_
  exact xw_push hT (by omega) (H _ (xe_eff hS0 (fun j hj S hS => hS) rfl (xd_rps_push (w := 2) hR)))
theorem xh_c8 {post : SX → Prop} {i t s d c : Nat} {a b fr h hy : Int32} {f fy qx ox oy sd : Bool} {q : List (Int32 × Nat)} {R : List Tk} (hx : HA f_time a_partStage a_stageKind a_stageA a_stageB i t s 8 a b) (hS : RepA a_due a_count a_held a_heldY a_hasHeld a_hasHeldY a_queueSize a_queueIsOfX a_queueValue a_queueDue i (d, c, h, hy, f, fy, qx, q, ox, oy)) (ok : okS 8 b (d, c, h, hy, f, fy, qx, q, ox, oy)) (hT : f_tasks = nI R.length) (hR : rps a_taskWhat a_taskPart a_taskValue R) (hl : R.length + 2 ≤ 128)   (H : ∀ u', Eff (f_time, f_sent, f_stageCount, f_tasks, a_sourceEnded, a_stageKind, a_stageA, a_stageB, a_stageParts, a_partStage, a_partUser, a_partX, a_partY, a_phase, a_beganAfter, a_due, a_count, a_held, a_heldY, a_hasHeld, a_hasHeldY, a_queueSize, a_queueIsOfX, a_queueValue, a_queueDue, a_subStatus, a_subCode, a_subEnd, a_subDemand, a_subRequests, a_subDelivered, a_subWaiting, a_waitValue, a_history, a_taskWhat, a_taskPart, a_taskValue) u' i (hc 8 b t sd (d, c, h, hy, f, fy, qx, q, ox, oy)).1 (hc 8 b t sd (d, c, h, hy, f, fy, qx, q, ox, oy)).2 R → post u') : wpX_hearComplete post (f_time, f_sent, f_stageCount, f_tasks, a_sourceEnded, a_stageKind, a_stageA, a_stageB, a_stageParts, a_partStage, a_partUser, a_partX, a_partY, a_phase, a_beganAfter, a_due, a_count, a_held, a_heldY, a_hasHeld, a_hasHeldY, a_queueSize, a_queueIsOfX, a_queueValue, a_queueDue, a_subStatus, a_subCode, a_subEnd, a_subDemand, a_subRequests, a_subDelivered, a_subWaiting, a_waitValue, a_history, a_taskWhat, a_taskPart, a_taskValue) (nI i) fr := by
  obtain ⟨h27, ht, ht2, hps, hs, hk, ha, hb, ho⟩ := hx
  have hS0 := hS
  obtain ⟨a1, a2, a3, a4, a5, a6, a7, a8, a9, a10⟩ := hS
  have hcl : (nI i).toNatClampNeg = i := nI_clamp (by omega)
  have hcs : (nI s).toNatClampNeg = s := nI_clamp (by omega)
  have hin : vp_in (nI i) 27 := vp_in_nI h27 (by decide)
  have his : vp_in (nI s) 12 := vp_in_nI hs (by decide)
  have hps' : a_partStage (nI i).toNatClampNeg = nI s := by rw [hcl]; exact hps
  refine ⟨hin, nm_r (e' := nI s) hps' ⟨his, nm_r (e' := nI 8) (by rw [hcs]; exact hk) ?_⟩⟩
  refine br_t (by decide) ?_
  exact xw_push hT (by omega) (H _ (xe_eff hS0 (fun j hj S hS => hS) rfl (xd_rps_push (w := 2) hR)))
theorem xh_c20 {post : SX → Prop} {i t s d c : Nat} {a b fr h hy : Int32} {f fy qx ox oy sd : Bool} {q : List (Int32 × Nat)} {R : List Tk} (hx : HA f_time a_partStage a_stageKind a_stageA a_stageB i t s 20 a b) (hS : RepA a_due a_count a_held a_heldY a_hasHeld a_hasHeldY a_queueSize a_queueIsOfX a_queueValue a_queueDue i (d, c, h, hy, f, fy, qx, q, ox, oy)) (ok : okS 20 b (d, c, h, hy, f, fy, qx, q, ox, oy)) (hT : f_tasks = nI R.length) (hR : rps a_taskWhat a_taskPart a_taskValue R) (hl : R.length + 2 ≤ 128)   (H : ∀ u', Eff (f_time, f_sent, f_stageCount, f_tasks, a_sourceEnded, a_stageKind, a_stageA, a_stageB, a_stageParts, a_partStage, a_partUser, a_partX, a_partY, a_phase, a_beganAfter, a_due, a_count, a_held, a_heldY, a_hasHeld, a_hasHeldY, a_queueSize, a_queueIsOfX, a_queueValue, a_queueDue, a_subStatus, a_subCode, a_subEnd, a_subDemand, a_subRequests, a_subDelivered, a_subWaiting, a_waitValue, a_history, a_taskWhat, a_taskPart, a_taskValue) u' i (hc 20 b t sd (d, c, h, hy, f, fy, qx, q, ox, oy)).1 (hc 20 b t sd (d, c, h, hy, f, fy, qx, q, ox, oy)).2 R → post u') : wpX_hearComplete post (f_time, f_sent, f_stageCount, f_tasks, a_sourceEnded, a_stageKind, a_stageA, a_stageB, a_stageParts, a_partStage, a_partUser, a_partX, a_partY, a_phase, a_beganAfter, a_due, a_count, a_held, a_heldY, a_hasHeld, a_hasHeldY, a_queueSize, a_queueIsOfX, a_queueValue, a_queueDue, a_subStatus, a_subCode, a_subEnd, a_subDemand, a_subRequests, a_subDelivered, a_subWaiting, a_waitValue, a_history, a_taskWhat, a_taskPart, a_taskValue) (nI i) fr := by
  obtain ⟨h27, ht, ht2, hps, hs, hk, ha, hb, ho⟩ := hx
  have hS0 := hS
  obtain ⟨a1, a2, a3, a4, a5, a6, a7, a8, a9, a10⟩ := hS
  have hcl : (nI i).toNatClampNeg = i := nI_clamp (by omega)
  have hcs : (nI s).toNatClampNeg = s := nI_clamp (by omega)
  have hin : vp_in (nI i) 27 := vp_in_nI h27 (by decide)
  have his : vp_in (nI s) 12 := vp_in_nI hs (by decide)
  have hps' : a_partStage (nI i).toNatClampNeg = nI s := by rw [hcl]; exact hps
  refine ⟨hin, nm_r (e' := nI s) hps' ⟨his, nm_r (e' := nI 20) (by rw [hcs]; exact hk) ?_⟩⟩
  refine br_f (by decide) (br_t (by decide) ?_)
  exact xw_push hT (by omega) (H _ (xe_eff hS0 (fun j hj S hS => hS) rfl (xd_rps_push (w := 2) hR)))
theorem xh_c13 {post : SX → Prop} {i t s d c : Nat} {a b fr h hy : Int32} {f fy qx ox oy sd : Bool} {q : List (Int32 × Nat)} {R : List Tk} (hx : HA f_time a_partStage a_stageKind a_stageA a_stageB i t s 13 a b) (hS : RepA a_due a_count a_held a_heldY a_hasHeld a_hasHeldY a_queueSize a_queueIsOfX a_queueValue a_queueDue i (d, c, h, hy, f, fy, qx, q, ox, oy)) (ok : okS 13 b (d, c, h, hy, f, fy, qx, q, ox, oy)) (hT : f_tasks = nI R.length) (hR : rps a_taskWhat a_taskPart a_taskValue R) (hl : R.length + 2 ≤ 128)   (H : ∀ u', Eff (f_time, f_sent, f_stageCount, f_tasks, a_sourceEnded, a_stageKind, a_stageA, a_stageB, a_stageParts, a_partStage, a_partUser, a_partX, a_partY, a_phase, a_beganAfter, a_due, a_count, a_held, a_heldY, a_hasHeld, a_hasHeldY, a_queueSize, a_queueIsOfX, a_queueValue, a_queueDue, a_subStatus, a_subCode, a_subEnd, a_subDemand, a_subRequests, a_subDelivered, a_subWaiting, a_waitValue, a_history, a_taskWhat, a_taskPart, a_taskValue) u' i (hc 13 b t sd (d, c, h, hy, f, fy, qx, q, ox, oy)).1 (hc 13 b t sd (d, c, h, hy, f, fy, qx, q, ox, oy)).2 R → post u') : wpX_hearComplete post (f_time, f_sent, f_stageCount, f_tasks, a_sourceEnded, a_stageKind, a_stageA, a_stageB, a_stageParts, a_partStage, a_partUser, a_partX, a_partY, a_phase, a_beganAfter, a_due, a_count, a_held, a_heldY, a_hasHeld, a_hasHeldY, a_queueSize, a_queueIsOfX, a_queueValue, a_queueDue, a_subStatus, a_subCode, a_subEnd, a_subDemand, a_subRequests, a_subDelivered, a_subWaiting, a_waitValue, a_history, a_taskWhat, a_taskPart, a_taskValue) (nI i) fr := by
  obtain ⟨h27, ht, ht2, hps, hs, hk, ha, hb, ho⟩ := hx
  have hS0 := hS
  obtain ⟨a1, a2, a3, a4, a5, a6, a7, a8, a9, a10⟩ := hS
  have hcl : (nI i).toNatClampNeg = i := nI_clamp (by omega)
  have hcs : (nI s).toNatClampNeg = s := nI_clamp (by omega)
  have hin : vp_in (nI i) 27 := vp_in_nI h27 (by decide)
  have his : vp_in (nI s) 12 := vp_in_nI hs (by decide)
  have hps' : a_partStage (nI i).toNatClampNeg = nI s := by rw [hcl]; exact hps
  refine ⟨hin, nm_r (e' := nI s) hps' ⟨his, nm_r (e' := nI 13) (by rw [hcs]; exact hk) ?_⟩⟩
  iterate 6 (refine br_f (by decide) ?_)
  refine br_t rfl ?_
  exact xw_push hT (by omega) (H _ (xe_eff hS0 (fun j hj S hS => hS) rfl (xd_rps_push (w := 2) hR)))
theorem xh_c14 {post : SX → Prop} {i t s d c : Nat} {a b fr h hy : Int32} {f fy qx ox oy sd : Bool} {q : List (Int32 × Nat)} {R : List Tk} (hx : HA f_time a_partStage a_stageKind a_stageA a_stageB i t s 14 a b) (hS : RepA a_due a_count a_held a_heldY a_hasHeld a_hasHeldY a_queueSize a_queueIsOfX a_queueValue a_queueDue i (d, c, h, hy, f, fy, qx, q, ox, oy)) (ok : okS 14 b (d, c, h, hy, f, fy, qx, q, ox, oy)) (hT : f_tasks = nI R.length) (hR : rps a_taskWhat a_taskPart a_taskValue R) (hl : R.length + 2 ≤ 128)   (H : ∀ u', Eff (f_time, f_sent, f_stageCount, f_tasks, a_sourceEnded, a_stageKind, a_stageA, a_stageB, a_stageParts, a_partStage, a_partUser, a_partX, a_partY, a_phase, a_beganAfter, a_due, a_count, a_held, a_heldY, a_hasHeld, a_hasHeldY, a_queueSize, a_queueIsOfX, a_queueValue, a_queueDue, a_subStatus, a_subCode, a_subEnd, a_subDemand, a_subRequests, a_subDelivered, a_subWaiting, a_waitValue, a_history, a_taskWhat, a_taskPart, a_taskValue) u' i (hc 14 b t sd (d, c, h, hy, f, fy, qx, q, ox, oy)).1 (hc 14 b t sd (d, c, h, hy, f, fy, qx, q, ox, oy)).2 R → post u') : wpX_hearComplete post (f_time, f_sent, f_stageCount, f_tasks, a_sourceEnded, a_stageKind, a_stageA, a_stageB, a_stageParts, a_partStage, a_partUser, a_partX, a_partY, a_phase, a_beganAfter, a_due, a_count, a_held, a_heldY, a_hasHeld, a_hasHeldY, a_queueSize, a_queueIsOfX, a_queueValue, a_queueDue, a_subStatus, a_subCode, a_subEnd, a_subDemand, a_subRequests, a_subDelivered, a_subWaiting, a_waitValue, a_history, a_taskWhat, a_taskPart, a_taskValue) (nI i) fr := by
  obtain ⟨h27, ht, ht2, hps, hs, hk, ha, hb, ho⟩ := hx
  have hS0 := hS
  obtain ⟨a1, a2, a3, a4, a5, a6, a7, a8, a9, a10⟩ := hS
  have hcl : (nI i).toNatClampNeg = i := nI_clamp (by omega)
  have hcs : (nI s).toNatClampNeg = s := nI_clamp (by omega)
  have hin : vp_in (nI i) 27 := vp_in_nI h27 (by decide)
  have his : vp_in (nI s) 12 := vp_in_nI hs (by decide)
  have hps' : a_partStage (nI i).toNatClampNeg = nI s := by rw [hcl]; exact hps
  refine ⟨hin, nm_r (e' := nI s) hps' ⟨his, nm_r (e' := nI 14) (by rw [hcs]; exact hk) ?_⟩⟩
  iterate 7 (refine br_f (by decide) ?_)
  refine br_t rfl ?_
  exact xw_push hT (by omega) (H _ (xe_eff hS0 (fun j hj S hS => hS) rfl (xd_rps_push (w := 2) hR)))
theorem xh_c15 {post : SX → Prop} {i t s d c : Nat} {a b fr h hy : Int32} {f fy qx ox oy sd : Bool} {q : List (Int32 × Nat)} {R : List Tk} (hx : HA f_time a_partStage a_stageKind a_stageA a_stageB i t s 15 a b) (hS : RepA a_due a_count a_held a_heldY a_hasHeld a_hasHeldY a_queueSize a_queueIsOfX a_queueValue a_queueDue i (d, c, h, hy, f, fy, qx, q, ox, oy)) (ok : okS 15 b (d, c, h, hy, f, fy, qx, q, ox, oy)) (hT : f_tasks = nI R.length) (hR : rps a_taskWhat a_taskPart a_taskValue R) (hl : R.length + 2 ≤ 128)   (H : ∀ u', Eff (f_time, f_sent, f_stageCount, f_tasks, a_sourceEnded, a_stageKind, a_stageA, a_stageB, a_stageParts, a_partStage, a_partUser, a_partX, a_partY, a_phase, a_beganAfter, a_due, a_count, a_held, a_heldY, a_hasHeld, a_hasHeldY, a_queueSize, a_queueIsOfX, a_queueValue, a_queueDue, a_subStatus, a_subCode, a_subEnd, a_subDemand, a_subRequests, a_subDelivered, a_subWaiting, a_waitValue, a_history, a_taskWhat, a_taskPart, a_taskValue) u' i (hc 15 b t sd (d, c, h, hy, f, fy, qx, q, ox, oy)).1 (hc 15 b t sd (d, c, h, hy, f, fy, qx, q, ox, oy)).2 R → post u') : wpX_hearComplete post (f_time, f_sent, f_stageCount, f_tasks, a_sourceEnded, a_stageKind, a_stageA, a_stageB, a_stageParts, a_partStage, a_partUser, a_partX, a_partY, a_phase, a_beganAfter, a_due, a_count, a_held, a_heldY, a_hasHeld, a_hasHeldY, a_queueSize, a_queueIsOfX, a_queueValue, a_queueDue, a_subStatus, a_subCode, a_subEnd, a_subDemand, a_subRequests, a_subDelivered, a_subWaiting, a_waitValue, a_history, a_taskWhat, a_taskPart, a_taskValue) (nI i) fr := by
  obtain ⟨h27, ht, ht2, hps, hs, hk, ha, hb, ho⟩ := hx
  have hS0 := hS
  obtain ⟨a1, a2, a3, a4, a5, a6, a7, a8, a9, a10⟩ := hS
  have hcl : (nI i).toNatClampNeg = i := nI_clamp (by omega)
  have hcs : (nI s).toNatClampNeg = s := nI_clamp (by omega)
  have hin : vp_in (nI i) 27 := vp_in_nI h27 (by decide)
  have his : vp_in (nI s) 12 := vp_in_nI hs (by decide)
  have hps' : a_partStage (nI i).toNatClampNeg = nI s := by rw [hcl]; exact hps
  refine ⟨hin, nm_r (e' := nI s) hps' ⟨his, nm_r (e' := nI 15) (by rw [hcs]; exact hk) ?_⟩⟩
  iterate 8 (refine br_f (by decide) ?_)
  refine br_t rfl ?_
  exact xw_push hT (by omega) (H _ (xe_eff hS0 (fun j hj S hS => hS) rfl (xd_rps_push (w := 2) hR)))
theorem xh_c9 {post : SX → Prop} {i t s d c : Nat} {a b fr h hy : Int32} {f fy qx ox oy sd : Bool} {q : List (Int32 × Nat)} {R : List Tk} (hx : HA f_time a_partStage a_stageKind a_stageA a_stageB i t s 9 a b) (hS : RepA a_due a_count a_held a_heldY a_hasHeld a_hasHeldY a_queueSize a_queueIsOfX a_queueValue a_queueDue i (d, c, h, hy, f, fy, qx, q, ox, oy)) (ok : okS 9 b (d, c, h, hy, f, fy, qx, q, ox, oy)) (hT : f_tasks = nI R.length) (hR : rps a_taskWhat a_taskPart a_taskValue R) (hl : R.length + 2 ≤ 128)   (H : ∀ u', Eff (f_time, f_sent, f_stageCount, f_tasks, a_sourceEnded, a_stageKind, a_stageA, a_stageB, a_stageParts, a_partStage, a_partUser, a_partX, a_partY, a_phase, a_beganAfter, a_due, a_count, a_held, a_heldY, a_hasHeld, a_hasHeldY, a_queueSize, a_queueIsOfX, a_queueValue, a_queueDue, a_subStatus, a_subCode, a_subEnd, a_subDemand, a_subRequests, a_subDelivered, a_subWaiting, a_waitValue, a_history, a_taskWhat, a_taskPart, a_taskValue) u' i (hc 9 b t sd (d, c, h, hy, f, fy, qx, q, ox, oy)).1 (hc 9 b t sd (d, c, h, hy, f, fy, qx, q, ox, oy)).2 R → post u') : wpX_hearComplete post (f_time, f_sent, f_stageCount, f_tasks, a_sourceEnded, a_stageKind, a_stageA, a_stageB, a_stageParts, a_partStage, a_partUser, a_partX, a_partY, a_phase, a_beganAfter, a_due, a_count, a_held, a_heldY, a_hasHeld, a_hasHeldY, a_queueSize, a_queueIsOfX, a_queueValue, a_queueDue, a_subStatus, a_subCode, a_subEnd, a_subDemand, a_subRequests, a_subDelivered, a_subWaiting, a_waitValue, a_history, a_taskWhat, a_taskPart, a_taskValue) (nI i) fr := by
  obtain ⟨h27, ht, ht2, hps, hs, hk, ha, hb, ho⟩ := hx
  have hS0 := hS
  obtain ⟨a1, a2, a3, a4, a5, a6, a7, a8, a9, a10⟩ := hS
  have hcl : (nI i).toNatClampNeg = i := nI_clamp (by omega)
  have hcs : (nI s).toNatClampNeg = s := nI_clamp (by omega)
  have hin : vp_in (nI i) 27 := vp_in_nI h27 (by decide)
  have his : vp_in (nI s) 12 := vp_in_nI hs (by decide)
  have hps' : a_partStage (nI i).toNatClampNeg = nI s := by rw [hcl]; exact hps
  refine ⟨hin, nm_r (e' := nI s) hps' ⟨his, nm_r (e' := nI 9) (by rw [hcs]; exact hk) ?_⟩⟩
  refine br_f (by decide) (br_f (by decide) (br_t rfl ⟨hin, ?_⟩))
  have a2' : a_count (nI i).toNatClampNeg = nI c := by rw [hcl]; exact a2
  have a3' : a_held (nI i).toNatClampNeg = h := by rw [hcl]; exact a3
  have hb9 := ho.2.2.2.2.2.1 rfl
  have okc : c < cl b := ok.2.1 (Or.inr rfl)
  have hgo : ∀ g : Bool, (hc 9 b t sd (d, c, h, hy, f, fy, qx, q, ox, oy) = ((d, c, h, hy, f, fy, qx, q, ox, oy), if g = true then [(1, h), (2, 0)] else [(2, 0)])) → wX_hearComplete_88 post (nI i) (bI g) (nI i) f_time f_sent f_stageCount f_tasks a_sourceEnded a_stageKind a_stageA a_stageB a_stageParts a_partStage a_partUser a_partX a_partY a_phase a_beganAfter a_due a_count a_held a_heldY a_hasHeld a_hasHeldY a_queueSize a_queueIsOfX a_queueValue a_queueDue a_subStatus a_subCode a_subEnd a_subDemand a_subRequests a_subDelivered a_subWaiting a_waitValue a_history a_taskWhat a_taskPart a_taskValue := by
    intro g eg
    rw [eg] at H
    refine ⟨hin, ?_⟩
    rw [a3']
    exact xh_cb hT hR hl (fun tk tw tp tv h1 h2 => H _ (xe_eff hS0 (fun j hj S hS => hS) h1 h2))
  by_cases hv : c = 0
  · exact br_t (by rw [a2', hv]; decide) (hgo false (by simp [hc, hv]))
  · exact br_f (by rw [a2']; exact nI_nle (by omega) (by omega)) (hgo true (by simp [hc, hv]))
theorem xh_c10 {post : SX → Prop} {i t s d c : Nat} {a b fr h hy : Int32} {f fy qx ox oy sd : Bool} {q : List (Int32 × Nat)} {R : List Tk} (hx : HA f_time a_partStage a_stageKind a_stageA a_stageB i t s 10 a b) (hS : RepA a_due a_count a_held a_heldY a_hasHeld a_hasHeldY a_queueSize a_queueIsOfX a_queueValue a_queueDue i (d, c, h, hy, f, fy, qx, q, ox, oy)) (ok : okS 10 b (d, c, h, hy, f, fy, qx, q, ox, oy)) (hT : f_tasks = nI R.length) (hR : rps a_taskWhat a_taskPart a_taskValue R) (hl : R.length + 2 ≤ 128)   (H : ∀ u', Eff (f_time, f_sent, f_stageCount, f_tasks, a_sourceEnded, a_stageKind, a_stageA, a_stageB, a_stageParts, a_partStage, a_partUser, a_partX, a_partY, a_phase, a_beganAfter, a_due, a_count, a_held, a_heldY, a_hasHeld, a_hasHeldY, a_queueSize, a_queueIsOfX, a_queueValue, a_queueDue, a_subStatus, a_subCode, a_subEnd, a_subDemand, a_subRequests, a_subDelivered, a_subWaiting, a_waitValue, a_history, a_taskWhat, a_taskPart, a_taskValue) u' i (hc 10 b t sd (d, c, h, hy, f, fy, qx, q, ox, oy)).1 (hc 10 b t sd (d, c, h, hy, f, fy, qx, q, ox, oy)).2 R → post u') : wpX_hearComplete post (f_time, f_sent, f_stageCount, f_tasks, a_sourceEnded, a_stageKind, a_stageA, a_stageB, a_stageParts, a_partStage, a_partUser, a_partX, a_partY, a_phase, a_beganAfter, a_due, a_count, a_held, a_heldY, a_hasHeld, a_hasHeldY, a_queueSize, a_queueIsOfX, a_queueValue, a_queueDue, a_subStatus, a_subCode, a_subEnd, a_subDemand, a_subRequests, a_subDelivered, a_subWaiting, a_waitValue, a_history, a_taskWhat, a_taskPart, a_taskValue) (nI i) fr := by
  obtain ⟨h27, ht, ht2, hps, hs, hk, ha, hb, ho⟩ := hx
  have hS0 := hS
  obtain ⟨a1, a2, a3, a4, a5, a6, a7, a8, a9, a10⟩ := hS
  have hcl : (nI i).toNatClampNeg = i := nI_clamp (by omega)
  have hcs : (nI s).toNatClampNeg = s := nI_clamp (by omega)
  have hin : vp_in (nI i) 27 := vp_in_nI h27 (by decide)
  have his : vp_in (nI s) 12 := vp_in_nI hs (by decide)
  have hps' : a_partStage (nI i).toNatClampNeg = nI s := by rw [hcl]; exact hps
  refine ⟨hin, nm_r (e' := nI s) hps' ⟨his, nm_r (e' := nI 10) (by rw [hcs]; exact hk) ?_⟩⟩
  refine br_f (by decide) (br_f (by decide) (br_f (by decide) (br_t rfl ⟨hin, ?_⟩)))
  have a2' : a_count (nI i).toNatClampNeg = nI c := by rw [hcl]; exact a2
  rw [a2']
  exact xh_cb (g := true) hT hR hl (fun tk tw tp tv h1 h2 => H _ (xe_eff hS0 (fun j hj S hS => hS) h1 h2))
theorem xh_c11 {post : SX → Prop} {i t s d c : Nat} {a b fr h hy : Int32} {f fy qx ox oy sd : Bool} {q : List (Int32 × Nat)} {R : List Tk} (hx : HA f_time a_partStage a_stageKind a_stageA a_stageB i t s 11 a b) (hS : RepA a_due a_count a_held a_heldY a_hasHeld a_hasHeldY a_queueSize a_queueIsOfX a_queueValue a_queueDue i (d, c, h, hy, f, fy, qx, q, ox, oy)) (ok : okS 11 b (d, c, h, hy, f, fy, qx, q, ox, oy)) (hT : f_tasks = nI R.length) (hR : rps a_taskWhat a_taskPart a_taskValue R) (hl : R.length + 2 ≤ 128)   (H : ∀ u', Eff (f_time, f_sent, f_stageCount, f_tasks, a_sourceEnded, a_stageKind, a_stageA, a_stageB, a_stageParts, a_partStage, a_partUser, a_partX, a_partY, a_phase, a_beganAfter, a_due, a_count, a_held, a_heldY, a_hasHeld, a_hasHeldY, a_queueSize, a_queueIsOfX, a_queueValue, a_queueDue, a_subStatus, a_subCode, a_subEnd, a_subDemand, a_subRequests, a_subDelivered, a_subWaiting, a_waitValue, a_history, a_taskWhat, a_taskPart, a_taskValue) u' i (hc 11 b t sd (d, c, h, hy, f, fy, qx, q, ox, oy)).1 (hc 11 b t sd (d, c, h, hy, f, fy, qx, q, ox, oy)).2 R → post u') : wpX_hearComplete post (f_time, f_sent, f_stageCount, f_tasks, a_sourceEnded, a_stageKind, a_stageA, a_stageB, a_stageParts, a_partStage, a_partUser, a_partX, a_partY, a_phase, a_beganAfter, a_due, a_count, a_held, a_heldY, a_hasHeld, a_hasHeldY, a_queueSize, a_queueIsOfX, a_queueValue, a_queueDue, a_subStatus, a_subCode, a_subEnd, a_subDemand, a_subRequests, a_subDelivered, a_subWaiting, a_waitValue, a_history, a_taskWhat, a_taskPart, a_taskValue) (nI i) fr := by
  obtain ⟨h27, ht, ht2, hps, hs, hk, ha, hb, ho⟩ := hx
  have hS0 := hS
  obtain ⟨a1, a2, a3, a4, a5, a6, a7, a8, a9, a10⟩ := hS
  have hcl : (nI i).toNatClampNeg = i := nI_clamp (by omega)
  have hcs : (nI s).toNatClampNeg = s := nI_clamp (by omega)
  have hin : vp_in (nI i) 27 := vp_in_nI h27 (by decide)
  have his : vp_in (nI s) 12 := vp_in_nI hs (by decide)
  have hps' : a_partStage (nI i).toNatClampNeg = nI s := by rw [hcl]; exact hps
  refine ⟨hin, nm_r (e' := nI s) hps' ⟨his, nm_r (e' := nI 11) (by rw [hcs]; exact hk) ?_⟩⟩
  iterate 4 (refine br_f (by decide) ?_)
  have hb11 := ho.2.2.2.2.2.2 (by decide) (by decide)
  have ht' : f_time = nI t := ht
  have ed : f_time + a_stageB (nI s).toNatClampNeg = dI (t + cl b) := by rw [ht', hcs, xd_dIp (by omega), ← nI_add, ← hb11.2.2]; exact congrArg _ hb
  refine br_t rfl ⟨his, hin, nm_r (e' := upd a_due i (dI (t + cl b))) (by rw [ed, hcl]) ?_⟩
  exact H _ (xe_eff ⟨pk_us, a2, a3, a4, a5, a6, a7, a8, a9, a10⟩ (fun j hj S hS => xd_frame hS (pk_un hj) rfl rfl rfl rfl rfl rfl rfl (fun r hr => ⟨rfl, rfl⟩)) hT hR)
theorem xh_c12 {post : SX → Prop} {i t s d c : Nat} {a b fr h hy : Int32} {f fy qx ox oy sd : Bool} {q : List (Int32 × Nat)} {R : List Tk} (hx : HA f_time a_partStage a_stageKind a_stageA a_stageB i t s 12 a b) (hS : RepA a_due a_count a_held a_heldY a_hasHeld a_hasHeldY a_queueSize a_queueIsOfX a_queueValue a_queueDue i (d, c, h, hy, f, fy, qx, q, ox, oy)) (ok : okS 12 b (d, c, h, hy, f, fy, qx, q, ox, oy)) (hT : f_tasks = nI R.length) (hR : rps a_taskWhat a_taskPart a_taskValue R) (hl : R.length + 2 ≤ 128)   (H : ∀ u', Eff (f_time, f_sent, f_stageCount, f_tasks, a_sourceEnded, a_stageKind, a_stageA, a_stageB, a_stageParts, a_partStage, a_partUser, a_partX, a_partY, a_phase, a_beganAfter, a_due, a_count, a_held, a_heldY, a_hasHeld, a_hasHeldY, a_queueSize, a_queueIsOfX, a_queueValue, a_queueDue, a_subStatus, a_subCode, a_subEnd, a_subDemand, a_subRequests, a_subDelivered, a_subWaiting, a_waitValue, a_history, a_taskWhat, a_taskPart, a_taskValue) u' i (hc 12 b t sd (d, c, h, hy, f, fy, qx, q, ox, oy)).1 (hc 12 b t sd (d, c, h, hy, f, fy, qx, q, ox, oy)).2 R → post u') : wpX_hearComplete post (f_time, f_sent, f_stageCount, f_tasks, a_sourceEnded, a_stageKind, a_stageA, a_stageB, a_stageParts, a_partStage, a_partUser, a_partX, a_partY, a_phase, a_beganAfter, a_due, a_count, a_held, a_heldY, a_hasHeld, a_hasHeldY, a_queueSize, a_queueIsOfX, a_queueValue, a_queueDue, a_subStatus, a_subCode, a_subEnd, a_subDemand, a_subRequests, a_subDelivered, a_subWaiting, a_waitValue, a_history, a_taskWhat, a_taskPart, a_taskValue) (nI i) fr := by
  obtain ⟨h27, ht, ht2, hps, hs, hk, ha, hb, ho⟩ := hx
  have hS0 := hS
  obtain ⟨a1, a2, a3, a4, a5, a6, a7, a8, a9, a10⟩ := hS
  have hcl : (nI i).toNatClampNeg = i := nI_clamp (by omega)
  have hcs : (nI s).toNatClampNeg = s := nI_clamp (by omega)
  have hin : vp_in (nI i) 27 := vp_in_nI h27 (by decide)
  have his : vp_in (nI s) 12 := vp_in_nI hs (by decide)
  have hps' : a_partStage (nI i).toNatClampNeg = nI s := by rw [hcl]; exact hps
  refine ⟨hin, nm_r (e' := nI s) hps' ⟨his, nm_r (e' := nI 12) (by rw [hcs]; exact hk) ?_⟩⟩
  iterate 5 (refine br_f (by decide) ?_)
  refine br_t rfl ⟨hin, ?_⟩
  have a1' : a_due (nI i).toNatClampNeg = dI d := by rw [hcl]; exact a1
  have a3' : a_held (nI i).toNatClampNeg = h := by rw [hcl]; exact a3
  have hd : d < 1000 := ok.1
  have hgo : ∀ g : Bool, (hc 12 b t sd (d, c, h, hy, f, fy, qx, q, ox, oy) = ((d, c, h, hy, f, fy, qx, q, ox, oy), if g = true then [(1, h), (2, 0)] else [(2, 0)])) → wX_hearComplete_152 post (nI i) (bI g) (nI i) f_time f_sent f_stageCount f_tasks a_sourceEnded a_stageKind a_stageA a_stageB a_stageParts a_partStage a_partUser a_partX a_partY a_phase a_beganAfter a_due a_count a_held a_heldY a_hasHeld a_hasHeldY a_queueSize a_queueIsOfX a_queueValue a_queueDue a_subStatus a_subCode a_subEnd a_subDemand a_subRequests a_subDelivered a_subWaiting a_waitValue a_history a_taskWhat a_taskPart a_taskValue := by
    intro g eg
    rw [eg] at H
    refine ⟨hin, ?_⟩
    rw [a3']
    exact xh_cb hT hR hl (fun tk tw tp tv h1 h2 => H _ (xe_eff hS0 (fun j hj S hS => hS) h1 h2))
  by_cases hv : d = 0
  · exact br_t (by rw [a1', xd_dIm hd]; exact hv) (hgo false (by simp [hc, hv]))
  · exact br_f (by rw [a1', xd_dIm hd]; exact hv) (hgo true (by simp [hc, hv]))
theorem xh_c16 {post : SX → Prop} {i t s d c xi yi fr : Nat} {a b h hy : Int32} {f fy qx ox oy sd : Bool} {q : List (Int32 × Nat)} {R : List Tk} (hx : HA f_time a_partStage a_stageKind a_stageA a_stageB i t s 16 a b) (hS : RepA a_due a_count a_held a_heldY a_hasHeld a_hasHeldY a_queueSize a_queueIsOfX a_queueValue a_queueDue i (d, c, h, hy, f, fy, qx, q, ox, oy)) (ok : okS 16 b (d, c, h, hy, f, fy, qx, q, ox, oy)) (hT : f_tasks = nI R.length) (hR : rps a_taskWhat a_taskPart a_taskValue R) (hl : R.length + 2 ≤ 128) (hX : a_partX i = nI xi) (hY : a_partY i = nI yi) (hx27 : xi < 27) (hy27 : yi < 27) (hne : xi ≠ yi) (hfr : fr = if sd = true then xi else yi) (hph : a_phase (if sd = true then yi else xi) = 2 ↔ (if sd = true then oy else ox) = true) (H : ∀ u', Eff (f_time, f_sent, f_stageCount, f_tasks, a_sourceEnded, a_stageKind, a_stageA, a_stageB, a_stageParts, a_partStage, a_partUser, a_partX, a_partY, a_phase, a_beganAfter, a_due, a_count, a_held, a_heldY, a_hasHeld, a_hasHeldY, a_queueSize, a_queueIsOfX, a_queueValue, a_queueDue, a_subStatus, a_subCode, a_subEnd, a_subDemand, a_subRequests, a_subDelivered, a_subWaiting, a_waitValue, a_history, a_taskWhat, a_taskPart, a_taskValue) u' i (hc 16 b t sd (d, c, h, hy, f, fy, qx, q, ox, oy)).1 (hc 16 b t sd (d, c, h, hy, f, fy, qx, q, ox, oy)).2 R → post u') : wpX_hearComplete post (f_time, f_sent, f_stageCount, f_tasks, a_sourceEnded, a_stageKind, a_stageA, a_stageB, a_stageParts, a_partStage, a_partUser, a_partX, a_partY, a_phase, a_beganAfter, a_due, a_count, a_held, a_heldY, a_hasHeld, a_hasHeldY, a_queueSize, a_queueIsOfX, a_queueValue, a_queueDue, a_subStatus, a_subCode, a_subEnd, a_subDemand, a_subRequests, a_subDelivered, a_subWaiting, a_waitValue, a_history, a_taskWhat, a_taskPart, a_taskValue) (nI i) (nI fr) := by
  obtain ⟨h27, ht, ht2, hps, hs, hk, ha, hb, ho⟩ := hx
  have hS0 := hS
  obtain ⟨a1, a2, a3, a4, a5, a6, a7, a8, a9, a10⟩ := hS
  have hcl : (nI i).toNatClampNeg = i := nI_clamp (by omega)
  have hcs : (nI s).toNatClampNeg = s := nI_clamp (by omega)
  have hin : vp_in (nI i) 27 := vp_in_nI h27 (by decide)
  have his : vp_in (nI s) 12 := vp_in_nI hs (by decide)
  have hps' : a_partStage (nI i).toNatClampNeg = nI s := by rw [hcl]; exact hps
  have hX' : a_partX (nI i).toNatClampNeg = nI xi := by rw [hcl]; exact hX
  have hY' : a_partY (nI i).toNatClampNeg = nI yi := by rw [hcl]; exact hY
  have hsd := xh_side (i := i) hx27 hy27 hne hfr
  refine ⟨hin, nm_r (e' := nI s) hps' ⟨his, nm_r (e' := nI 16) (by rw [hcs]; exact hk) ?_⟩⟩
  iterate 9 (refine br_f (by decide) ?_)
  refine br_t rfl ?_
  have ho27 : (if sd = true then yi else xi) < 27 := by split <;> omega
  have hco : (nI (if sd = true then yi else xi)).toNatClampNeg = (if sd = true then yi else xi) := nI_clamp (by omega)
  have hoi : vp_in (nI (if sd = true then yi else xi)) 27 := vp_in_nI ho27 (by decide)
  have e1 : vp_in (a_partStage (nI i).toNatClampNeg) 12 := by rw [hps']; exact his
  have a8' : a_queueSize (nI i).toNatClampNeg = nI q.length := by rw [hcl]; exact a8
  have a5' : a_hasHeld (nI i).toNatClampNeg = bI f := by rw [hcl]; exact a5
  have a6' : a_hasHeldY (nI i).toNatClampNeg = bI fy := by rw [hcl]; exact a6
  have hrep : RepA a_due a_count a_held a_heldY a_hasHeld a_hasHeldY a_queueSize a_queueIsOfX a_queueValue a_queueDue i (hc 16 b t sd (d, c, h, hy, f, fy, qx, q, ox, oy)).1 := by cases sd <;> exact hS0
  have yes : (hc 16 b t sd (d, c, h, hy, f, fy, qx, q, ox, oy)).2 = [(2, 0)] → ((((1 : Int32) = 0 → (post (f_time, f_sent, f_stageCount, f_tasks, a_sourceEnded, a_stageKind, a_stageA, a_stageB, a_stageParts, a_partStage, a_partUser, a_partX, a_partY, a_phase, a_beganAfter, a_due, a_count, a_held, a_heldY, a_hasHeld, a_hasHeldY, a_queueSize, a_queueIsOfX, a_queueValue, a_queueDue, a_subStatus, a_subCode, a_subEnd, a_subDemand, a_subRequests, a_subDelivered, a_subWaiting, a_waitValue, a_history, a_taskWhat, a_taskPart, a_taskValue))) ∧ (¬ (1 : Int32) = 0 → (wpX_push (fun u => post u) (f_time, f_sent, f_stageCount, f_tasks, a_sourceEnded, a_stageKind, a_stageA, a_stageB, a_stageParts, a_partStage, a_partUser, a_partX, a_partY, a_phase, a_beganAfter, a_due, a_count, a_held, a_heldY, a_hasHeld, a_hasHeldY, a_queueSize, a_queueIsOfX, a_queueValue, a_queueDue, a_subStatus, a_subCode, a_subEnd, a_subDemand, a_subRequests, a_subDelivered, a_subWaiting, a_waitValue, a_history, a_taskWhat, a_taskPart, a_taskValue) 2 (nI i) 0)))) := by
    intro e
    rw [e] at H
    exact br_f (by decide) (xw_push hT (by omega) (H _ (xe_eff hrep (fun j hj S hS => hS) rfl (xd_rps_push (w := 2) hR))))
  have no : (hc 16 b t sd (d, c, h, hy, f, fy, qx, q, ox, oy)).2 = [] → ((((0 : Int32) = 0 → (post (f_time, f_sent, f_stageCount, f_tasks, a_sourceEnded, a_stageKind, a_stageA, a_stageB, a_stageParts, a_partStage, a_partUser, a_partX, a_partY, a_phase, a_beganAfter, a_due, a_count, a_held, a_heldY, a_hasHeld, a_hasHeldY, a_queueSize, a_queueIsOfX, a_queueValue, a_queueDue, a_subStatus, a_subCode, a_subEnd, a_subDemand, a_subRequests, a_subDelivered, a_subWaiting, a_waitValue, a_history, a_taskWhat, a_taskPart, a_taskValue))) ∧ (¬ (0 : Int32) = 0 → (wpX_push (fun u => post u) (f_time, f_sent, f_stageCount, f_tasks, a_sourceEnded, a_stageKind, a_stageA, a_stageB, a_stageParts, a_partStage, a_partUser, a_partX, a_partY, a_phase, a_beganAfter, a_due, a_count, a_held, a_heldY, a_hasHeld, a_hasHeldY, a_queueSize, a_queueIsOfX, a_queueValue, a_queueDue, a_subStatus, a_subCode, a_subEnd, a_subDemand, a_subRequests, a_subDelivered, a_subWaiting, a_waitValue, a_history, a_taskWhat, a_taskPart, a_taskValue) 2 (nI i) 0)))) := by
    intro e
    rw [e] at H
    exact br_t rfl (H _ (xe_eff hrep (fun j hj S hS => hS) hT hR))
  refine ⟨hin, ?_⟩
  have step : wX_endsWithSide_15 (fun r_177 => (((r_177 = 0 → (post (f_time, f_sent, f_stageCount, f_tasks, a_sourceEnded, a_stageKind, a_stageA, a_stageB, a_stageParts, a_partStage, a_partUser, a_partX, a_partY, a_phase, a_beganAfter, a_due, a_count, a_held, a_heldY, a_hasHeld, a_hasHeldY, a_queueSize, a_queueIsOfX, a_queueValue, a_queueDue, a_subStatus, a_subCode, a_subEnd, a_subDemand, a_subRequests, a_subDelivered, a_subWaiting, a_waitValue, a_history, a_taskWhat, a_taskPart, a_taskValue))) ∧ (¬ r_177 = 0 → (wpX_push (fun u => post u) (f_time, f_sent, f_stageCount, f_tasks, a_sourceEnded, a_stageKind, a_stageA, a_stageB, a_stageParts, a_partStage, a_partUser, a_partX, a_partY, a_phase, a_beganAfter, a_due, a_count, a_held, a_heldY, a_hasHeld, a_hasHeldY, a_queueSize, a_queueIsOfX, a_queueValue, a_queueDue, a_subStatus, a_subCode, a_subEnd, a_subDemand, a_subRequests, a_subDelivered, a_subWaiting, a_waitValue, a_history, a_taskWhat, a_taskPart, a_taskValue) 2 (nI i) 0))))) (nI i) (nI fr) (bI sd) f_time f_sent f_stageCount f_tasks a_sourceEnded a_stageKind a_stageA a_stageB a_stageParts a_partStage a_partUser a_partX a_partY a_phase a_beganAfter a_due a_count a_held a_heldY a_hasHeld a_hasHeldY a_queueSize a_queueIsOfX a_queueValue a_queueDue a_subStatus a_subCode a_subEnd a_subDemand a_subRequests a_subDelivered a_subWaiting a_waitValue a_history a_taskWhat a_taskPart a_taskValue := by
    refine xh_other h27 hX hY hx27 hy27 hne hfr ⟨hin, e1, nm_r (e' := nI 16) (by rw [hps', hcs]; exact hk) ?_⟩
    refine br_f (by decide) (br_f (by decide) ⟨hoi, ?_⟩)
    by_cases hv : (if sd = true then oy else ox) = true
    · exact br_t (by rw [hco, hph]; exact hv) (yes (by cases sd <;> simp_all [hc]))
    · exact br_f (by rw [hco, hph]; exact hv) (no (by cases sd <;> simp_all [hc]))
  by_cases hs2 : sd = true
  · subst hs2
    exact br_t (by rw [hX', hsd]) step
  · have hs3 : sd = false := by simpa using hs2
    subst hs3
    exact br_f (by rw [hX', hsd]; decide) step
theorem xh_c17 {post : SX → Prop} {i t s d c xi yi fr : Nat} {a b h hy : Int32} {f fy qx ox oy sd : Bool} {q : List (Int32 × Nat)} {R : List Tk} (hx : HA f_time a_partStage a_stageKind a_stageA a_stageB i t s 17 a b) (hS : RepA a_due a_count a_held a_heldY a_hasHeld a_hasHeldY a_queueSize a_queueIsOfX a_queueValue a_queueDue i (d, c, h, hy, f, fy, qx, q, ox, oy)) (ok : okS 17 b (d, c, h, hy, f, fy, qx, q, ox, oy)) (hT : f_tasks = nI R.length) (hR : rps a_taskWhat a_taskPart a_taskValue R) (hl : R.length + 2 ≤ 128) (hX : a_partX i = nI xi) (hY : a_partY i = nI yi) (hx27 : xi < 27) (hy27 : yi < 27) (hne : xi ≠ yi) (hfr : fr = if sd = true then xi else yi) (hph : a_phase (if sd = true then yi else xi) = 2 ↔ (if sd = true then oy else ox) = true) (H : ∀ u', Eff (f_time, f_sent, f_stageCount, f_tasks, a_sourceEnded, a_stageKind, a_stageA, a_stageB, a_stageParts, a_partStage, a_partUser, a_partX, a_partY, a_phase, a_beganAfter, a_due, a_count, a_held, a_heldY, a_hasHeld, a_hasHeldY, a_queueSize, a_queueIsOfX, a_queueValue, a_queueDue, a_subStatus, a_subCode, a_subEnd, a_subDemand, a_subRequests, a_subDelivered, a_subWaiting, a_waitValue, a_history, a_taskWhat, a_taskPart, a_taskValue) u' i (hc 17 b t sd (d, c, h, hy, f, fy, qx, q, ox, oy)).1 (hc 17 b t sd (d, c, h, hy, f, fy, qx, q, ox, oy)).2 R → post u') : wpX_hearComplete post (f_time, f_sent, f_stageCount, f_tasks, a_sourceEnded, a_stageKind, a_stageA, a_stageB, a_stageParts, a_partStage, a_partUser, a_partX, a_partY, a_phase, a_beganAfter, a_due, a_count, a_held, a_heldY, a_hasHeld, a_hasHeldY, a_queueSize, a_queueIsOfX, a_queueValue, a_queueDue, a_subStatus, a_subCode, a_subEnd, a_subDemand, a_subRequests, a_subDelivered, a_subWaiting, a_waitValue, a_history, a_taskWhat, a_taskPart, a_taskValue) (nI i) (nI fr) := by
  obtain ⟨h27, ht, ht2, hps, hs, hk, ha, hb, ho⟩ := hx
  have hS0 := hS
  obtain ⟨a1, a2, a3, a4, a5, a6, a7, a8, a9, a10⟩ := hS
  have hcl : (nI i).toNatClampNeg = i := nI_clamp (by omega)
  have hcs : (nI s).toNatClampNeg = s := nI_clamp (by omega)
  have hin : vp_in (nI i) 27 := vp_in_nI h27 (by decide)
  have his : vp_in (nI s) 12 := vp_in_nI hs (by decide)
  have hps' : a_partStage (nI i).toNatClampNeg = nI s := by rw [hcl]; exact hps
  have hX' : a_partX (nI i).toNatClampNeg = nI xi := by rw [hcl]; exact hX
  have hY' : a_partY (nI i).toNatClampNeg = nI yi := by rw [hcl]; exact hY
  have hsd := xh_side (i := i) hx27 hy27 hne hfr
  refine ⟨hin, nm_r (e' := nI s) hps' ⟨his, nm_r (e' := nI 17) (by rw [hcs]; exact hk) ?_⟩⟩
  iterate 10 (refine br_f (by decide) ?_)
  refine br_t rfl ?_
  have ho27 : (if sd = true then yi else xi) < 27 := by split <;> omega
  have hco : (nI (if sd = true then yi else xi)).toNatClampNeg = (if sd = true then yi else xi) := nI_clamp (by omega)
  have hoi : vp_in (nI (if sd = true then yi else xi)) 27 := vp_in_nI ho27 (by decide)
  have e1 : vp_in (a_partStage (nI i).toNatClampNeg) 12 := by rw [hps']; exact his
  have a8' : a_queueSize (nI i).toNatClampNeg = nI q.length := by rw [hcl]; exact a8
  have a5' : a_hasHeld (nI i).toNatClampNeg = bI f := by rw [hcl]; exact a5
  have a6' : a_hasHeldY (nI i).toNatClampNeg = bI fy := by rw [hcl]; exact a6
  have hrep : RepA a_due a_count a_held a_heldY a_hasHeld a_hasHeldY a_queueSize a_queueIsOfX a_queueValue a_queueDue i (hc 17 b t sd (d, c, h, hy, f, fy, qx, q, ox, oy)).1 := by cases sd <;> exact hS0
  have yes : (hc 17 b t sd (d, c, h, hy, f, fy, qx, q, ox, oy)).2 = [(2, 0)] → ((((1 : Int32) = 0 → (post (f_time, f_sent, f_stageCount, f_tasks, a_sourceEnded, a_stageKind, a_stageA, a_stageB, a_stageParts, a_partStage, a_partUser, a_partX, a_partY, a_phase, a_beganAfter, a_due, a_count, a_held, a_heldY, a_hasHeld, a_hasHeldY, a_queueSize, a_queueIsOfX, a_queueValue, a_queueDue, a_subStatus, a_subCode, a_subEnd, a_subDemand, a_subRequests, a_subDelivered, a_subWaiting, a_waitValue, a_history, a_taskWhat, a_taskPart, a_taskValue))) ∧ (¬ (1 : Int32) = 0 → (wpX_push (fun u => post u) (f_time, f_sent, f_stageCount, f_tasks, a_sourceEnded, a_stageKind, a_stageA, a_stageB, a_stageParts, a_partStage, a_partUser, a_partX, a_partY, a_phase, a_beganAfter, a_due, a_count, a_held, a_heldY, a_hasHeld, a_hasHeldY, a_queueSize, a_queueIsOfX, a_queueValue, a_queueDue, a_subStatus, a_subCode, a_subEnd, a_subDemand, a_subRequests, a_subDelivered, a_subWaiting, a_waitValue, a_history, a_taskWhat, a_taskPart, a_taskValue) 2 (nI i) 0)))) := by
    intro e
    rw [e] at H
    exact br_f (by decide) (xw_push hT (by omega) (H _ (xe_eff hrep (fun j hj S hS => hS) rfl (xd_rps_push (w := 2) hR))))
  have no : (hc 17 b t sd (d, c, h, hy, f, fy, qx, q, ox, oy)).2 = [] → ((((0 : Int32) = 0 → (post (f_time, f_sent, f_stageCount, f_tasks, a_sourceEnded, a_stageKind, a_stageA, a_stageB, a_stageParts, a_partStage, a_partUser, a_partX, a_partY, a_phase, a_beganAfter, a_due, a_count, a_held, a_heldY, a_hasHeld, a_hasHeldY, a_queueSize, a_queueIsOfX, a_queueValue, a_queueDue, a_subStatus, a_subCode, a_subEnd, a_subDemand, a_subRequests, a_subDelivered, a_subWaiting, a_waitValue, a_history, a_taskWhat, a_taskPart, a_taskValue))) ∧ (¬ (0 : Int32) = 0 → (wpX_push (fun u => post u) (f_time, f_sent, f_stageCount, f_tasks, a_sourceEnded, a_stageKind, a_stageA, a_stageB, a_stageParts, a_partStage, a_partUser, a_partX, a_partY, a_phase, a_beganAfter, a_due, a_count, a_held, a_heldY, a_hasHeld, a_hasHeldY, a_queueSize, a_queueIsOfX, a_queueValue, a_queueDue, a_subStatus, a_subCode, a_subEnd, a_subDemand, a_subRequests, a_subDelivered, a_subWaiting, a_waitValue, a_history, a_taskWhat, a_taskPart, a_taskValue) 2 (nI i) 0)))) := by
    intro e
    rw [e] at H
    exact br_t rfl (H _ (xe_eff hrep (fun j hj S hS => hS) hT hR))
  refine ⟨hin, ?_⟩
  have step : wX_endsWithSide_15 (fun r_177 => (((r_177 = 0 → (post (f_time, f_sent, f_stageCount, f_tasks, a_sourceEnded, a_stageKind, a_stageA, a_stageB, a_stageParts, a_partStage, a_partUser, a_partX, a_partY, a_phase, a_beganAfter, a_due, a_count, a_held, a_heldY, a_hasHeld, a_hasHeldY, a_queueSize, a_queueIsOfX, a_queueValue, a_queueDue, a_subStatus, a_subCode, a_subEnd, a_subDemand, a_subRequests, a_subDelivered, a_subWaiting, a_waitValue, a_history, a_taskWhat, a_taskPart, a_taskValue))) ∧ (¬ r_177 = 0 → (wpX_push (fun u => post u) (f_time, f_sent, f_stageCount, f_tasks, a_sourceEnded, a_stageKind, a_stageA, a_stageB, a_stageParts, a_partStage, a_partUser, a_partX, a_partY, a_phase, a_beganAfter, a_due, a_count, a_held, a_heldY, a_hasHeld, a_hasHeldY, a_queueSize, a_queueIsOfX, a_queueValue, a_queueDue, a_subStatus, a_subCode, a_subEnd, a_subDemand, a_subRequests, a_subDelivered, a_subWaiting, a_waitValue, a_history, a_taskWhat, a_taskPart, a_taskValue) 2 (nI i) 0))))) (nI i) (nI fr) (bI sd) f_time f_sent f_stageCount f_tasks a_sourceEnded a_stageKind a_stageA a_stageB a_stageParts a_partStage a_partUser a_partX a_partY a_phase a_beganAfter a_due a_count a_held a_heldY a_hasHeld a_hasHeldY a_queueSize a_queueIsOfX a_queueValue a_queueDue a_subStatus a_subCode a_subEnd a_subDemand a_subRequests a_subDelivered a_subWaiting a_waitValue a_history a_taskWhat a_taskPart a_taskValue := by
    refine xh_other h27 hX hY hx27 hy27 hne hfr ⟨hin, e1, nm_r (e' := nI 17) (by rw [hps', hcs]; exact hk) ?_⟩
    refine br_t rfl ⟨hin, ?_⟩
    have o7 := ok.2.2.2.2.2.2 rfl
    cases q with
    | nil => exact br_t (by rw [a8']; rfl) (yes (by simp [hc]))
    | cons x r =>
      have a7' : a_queueIsOfX (nI i).toNatClampNeg = bI qx := by rw [hcl]; exact a7 ⟨x, by simp, o7 x (by simp)⟩
      refine br_f (by rw [a8']; exact nI_ne0 (by simp) (by have : (x :: r).length ≤ 8 := a9; omega)) ⟨hin, ?_⟩
      by_cases hq : qx = sd
      · exact br_t (by rw [a7', hq]) (no (by simp [hc, hq]))
      · exact br_f (by rw [a7', xd_bI]; exact hq) (yes (by simp [hc, hq]))
  by_cases hs2 : sd = true
  · subst hs2
    exact br_t (by rw [hX', hsd]) step
  · have hs3 : sd = false := by simpa using hs2
    subst hs3
    exact br_f (by rw [hX', hsd]; decide) step
theorem xh_c18 {post : SX → Prop} {i t s d c xi yi fr : Nat} {a b h hy : Int32} {f fy qx ox oy sd : Bool} {q : List (Int32 × Nat)} {R : List Tk} (hx : HA f_time a_partStage a_stageKind a_stageA a_stageB i t s 18 a b) (hS : RepA a_due a_count a_held a_heldY a_hasHeld a_hasHeldY a_queueSize a_queueIsOfX a_queueValue a_queueDue i (d, c, h, hy, f, fy, qx, q, ox, oy)) (ok : okS 18 b (d, c, h, hy, f, fy, qx, q, ox, oy)) (hT : f_tasks = nI R.length) (hR : rps a_taskWhat a_taskPart a_taskValue R) (hl : R.length + 2 ≤ 128) (hX : a_partX i = nI xi) (hY : a_partY i = nI yi) (hx27 : xi < 27) (hy27 : yi < 27) (hne : xi ≠ yi) (hfr : fr = if sd = true then xi else yi) (hph : a_phase (if sd = true then yi else xi) = 2 ↔ (if sd = true then oy else ox) = true) (H : ∀ u', Eff (f_time, f_sent, f_stageCount, f_tasks, a_sourceEnded, a_stageKind, a_stageA, a_stageB, a_stageParts, a_partStage, a_partUser, a_partX, a_partY, a_phase, a_beganAfter, a_due, a_count, a_held, a_heldY, a_hasHeld, a_hasHeldY, a_queueSize, a_queueIsOfX, a_queueValue, a_queueDue, a_subStatus, a_subCode, a_subEnd, a_subDemand, a_subRequests, a_subDelivered, a_subWaiting, a_waitValue, a_history, a_taskWhat, a_taskPart, a_taskValue) u' i (hc 18 b t sd (d, c, h, hy, f, fy, qx, q, ox, oy)).1 (hc 18 b t sd (d, c, h, hy, f, fy, qx, q, ox, oy)).2 R → post u') : wpX_hearComplete post (f_time, f_sent, f_stageCount, f_tasks, a_sourceEnded, a_stageKind, a_stageA, a_stageB, a_stageParts, a_partStage, a_partUser, a_partX, a_partY, a_phase, a_beganAfter, a_due, a_count, a_held, a_heldY, a_hasHeld, a_hasHeldY, a_queueSize, a_queueIsOfX, a_queueValue, a_queueDue, a_subStatus, a_subCode, a_subEnd, a_subDemand, a_subRequests, a_subDelivered, a_subWaiting, a_waitValue, a_history, a_taskWhat, a_taskPart, a_taskValue) (nI i) (nI fr) := by
  obtain ⟨h27, ht, ht2, hps, hs, hk, ha, hb, ho⟩ := hx
  have hS0 := hS
  obtain ⟨a1, a2, a3, a4, a5, a6, a7, a8, a9, a10⟩ := hS
  have hcl : (nI i).toNatClampNeg = i := nI_clamp (by omega)
  have hcs : (nI s).toNatClampNeg = s := nI_clamp (by omega)
  have hin : vp_in (nI i) 27 := vp_in_nI h27 (by decide)
  have his : vp_in (nI s) 12 := vp_in_nI hs (by decide)
  have hps' : a_partStage (nI i).toNatClampNeg = nI s := by rw [hcl]; exact hps
  have hX' : a_partX (nI i).toNatClampNeg = nI xi := by rw [hcl]; exact hX
  have hY' : a_partY (nI i).toNatClampNeg = nI yi := by rw [hcl]; exact hY
  have hsd := xh_side (i := i) hx27 hy27 hne hfr
  refine ⟨hin, nm_r (e' := nI s) hps' ⟨his, nm_r (e' := nI 18) (by rw [hcs]; exact hk) ?_⟩⟩
  iterate 11 (refine br_f (by decide) ?_)
  refine br_t rfl ?_
  have ho27 : (if sd = true then yi else xi) < 27 := by split <;> omega
  have hco : (nI (if sd = true then yi else xi)).toNatClampNeg = (if sd = true then yi else xi) := nI_clamp (by omega)
  have hoi : vp_in (nI (if sd = true then yi else xi)) 27 := vp_in_nI ho27 (by decide)
  have e1 : vp_in (a_partStage (nI i).toNatClampNeg) 12 := by rw [hps']; exact his
  have a8' : a_queueSize (nI i).toNatClampNeg = nI q.length := by rw [hcl]; exact a8
  have a5' : a_hasHeld (nI i).toNatClampNeg = bI f := by rw [hcl]; exact a5
  have a6' : a_hasHeldY (nI i).toNatClampNeg = bI fy := by rw [hcl]; exact a6
  have hrep : RepA a_due a_count a_held a_heldY a_hasHeld a_hasHeldY a_queueSize a_queueIsOfX a_queueValue a_queueDue i (hc 18 b t sd (d, c, h, hy, f, fy, qx, q, ox, oy)).1 := by cases sd <;> exact hS0
  have yes : (hc 18 b t sd (d, c, h, hy, f, fy, qx, q, ox, oy)).2 = [(2, 0)] → ((((1 : Int32) = 0 → (post (f_time, f_sent, f_stageCount, f_tasks, a_sourceEnded, a_stageKind, a_stageA, a_stageB, a_stageParts, a_partStage, a_partUser, a_partX, a_partY, a_phase, a_beganAfter, a_due, a_count, a_held, a_heldY, a_hasHeld, a_hasHeldY, a_queueSize, a_queueIsOfX, a_queueValue, a_queueDue, a_subStatus, a_subCode, a_subEnd, a_subDemand, a_subRequests, a_subDelivered, a_subWaiting, a_waitValue, a_history, a_taskWhat, a_taskPart, a_taskValue))) ∧ (¬ (1 : Int32) = 0 → (wpX_push (fun u => post u) (f_time, f_sent, f_stageCount, f_tasks, a_sourceEnded, a_stageKind, a_stageA, a_stageB, a_stageParts, a_partStage, a_partUser, a_partX, a_partY, a_phase, a_beganAfter, a_due, a_count, a_held, a_heldY, a_hasHeld, a_hasHeldY, a_queueSize, a_queueIsOfX, a_queueValue, a_queueDue, a_subStatus, a_subCode, a_subEnd, a_subDemand, a_subRequests, a_subDelivered, a_subWaiting, a_waitValue, a_history, a_taskWhat, a_taskPart, a_taskValue) 2 (nI i) 0)))) := by
    intro e
    rw [e] at H
    exact br_f (by decide) (xw_push hT (by omega) (H _ (xe_eff hrep (fun j hj S hS => hS) rfl (xd_rps_push (w := 2) hR))))
  have no : (hc 18 b t sd (d, c, h, hy, f, fy, qx, q, ox, oy)).2 = [] → ((((0 : Int32) = 0 → (post (f_time, f_sent, f_stageCount, f_tasks, a_sourceEnded, a_stageKind, a_stageA, a_stageB, a_stageParts, a_partStage, a_partUser, a_partX, a_partY, a_phase, a_beganAfter, a_due, a_count, a_held, a_heldY, a_hasHeld, a_hasHeldY, a_queueSize, a_queueIsOfX, a_queueValue, a_queueDue, a_subStatus, a_subCode, a_subEnd, a_subDemand, a_subRequests, a_subDelivered, a_subWaiting, a_waitValue, a_history, a_taskWhat, a_taskPart, a_taskValue))) ∧ (¬ (0 : Int32) = 0 → (wpX_push (fun u => post u) (f_time, f_sent, f_stageCount, f_tasks, a_sourceEnded, a_stageKind, a_stageA, a_stageB, a_stageParts, a_partStage, a_partUser, a_partX, a_partY, a_phase, a_beganAfter, a_due, a_count, a_held, a_heldY, a_hasHeld, a_hasHeldY, a_queueSize, a_queueIsOfX, a_queueValue, a_queueDue, a_subStatus, a_subCode, a_subEnd, a_subDemand, a_subRequests, a_subDelivered, a_subWaiting, a_waitValue, a_history, a_taskWhat, a_taskPart, a_taskValue) 2 (nI i) 0)))) := by
    intro e
    rw [e] at H
    exact br_t rfl (H _ (xe_eff hrep (fun j hj S hS => hS) hT hR))
  refine ⟨hin, ?_⟩
  have step : wX_endsWithSide_15 (fun r_177 => (((r_177 = 0 → (post (f_time, f_sent, f_stageCount, f_tasks, a_sourceEnded, a_stageKind, a_stageA, a_stageB, a_stageParts, a_partStage, a_partUser, a_partX, a_partY, a_phase, a_beganAfter, a_due, a_count, a_held, a_heldY, a_hasHeld, a_hasHeldY, a_queueSize, a_queueIsOfX, a_queueValue, a_queueDue, a_subStatus, a_subCode, a_subEnd, a_subDemand, a_subRequests, a_subDelivered, a_subWaiting, a_waitValue, a_history, a_taskWhat, a_taskPart, a_taskValue))) ∧ (¬ r_177 = 0 → (wpX_push (fun u => post u) (f_time, f_sent, f_stageCount, f_tasks, a_sourceEnded, a_stageKind, a_stageA, a_stageB, a_stageParts, a_partStage, a_partUser, a_partX, a_partY, a_phase, a_beganAfter, a_due, a_count, a_held, a_heldY, a_hasHeld, a_hasHeldY, a_queueSize, a_queueIsOfX, a_queueValue, a_queueDue, a_subStatus, a_subCode, a_subEnd, a_subDemand, a_subRequests, a_subDelivered, a_subWaiting, a_waitValue, a_history, a_taskWhat, a_taskPart, a_taskValue) 2 (nI i) 0))))) (nI i) (nI fr) (bI sd) f_time f_sent f_stageCount f_tasks a_sourceEnded a_stageKind a_stageA a_stageB a_stageParts a_partStage a_partUser a_partX a_partY a_phase a_beganAfter a_due a_count a_held a_heldY a_hasHeld a_hasHeldY a_queueSize a_queueIsOfX a_queueValue a_queueDue a_subStatus a_subCode a_subEnd a_subDemand a_subRequests a_subDelivered a_subWaiting a_waitValue a_history a_taskWhat a_taskPart a_taskValue := by
    refine xh_other h27 hX hY hx27 hy27 hne hfr ⟨hin, e1, nm_r (e' := nI 18) (by rw [hps', hcs]; exact hk) ?_⟩
    refine br_f (by decide) (br_t rfl ⟨hoi, ?_⟩)
    by_cases hv : (if sd = true then oy else ox) = true
    · exact br_t (by rw [hco, hph]; exact hv) (yes (by cases sd <;> simp_all [hc]))
    · refine br_f (by rw [hco, hph]; exact hv) ?_
      cases sd
      · refine br_t rfl ⟨hin, ?_⟩
        by_cases hg : fy = false
        · exact br_t (by rw [a6', hg]; rfl) (yes (by simp [hc, hg]))
        · exact br_f (by rw [a6', xd_bI0]; exact hg) (no (by simp_all [hc]))
      · refine br_f (by decide) ⟨hin, ?_⟩
        by_cases hg : f = false
        · exact br_t (by rw [a5', hg]; rfl) (yes (by simp [hc, hg]))
        · exact br_f (by rw [a5', xd_bI0]; exact hg) (no (by simp_all [hc]))
  by_cases hs2 : sd = true
  · subst hs2
    exact br_t (by rw [hX', hsd]) step
  · have hs3 : sd = false := by simpa using hs2
    subst hs3
    exact br_f (by rw [hX', hsd]; decide) step
theorem xh_c19y {post : SX → Prop} {i t s d c xi yi fr : Nat} {a b h hy : Int32} {f fy qx ox oy : Bool} {q : List (Int32 × Nat)} {R : List Tk} (hx : HA f_time a_partStage a_stageKind a_stageA a_stageB i t s 19 a b) (hS : RepA a_due a_count a_held a_heldY a_hasHeld a_hasHeldY a_queueSize a_queueIsOfX a_queueValue a_queueDue i (d, c, h, hy, f, fy, qx, q, ox, oy)) (ok : okS 19 b (d, c, h, hy, f, fy, qx, q, ox, oy)) (hT : f_tasks = nI R.length) (hR : rps a_taskWhat a_taskPart a_taskValue R) (hl : R.length + 2 ≤ 128) (hX : a_partX i = nI xi) (hY : a_partY i = nI yi) (hx27 : xi < 27) (hy27 : yi < 27) (hne : xi ≠ yi) (hfr : fr = yi)  (H : ∀ u', Eff (f_time, f_sent, f_stageCount, f_tasks, a_sourceEnded, a_stageKind, a_stageA, a_stageB, a_stageParts, a_partStage, a_partUser, a_partX, a_partY, a_phase, a_beganAfter, a_due, a_count, a_held, a_heldY, a_hasHeld, a_hasHeldY, a_queueSize, a_queueIsOfX, a_queueValue, a_queueDue, a_subStatus, a_subCode, a_subEnd, a_subDemand, a_subRequests, a_subDelivered, a_subWaiting, a_waitValue, a_history, a_taskWhat, a_taskPart, a_taskValue) u' i (hc 19 b t false (d, c, h, hy, f, fy, qx, q, ox, oy)).1 (hc 19 b t false (d, c, h, hy, f, fy, qx, q, ox, oy)).2 R → post u') : wpX_hearComplete post (f_time, f_sent, f_stageCount, f_tasks, a_sourceEnded, a_stageKind, a_stageA, a_stageB, a_stageParts, a_partStage, a_partUser, a_partX, a_partY, a_phase, a_beganAfter, a_due, a_count, a_held, a_heldY, a_hasHeld, a_hasHeldY, a_queueSize, a_queueIsOfX, a_queueValue, a_queueDue, a_subStatus, a_subCode, a_subEnd, a_subDemand, a_subRequests, a_subDelivered, a_subWaiting, a_waitValue, a_history, a_taskWhat, a_taskPart, a_taskValue) (nI i) (nI fr) := by
  obtain ⟨h27, ht, ht2, hps, hs, hk, ha, hb, ho⟩ := hx
  have hS0 := hS
  obtain ⟨a1, a2, a3, a4, a5, a6, a7, a8, a9, a10⟩ := hS
  have hcl : (nI i).toNatClampNeg = i := nI_clamp (by omega)
  have hcs : (nI s).toNatClampNeg = s := nI_clamp (by omega)
  have hin : vp_in (nI i) 27 := vp_in_nI h27 (by decide)
  have his : vp_in (nI s) 12 := vp_in_nI hs (by decide)
  have hps' : a_partStage (nI i).toNatClampNeg = nI s := by rw [hcl]; exact hps
  have hX' : a_partX (nI i).toNatClampNeg = nI xi := by rw [hcl]; exact hX
  refine ⟨hin, nm_r (e' := nI s) hps' ⟨his, nm_r (e' := nI 19) (by rw [hcs]; exact hk) ?_⟩⟩
  iterate 12 (refine br_f (by decide) ?_)
  refine br_t rfl ⟨hin, br_f (by rw [hX', hfr, nI_eq (by omega) (by omega)]; omega) ?_⟩
  exact xw_push hT (by omega) (H _ (xe_eff hS0 (fun j hj S hS => hS) rfl (xd_rps_push (w := 2) hR)))
theorem xh_c19x {post : SX → Prop} {i t s d c xi yi fr : Nat} {a b h hy : Int32} {f fy qx ox oy : Bool} {q : List (Int32 × Nat)} {R : List Tk} (hx : HA f_time a_partStage a_stageKind a_stageA a_stageB i t s 19 a b) (hS : RepA a_due a_count a_held a_heldY a_hasHeld a_hasHeldY a_queueSize a_queueIsOfX a_queueValue a_queueDue i (d, c, h, hy, f, fy, qx, q, ox, oy)) (ok : okS 19 b (d, c, h, hy, f, fy, qx, q, ox, oy)) (hT : f_tasks = nI R.length) (hR : rps a_taskWhat a_taskPart a_taskValue R) (hl : R.length + 2 ≤ 128) (hX : a_partX i = nI xi) (hY : a_partY i = nI yi) (hx27 : xi < 27) (hy27 : yi < 27) (hne : xi ≠ yi) (hfr : fr = xi)  (H : ∀ u', Eff (f_time, f_sent, f_stageCount, f_tasks, a_sourceEnded, a_stageKind, a_stageA, a_stageB, a_stageParts, a_partStage, a_partUser, a_partX, a_partY, a_phase, a_beganAfter, a_due, a_count, a_held, a_heldY, a_hasHeld, a_hasHeldY, a_queueSize, a_queueIsOfX, a_queueValue, a_queueDue, a_subStatus, a_subCode, a_subEnd, a_subDemand, a_subRequests, a_subDelivered, a_subWaiting, a_waitValue, a_history, a_taskWhat, a_taskPart, a_taskValue) u' i (hc 19 b t true (d, c, h, hy, f, fy, qx, q, ox, oy)).1 [] ((0, yi, 0) :: R) → post u') : wpX_hearComplete post (f_time, f_sent, f_stageCount, f_tasks, a_sourceEnded, a_stageKind, a_stageA, a_stageB, a_stageParts, a_partStage, a_partUser, a_partX, a_partY, a_phase, a_beganAfter, a_due, a_count, a_held, a_heldY, a_hasHeld, a_hasHeldY, a_queueSize, a_queueIsOfX, a_queueValue, a_queueDue, a_subStatus, a_subCode, a_subEnd, a_subDemand, a_subRequests, a_subDelivered, a_subWaiting, a_waitValue, a_history, a_taskWhat, a_taskPart, a_taskValue) (nI i) (nI fr) := by
  obtain ⟨h27, ht, ht2, hps, hs, hk, ha, hb, ho⟩ := hx
  have hS0 := hS
  obtain ⟨a1, a2, a3, a4, a5, a6, a7, a8, a9, a10⟩ := hS
  have hcl : (nI i).toNatClampNeg = i := nI_clamp (by omega)
  have hcs : (nI s).toNatClampNeg = s := nI_clamp (by omega)
  have hin : vp_in (nI i) 27 := vp_in_nI h27 (by decide)
  have his : vp_in (nI s) 12 := vp_in_nI hs (by decide)
  have hps' : a_partStage (nI i).toNatClampNeg = nI s := by rw [hcl]; exact hps
  have hX' : a_partX (nI i).toNatClampNeg = nI xi := by rw [hcl]; exact hX
  have hY' : a_partY (nI i).toNatClampNeg = nI yi := by rw [hcl]; exact hY
  refine ⟨hin, nm_r (e' := nI s) hps' ⟨his, nm_r (e' := nI 19) (by rw [hcs]; exact hk) ?_⟩⟩
  iterate 12 (refine br_f (by decide) ?_)
  refine br_t rfl ⟨hin, br_t (by rw [hX', hfr]) ⟨hin, ?_⟩⟩
  rw [hY']
  exact xw_push hT (by omega) (H _ (xe_eff hS0 (fun j hj S hS => hS) rfl (xd_rps_push (w := 0) hR)))
theorem xh_e {post : SX → Prop} {i t s d c : Nat} {a b v fr h hy : Int32} {f fy qx ox oy sd : Bool} {q : List (Int32 × Nat)} {R : List Tk} {k : Nat} (hx : HA f_time a_partStage a_stageKind a_stageA a_stageB i t s k a b) (hk20 : k ≠ 20) (hS : RepA a_due a_count a_held a_heldY a_hasHeld a_hasHeldY a_queueSize a_queueIsOfX a_queueValue a_queueDue i (d, c, h, hy, f, fy, qx, q, ox, oy)) (hT : f_tasks = nI R.length) (hR : rps a_taskWhat a_taskPart a_taskValue R) (hl : R.length + 2 ≤ 128) (H : ∀ u', Eff (f_time, f_sent, f_stageCount, f_tasks, a_sourceEnded, a_stageKind, a_stageA, a_stageB, a_stageParts, a_partStage, a_partUser, a_partX, a_partY, a_phase, a_beganAfter, a_due, a_count, a_held, a_heldY, a_hasHeld, a_hasHeldY, a_queueSize, a_queueIsOfX, a_queueValue, a_queueDue, a_subStatus, a_subCode, a_subEnd, a_subDemand, a_subRequests, a_subDelivered, a_subWaiting, a_waitValue, a_history, a_taskWhat, a_taskPart, a_taskValue) u' i (he k sd v (d, c, h, hy, f, fy, qx, q, ox, oy)).1 (he k sd v (d, c, h, hy, f, fy, qx, q, ox, oy)).2 R → post u') : wpX_hearError post (f_time, f_sent, f_stageCount, f_tasks, a_sourceEnded, a_stageKind, a_stageA, a_stageB, a_stageParts, a_partStage, a_partUser, a_partX, a_partY, a_phase, a_beganAfter, a_due, a_count, a_held, a_heldY, a_hasHeld, a_hasHeldY, a_queueSize, a_queueIsOfX, a_queueValue, a_queueDue, a_subStatus, a_subCode, a_subEnd, a_subDemand, a_subRequests, a_subDelivered, a_subWaiting, a_waitValue, a_history, a_taskWhat, a_taskPart, a_taskValue) (nI i) fr v := by
  obtain ⟨h27, ht, ht2, hps, hs, hk, ha, hb, ho⟩ := hx
  have hS0 := hS
  obtain ⟨a1, a2, a3, a4, a5, a6, a7, a8, a9, a10⟩ := hS
  have hcl : (nI i).toNatClampNeg = i := nI_clamp (by omega)
  have hcs : (nI s).toNatClampNeg = s := nI_clamp (by omega)
  have hin : vp_in (nI i) 27 := vp_in_nI h27 (by decide)
  have his : vp_in (nI s) 12 := vp_in_nI hs (by decide)
  have hps' : a_partStage (nI i).toNatClampNeg = nI s := by rw [hcl]; exact hps
  have e1 : vp_in (a_partStage (nI i).toNatClampNeg) 12 := by rw [hps']; exact his
  have eh : he k sd v (d, c, h, hy, f, fy, qx, q, ox, oy) = ((d, c, h, hy, f, fy, qx, q, ox, oy), [(3, v)]) := by simp [he, hk20]
  rw [eh] at H
  refine ⟨hin, e1, br_f (by rw [hps', hcs]; intro z; have z2 := hk.symm.trans z; rw [show (20 : Int32) = nI 20 from rfl, nI_eq (by have := ho.1; omega) (by decide)] at z2; exact hk20 z2) ?_⟩
  exact xw_push hT (by omega) (H _ (xe_eff hS0 (fun j hj S hS => hS) rfl (xd_rps_push (w := 3) hR)))
theorem xh_e20y {post : SX → Prop} {i t s d c xi yi fr : Nat} {a b v h hy : Int32} {f fy qx ox oy : Bool} {q : List (Int32 × Nat)} {R : List Tk} (hx : HA f_time a_partStage a_stageKind a_stageA a_stageB i t s 20 a b) (hS : RepA a_due a_count a_held a_heldY a_hasHeld a_hasHeldY a_queueSize a_queueIsOfX a_queueValue a_queueDue i (d, c, h, hy, f, fy, qx, q, ox, oy)) (hT : f_tasks = nI R.length) (hR : rps a_taskWhat a_taskPart a_taskValue R) (hl : R.length + 2 ≤ 128) (hX : a_partX i = nI xi) (hY : a_partY i = nI yi) (hx27 : xi < 27) (hy27 : yi < 27) (hne : xi ≠ yi) (hfr : fr = yi) (H : ∀ u', Eff (f_time, f_sent, f_stageCount, f_tasks, a_sourceEnded, a_stageKind, a_stageA, a_stageB, a_stageParts, a_partStage, a_partUser, a_partX, a_partY, a_phase, a_beganAfter, a_due, a_count, a_held, a_heldY, a_hasHeld, a_hasHeldY, a_queueSize, a_queueIsOfX, a_queueValue, a_queueDue, a_subStatus, a_subCode, a_subEnd, a_subDemand, a_subRequests, a_subDelivered, a_subWaiting, a_waitValue, a_history, a_taskWhat, a_taskPart, a_taskValue) u' i (he 20 false v (d, c, h, hy, f, fy, qx, q, ox, oy)).1 (he 20 false v (d, c, h, hy, f, fy, qx, q, ox, oy)).2 R → post u') : wpX_hearError post (f_time, f_sent, f_stageCount, f_tasks, a_sourceEnded, a_stageKind, a_stageA, a_stageB, a_stageParts, a_partStage, a_partUser, a_partX, a_partY, a_phase, a_beganAfter, a_due, a_count, a_held, a_heldY, a_hasHeld, a_hasHeldY, a_queueSize, a_queueIsOfX, a_queueValue, a_queueDue, a_subStatus, a_subCode, a_subEnd, a_subDemand, a_subRequests, a_subDelivered, a_subWaiting, a_waitValue, a_history, a_taskWhat, a_taskPart, a_taskValue) (nI i) (nI fr) v := by
  obtain ⟨h27, ht, ht2, hps, hs, hk, ha, hb, ho⟩ := hx
  have hS0 := hS
  obtain ⟨a1, a2, a3, a4, a5, a6, a7, a8, a9, a10⟩ := hS
  have hcl : (nI i).toNatClampNeg = i := nI_clamp (by omega)
  have hcs : (nI s).toNatClampNeg = s := nI_clamp (by omega)
  have hin : vp_in (nI i) 27 := vp_in_nI h27 (by decide)
  have his : vp_in (nI s) 12 := vp_in_nI hs (by decide)
  have hps' : a_partStage (nI i).toNatClampNeg = nI s := by rw [hcl]; exact hps
  have hX' : a_partX (nI i).toNatClampNeg = nI xi := by rw [hcl]; exact hX
  have e1 : vp_in (a_partStage (nI i).toNatClampNeg) 12 := by rw [hps']; exact his
  refine ⟨hin, e1, br_t (by rw [hps', hcs]; exact hk) ⟨hin, br_f (by rw [hX', hfr, nI_eq (by omega) (by omega)]; omega) ?_⟩⟩
  exact xw_push hT (by omega) (H _ (xe_eff hS0 (fun j hj S hS => hS) rfl (xd_rps_push (w := 3) hR)))
theorem xh_e20x {post : SX → Prop} {i t s d c xi yi fr : Nat} {a b v h hy : Int32} {f fy qx ox oy : Bool} {q : List (Int32 × Nat)} {R : List Tk} (hx : HA f_time a_partStage a_stageKind a_stageA a_stageB i t s 20 a b) (hS : RepA a_due a_count a_held a_heldY a_hasHeld a_hasHeldY a_queueSize a_queueIsOfX a_queueValue a_queueDue i (d, c, h, hy, f, fy, qx, q, ox, oy)) (hT : f_tasks = nI R.length) (hR : rps a_taskWhat a_taskPart a_taskValue R) (hl : R.length + 2 ≤ 128) (hX : a_partX i = nI xi) (hY : a_partY i = nI yi) (hx27 : xi < 27) (hy27 : yi < 27) (hne : xi ≠ yi) (hfr : fr = xi) (H : ∀ u', Eff (f_time, f_sent, f_stageCount, f_tasks, a_sourceEnded, a_stageKind, a_stageA, a_stageB, a_stageParts, a_partStage, a_partUser, a_partX, a_partY, a_phase, a_beganAfter, a_due, a_count, a_held, a_heldY, a_hasHeld, a_hasHeldY, a_queueSize, a_queueIsOfX, a_queueValue, a_queueDue, a_subStatus, a_subCode, a_subEnd, a_subDemand, a_subRequests, a_subDelivered, a_subWaiting, a_waitValue, a_history, a_taskWhat, a_taskPart, a_taskValue) u' i (he 20 true v (d, c, h, hy, f, fy, qx, q, ox, oy)).1 [] ((0, yi, 0) :: R) → post u') : wpX_hearError post (f_time, f_sent, f_stageCount, f_tasks, a_sourceEnded, a_stageKind, a_stageA, a_stageB, a_stageParts, a_partStage, a_partUser, a_partX, a_partY, a_phase, a_beganAfter, a_due, a_count, a_held, a_heldY, a_hasHeld, a_hasHeldY, a_queueSize, a_queueIsOfX, a_queueValue, a_queueDue, a_subStatus, a_subCode, a_subEnd, a_subDemand, a_subRequests, a_subDelivered, a_subWaiting, a_waitValue, a_history, a_taskWhat, a_taskPart, a_taskValue) (nI i) (nI fr) v := by
  obtain ⟨h27, ht, ht2, hps, hs, hk, ha, hb, ho⟩ := hx
  have hS0 := hS
  obtain ⟨a1, a2, a3, a4, a5, a6, a7, a8, a9, a10⟩ := hS
  have hcl : (nI i).toNatClampNeg = i := nI_clamp (by omega)
  have hcs : (nI s).toNatClampNeg = s := nI_clamp (by omega)
  have hin : vp_in (nI i) 27 := vp_in_nI h27 (by decide)
  have his : vp_in (nI s) 12 := vp_in_nI hs (by decide)
  have hps' : a_partStage (nI i).toNatClampNeg = nI s := by rw [hcl]; exact hps
  have hX' : a_partX (nI i).toNatClampNeg = nI xi := by rw [hcl]; exact hX
  have hY' : a_partY (nI i).toNatClampNeg = nI yi := by rw [hcl]; exact hY
  have e1 : vp_in (a_partStage (nI i).toNatClampNeg) 12 := by rw [hps']; exact his
  refine ⟨hin, e1, br_t (by rw [hps', hcs]; exact hk) ⟨hin, br_t (by rw [hX', hfr]) ⟨hin, ?_⟩⟩⟩
  rw [hY']
  exact xw_push hT (by omega) (H _ (xe_eff hS0 (fun j hj S hS => hS) rfl (xd_rps_push (w := 0) hR)))
end
