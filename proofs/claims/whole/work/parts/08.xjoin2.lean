/-! ===== joins: hearJoinedItem, then what a part does with an end ===== -/
section
variable {f_time : Int32} {f_sent : Int32} {f_stageCount : Int32} {f_tasks : Int32} {a_sourceEnded : (Nat → Int32)} {a_stageKind : (Nat → Int32)} {a_stageA : (Nat → Int32)} {a_stageB : (Nat → Int32)} {a_stageParts : (Nat → Int32)} {a_partStage : (Nat → Int32)} {a_partUser : (Nat → Int32)} {a_partX : (Nat → Int32)} {a_partY : (Nat → Int32)} {a_phase : (Nat → Int32)} {a_beganAfter : (Nat → Int32)} {a_due : (Nat → Int32)} {a_count : (Nat → Int32)} {a_held : (Nat → Int32)} {a_heldY : (Nat → Int32)} {a_hasHeld : (Nat → Int32)} {a_hasHeldY : (Nat → Int32)} {a_queueSize : (Nat → Int32)} {a_queueIsOfX : (Nat → Int32)} {a_queueValue : (Nat → Int32)} {a_queueDue : (Nat → Int32)} {a_subStatus : (Nat → Int32)} {a_subCode : (Nat → Int32)} {a_subEnd : (Nat → Int32)} {a_subDemand : (Nat → Int64)} {a_subRequests : (Nat → Int32)} {a_subDelivered : (Nat → Int32)} {a_subWaiting : (Nat → Int32)} {a_waitValue : (Nat → Int32)} {a_history : (Nat → Int64)} {a_taskWhat : (Nat → Int32)} {a_taskPart : (Nat → Int32)} {a_taskValue : (Nat → Int32)}
theorem xe_eff_qo {u' : SX} {i : Nat} {S' : PSt} {o : Otp} {R : List Tk} {qo' : Nat → Int32} (he : Eff (f_time, f_sent, f_stageCount, f_tasks, a_sourceEnded, a_stageKind, a_stageA, a_stageB, a_stageParts, a_partStage, a_partUser, a_partX, a_partY, a_phase, a_beganAfter, a_due, a_count, a_held, a_heldY, a_hasHeld, a_hasHeldY, a_queueSize, qo', a_queueValue, a_queueDue, a_subStatus, a_subCode, a_subEnd, a_subDemand, a_subRequests, a_subDelivered, a_subWaiting, a_waitValue, a_history, a_taskWhat, a_taskPart, a_taskValue) u' i S' o R) (hq : ∀ j, j ≠ i → qo' j = a_queueIsOfX j) : Eff (f_time, f_sent, f_stageCount, f_tasks, a_sourceEnded, a_stageKind, a_stageA, a_stageB, a_stageParts, a_partStage, a_partUser, a_partX, a_partY, a_phase, a_beganAfter, a_due, a_count, a_held, a_heldY, a_hasHeld, a_hasHeldY, a_queueSize, a_queueIsOfX, a_queueValue, a_queueDue, a_subStatus, a_subCode, a_subEnd, a_subDemand, a_subRequests, a_subDelivered, a_subWaiting, a_waitValue, a_history, a_taskWhat, a_taskPart, a_taskValue) u' i S' o R := by
  obtain ⟨z1, z2, z3, z4, z5, z6⟩ := he
  exact ⟨z1.trans (xe_st2.trans xe_st2.symm), z2.trans (xe_sub.trans xe_sub.symm), z3.trans (xe_ph.trans xe_ph.symm), z4, fun j hj S hS => z5 j hj S (xe_rep' (xd_frame (xe_rep hS) rfl rfl rfl rfl rfl rfl rfl (hq j hj) (fun r hr => ⟨rfl, rfl⟩))), z6⟩
theorem xe_eff_2 {u u' : SX} {i : Nat} {S' : PSt} {x y : Nat × Int32} {R : List Tk} (he : Eff u u' i S' [x] ((y.1, i, y.2) :: R)) : Eff u u' i S' [x, y] R := he
theorem xh_side {i xi yi fr : Nat} {sd : Bool} (hx27 : xi < 27) (hy27 : yi < 27) (hne : xi ≠ yi) (hfr : fr = if sd = true then xi else yi) : (nI fr = nI xi ↔ sd = true) := by
  cases sd
  · rw [if_neg (by decide)] at hfr
    subst hfr
    rw [nI_eq (by omega) (by omega)]
    constructor
    · intro e; omega
    · intro e; exact absurd e (by decide)
  · rw [if_pos rfl] at hfr
    subst hfr
    exact ⟨fun _ => rfl, fun _ => rfl⟩
theorem xh_j_of {post : SX → Prop} {i xi yi fr : Nat} {v : Int32} {sd : Bool} (h27 : i < 27) (hX : a_partX i = nI xi) (hY : a_partY i = nI yi) (hx27 : xi < 27) (hy27 : yi < 27) (hne : xi ≠ yi) (hfr : fr = if sd = true then xi else yi) (H : wX_hearJoinedItem_15 post (nI i) (nI fr) v (bI sd) f_time f_sent f_stageCount f_tasks a_sourceEnded a_stageKind a_stageA a_stageB a_stageParts a_partStage a_partUser a_partX a_partY a_phase a_beganAfter a_due a_count a_held a_heldY a_hasHeld a_hasHeldY a_queueSize a_queueIsOfX a_queueValue a_queueDue a_subStatus a_subCode a_subEnd a_subDemand a_subRequests a_subDelivered a_subWaiting a_waitValue a_history a_taskWhat a_taskPart a_taskValue) : wpX_hearJoinedItem post (f_time, f_sent, f_stageCount, f_tasks, a_sourceEnded, a_stageKind, a_stageA, a_stageB, a_stageParts, a_partStage, a_partUser, a_partX, a_partY, a_phase, a_beganAfter, a_due, a_count, a_held, a_heldY, a_hasHeld, a_hasHeldY, a_queueSize, a_queueIsOfX, a_queueValue, a_queueDue, a_subStatus, a_subCode, a_subEnd, a_subDemand, a_subRequests, a_subDelivered, a_subWaiting, a_waitValue, a_history, a_taskWhat, a_taskPart, a_taskValue) (nI i) (nI fr) v := by
  have hc : (nI i).toNatClampNeg = i := nI_clamp (by omega)
  have hX' : a_partX (nI i).toNatClampNeg = nI xi := by rw [hc]; exact hX
  have hs := xh_side (i := i) hx27 hy27 hne hfr
  refine ⟨vp_in_nI h27 (by decide), ?_⟩
  cases sd
  · exact br_f (by rw [hX', hs]; decide) H
  · exact br_t (by rw [hX', hs]) H
theorem xh_other {post : Int32 → Prop} {i xi yi fr : Nat} {sd : Bool} (h27 : i < 27) (hX : a_partX i = nI xi) (hY : a_partY i = nI yi) (hx27 : xi < 27) (hy27 : yi < 27) (hne : xi ≠ yi) (hfr : fr = if sd = true then xi else yi) (H : post (nI (if sd = true then yi else xi))) : wpX_otherSide post (f_time, f_sent, f_stageCount, f_tasks, a_sourceEnded, a_stageKind, a_stageA, a_stageB, a_stageParts, a_partStage, a_partUser, a_partX, a_partY, a_phase, a_beganAfter, a_due, a_count, a_held, a_heldY, a_hasHeld, a_hasHeldY, a_queueSize, a_queueIsOfX, a_queueValue, a_queueDue, a_subStatus, a_subCode, a_subEnd, a_subDemand, a_subRequests, a_subDelivered, a_subWaiting, a_waitValue, a_history, a_taskWhat, a_taskPart, a_taskValue) (nI i) (nI fr) := by
  have hc : (nI i).toNatClampNeg = i := nI_clamp (by omega)
  have hin : vp_in (nI i) 27 := vp_in_nI h27 (by decide)
  have hX' : a_partX (nI i).toNatClampNeg = nI xi := by rw [hc]; exact hX
  have hY' : a_partY (nI i).toNatClampNeg = nI yi := by rw [hc]; exact hY
  have hs := xh_side (i := i) hx27 hy27 hne hfr
  refine ⟨hin, ?_⟩
  cases sd
  · exact br_f (by rw [hX', hs]; decide) ⟨hin, by rw [hX']; exact H⟩
  · exact br_t (by rw [hX', hs]) ⟨hin, by rw [hY']; exact H⟩
theorem xh_j16 {post : SX → Prop} {i t s d c xi yi fr : Nat} {a b v h hy : Int32} {f fy qx ox oy sd : Bool} {q : List (Int32 × Nat)} {R : List Tk} (hx : HA f_time a_partStage a_stageKind a_stageA a_stageB i t s 16 a b) (hS : RepA a_due a_count a_held a_heldY a_hasHeld a_hasHeldY a_queueSize a_queueIsOfX a_queueValue a_queueDue i (d, c, h, hy, f, fy, qx, q, ox, oy)) (hT : f_tasks = nI R.length) (hR : rps a_taskWhat a_taskPart a_taskValue R) (hl : R.length + 2 ≤ 128) (hX : a_partX i = nI xi) (hY : a_partY i = nI yi) (hx27 : xi < 27) (hy27 : yi < 27) (hne : xi ≠ yi) (hfr : fr = if sd = true then xi else yi) (H : ∀ u', Eff (f_time, f_sent, f_stageCount, f_tasks, a_sourceEnded, a_stageKind, a_stageA, a_stageB, a_stageParts, a_partStage, a_partUser, a_partX, a_partY, a_phase, a_beganAfter, a_due, a_count, a_held, a_heldY, a_hasHeld, a_hasHeldY, a_queueSize, a_queueIsOfX, a_queueValue, a_queueDue, a_subStatus, a_subCode, a_subEnd, a_subDemand, a_subRequests, a_subDelivered, a_subWaiting, a_waitValue, a_history, a_taskWhat, a_taskPart, a_taskValue) u' i (hi 16 b t sd v (d, c, h, hy, f, fy, qx, q, ox, oy)).1 (hi 16 b t sd v (d, c, h, hy, f, fy, qx, q, ox, oy)).2 R → post u') : wpX_hearJoinedItem post (f_time, f_sent, f_stageCount, f_tasks, a_sourceEnded, a_stageKind, a_stageA, a_stageB, a_stageParts, a_partStage, a_partUser, a_partX, a_partY, a_phase, a_beganAfter, a_due, a_count, a_held, a_heldY, a_hasHeld, a_hasHeldY, a_queueSize, a_queueIsOfX, a_queueValue, a_queueDue, a_subStatus, a_subCode, a_subEnd, a_subDemand, a_subRequests, a_subDelivered, a_subWaiting, a_waitValue, a_history, a_taskWhat, a_taskPart, a_taskValue) (nI i) (nI fr) v := by
  obtain ⟨h27, ht, ht2, hps, hs, hk, ha, hb, ho⟩ := hx
  have hS0 := hS
  obtain ⟨a1, a2, a3, a4, a5, a6, a7, a8, a9, a10⟩ := hS
  have hc : (nI i).toNatClampNeg = i := nI_clamp (by omega)
  have hcs : (nI s).toNatClampNeg = s := nI_clamp (by omega)
  have hin : vp_in (nI i) 27 := vp_in_nI h27 (by decide)
  have hps' : a_partStage (nI i).toNatClampNeg = nI s := by rw [hc]; exact hps
  have e1 : vp_in (a_partStage (nI i).toNatClampNeg) 12 := by rw [hps']; exact vp_in_nI hs (by decide)
  have hX' : a_partX (nI i).toNatClampNeg = nI xi := by rw [hc]; exact hX
  have hY' : a_partY (nI i).toNatClampNeg = nI yi := by rw [hc]; exact hY
  refine xh_j_of h27 hX hY hx27 hy27 hne hfr ⟨hin, e1, nm_r (e' := nI 16) (by rw [hps', hcs]; exact hk) (br_f (by decide) (br_f (by decide) ?_))⟩
  exact xw_push hT (by omega) (H _ (xe_eff hS0 (fun j hj S hS => hS) rfl (xd_rps_push hR)))
theorem xh_j19 {post : SX → Prop} {i t s d c xi yi fr : Nat} {a b v h hy : Int32} {f fy qx ox oy sd : Bool} {q : List (Int32 × Nat)} {R : List Tk} (hx : HA f_time a_partStage a_stageKind a_stageA a_stageB i t s 19 a b) (hS : RepA a_due a_count a_held a_heldY a_hasHeld a_hasHeldY a_queueSize a_queueIsOfX a_queueValue a_queueDue i (d, c, h, hy, f, fy, qx, q, ox, oy)) (hT : f_tasks = nI R.length) (hR : rps a_taskWhat a_taskPart a_taskValue R) (hl : R.length + 2 ≤ 128) (hX : a_partX i = nI xi) (hY : a_partY i = nI yi) (hx27 : xi < 27) (hy27 : yi < 27) (hne : xi ≠ yi) (hfr : fr = if sd = true then xi else yi) (H : ∀ u', Eff (f_time, f_sent, f_stageCount, f_tasks, a_sourceEnded, a_stageKind, a_stageA, a_stageB, a_stageParts, a_partStage, a_partUser, a_partX, a_partY, a_phase, a_beganAfter, a_due, a_count, a_held, a_heldY, a_hasHeld, a_hasHeldY, a_queueSize, a_queueIsOfX, a_queueValue, a_queueDue, a_subStatus, a_subCode, a_subEnd, a_subDemand, a_subRequests, a_subDelivered, a_subWaiting, a_waitValue, a_history, a_taskWhat, a_taskPart, a_taskValue) u' i (hi 19 b t sd v (d, c, h, hy, f, fy, qx, q, ox, oy)).1 (hi 19 b t sd v (d, c, h, hy, f, fy, qx, q, ox, oy)).2 R → post u') : wpX_hearJoinedItem post (f_time, f_sent, f_stageCount, f_tasks, a_sourceEnded, a_stageKind, a_stageA, a_stageB, a_stageParts, a_partStage, a_partUser, a_partX, a_partY, a_phase, a_beganAfter, a_due, a_count, a_held, a_heldY, a_hasHeld, a_hasHeldY, a_queueSize, a_queueIsOfX, a_queueValue, a_queueDue, a_subStatus, a_subCode, a_subEnd, a_subDemand, a_subRequests, a_subDelivered, a_subWaiting, a_waitValue, a_history, a_taskWhat, a_taskPart, a_taskValue) (nI i) (nI fr) v := by
  obtain ⟨h27, ht, ht2, hps, hs, hk, ha, hb, ho⟩ := hx
  have hS0 := hS
  obtain ⟨a1, a2, a3, a4, a5, a6, a7, a8, a9, a10⟩ := hS
  have hc : (nI i).toNatClampNeg = i := nI_clamp (by omega)
  have hcs : (nI s).toNatClampNeg = s := nI_clamp (by omega)
  have hin : vp_in (nI i) 27 := vp_in_nI h27 (by decide)
  have hps' : a_partStage (nI i).toNatClampNeg = nI s := by rw [hc]; exact hps
  have e1 : vp_in (a_partStage (nI i).toNatClampNeg) 12 := by rw [hps']; exact vp_in_nI hs (by decide)
  have hX' : a_partX (nI i).toNatClampNeg = nI xi := by rw [hc]; exact hX
  have hY' : a_partY (nI i).toNatClampNeg = nI yi := by rw [hc]; exact hY
  refine xh_j_of h27 hX hY hx27 hy27 hne hfr ⟨hin, e1, nm_r (e' := nI 19) (by rw [hps', hcs]; exact hk) (br_f (by decide) (br_f (by decide) ?_))⟩
  exact xw_push hT (by omega) (H _ (xe_eff hS0 (fun j hj S hS => hS) rfl (xd_rps_push hR)))
theorem xh_j20 {post : SX → Prop} {i t s d c xi yi fr : Nat} {a b v h hy : Int32} {f fy qx ox oy sd : Bool} {q : List (Int32 × Nat)} {R : List Tk} (hx : HA f_time a_partStage a_stageKind a_stageA a_stageB i t s 20 a b) (hS : RepA a_due a_count a_held a_heldY a_hasHeld a_hasHeldY a_queueSize a_queueIsOfX a_queueValue a_queueDue i (d, c, h, hy, f, fy, qx, q, ox, oy)) (hT : f_tasks = nI R.length) (hR : rps a_taskWhat a_taskPart a_taskValue R) (hl : R.length + 2 ≤ 128) (hX : a_partX i = nI xi) (hY : a_partY i = nI yi) (hx27 : xi < 27) (hy27 : yi < 27) (hne : xi ≠ yi) (hfr : fr = if sd = true then xi else yi) (H : ∀ u', Eff (f_time, f_sent, f_stageCount, f_tasks, a_sourceEnded, a_stageKind, a_stageA, a_stageB, a_stageParts, a_partStage, a_partUser, a_partX, a_partY, a_phase, a_beganAfter, a_due, a_count, a_held, a_heldY, a_hasHeld, a_hasHeldY, a_queueSize, a_queueIsOfX, a_queueValue, a_queueDue, a_subStatus, a_subCode, a_subEnd, a_subDemand, a_subRequests, a_subDelivered, a_subWaiting, a_waitValue, a_history, a_taskWhat, a_taskPart, a_taskValue) u' i (hi 20 b t sd v (d, c, h, hy, f, fy, qx, q, ox, oy)).1 (hi 20 b t sd v (d, c, h, hy, f, fy, qx, q, ox, oy)).2 R → post u') : wpX_hearJoinedItem post (f_time, f_sent, f_stageCount, f_tasks, a_sourceEnded, a_stageKind, a_stageA, a_stageB, a_stageParts, a_partStage, a_partUser, a_partX, a_partY, a_phase, a_beganAfter, a_due, a_count, a_held, a_heldY, a_hasHeld, a_hasHeldY, a_queueSize, a_queueIsOfX, a_queueValue, a_queueDue, a_subStatus, a_subCode, a_subEnd, a_subDemand, a_subRequests, a_subDelivered, a_subWaiting, a_waitValue, a_history, a_taskWhat, a_taskPart, a_taskValue) (nI i) (nI fr) v := by
  obtain ⟨h27, ht, ht2, hps, hs, hk, ha, hb, ho⟩ := hx
  have hS0 := hS
  obtain ⟨a1, a2, a3, a4, a5, a6, a7, a8, a9, a10⟩ := hS
  have hc : (nI i).toNatClampNeg = i := nI_clamp (by omega)
  have hcs : (nI s).toNatClampNeg = s := nI_clamp (by omega)
  have hin : vp_in (nI i) 27 := vp_in_nI h27 (by decide)
  have hps' : a_partStage (nI i).toNatClampNeg = nI s := by rw [hc]; exact hps
  have e1 : vp_in (a_partStage (nI i).toNatClampNeg) 12 := by rw [hps']; exact vp_in_nI hs (by decide)
  have hX' : a_partX (nI i).toNatClampNeg = nI xi := by rw [hc]; exact hX
  have hY' : a_partY (nI i).toNatClampNeg = nI yi := by rw [hc]; exact hY
  refine xh_j_of h27 hX hY hx27 hy27 hne hfr ⟨hin, e1, nm_r (e' := nI 20) (by rw [hps', hcs]; exact hk) (br_f (by decide) (br_f (by decide) ?_))⟩
  exact xw_push hT (by omega) (H _ (xe_eff hS0 (fun j hj S hS => hS) rfl (xd_rps_push hR)))
theorem xh_j18 {post : SX → Prop} {i t s d c xi yi fr : Nat} {a b v h hy : Int32} {f fy qx ox oy sd : Bool} {q : List (Int32 × Nat)} {R : List Tk} (hx : HA f_time a_partStage a_stageKind a_stageA a_stageB i t s 18 a b) (hS : RepA a_due a_count a_held a_heldY a_hasHeld a_hasHeldY a_queueSize a_queueIsOfX a_queueValue a_queueDue i (d, c, h, hy, f, fy, qx, q, ox, oy)) (hT : f_tasks = nI R.length) (hR : rps a_taskWhat a_taskPart a_taskValue R) (hl : R.length + 2 ≤ 128) (hX : a_partX i = nI xi) (hY : a_partY i = nI yi) (hx27 : xi < 27) (hy27 : yi < 27) (hne : xi ≠ yi) (hfr : fr = if sd = true then xi else yi) (H : ∀ u', Eff (f_time, f_sent, f_stageCount, f_tasks, a_sourceEnded, a_stageKind, a_stageA, a_stageB, a_stageParts, a_partStage, a_partUser, a_partX, a_partY, a_phase, a_beganAfter, a_due, a_count, a_held, a_heldY, a_hasHeld, a_hasHeldY, a_queueSize, a_queueIsOfX, a_queueValue, a_queueDue, a_subStatus, a_subCode, a_subEnd, a_subDemand, a_subRequests, a_subDelivered, a_subWaiting, a_waitValue, a_history, a_taskWhat, a_taskPart, a_taskValue) u' i (hi 18 b t sd v (d, c, h, hy, f, fy, qx, q, ox, oy)).1 (hi 18 b t sd v (d, c, h, hy, f, fy, qx, q, ox, oy)).2 R → post u') : wpX_hearJoinedItem post (f_time, f_sent, f_stageCount, f_tasks, a_sourceEnded, a_stageKind, a_stageA, a_stageB, a_stageParts, a_partStage, a_partUser, a_partX, a_partY, a_phase, a_beganAfter, a_due, a_count, a_held, a_heldY, a_hasHeld, a_hasHeldY, a_queueSize, a_queueIsOfX, a_queueValue, a_queueDue, a_subStatus, a_subCode, a_subEnd, a_subDemand, a_subRequests, a_subDelivered, a_subWaiting, a_waitValue, a_history, a_taskWhat, a_taskPart, a_taskValue) (nI i) (nI fr) v := by
  obtain ⟨h27, ht, ht2, hps, hs, hk, ha, hb, ho⟩ := hx
  have hS0 := hS
  obtain ⟨a1, a2, a3, a4, a5, a6, a7, a8, a9, a10⟩ := hS
  have hc : (nI i).toNatClampNeg = i := nI_clamp (by omega)
  have hcs : (nI s).toNatClampNeg = s := nI_clamp (by omega)
  have hin : vp_in (nI i) 27 := vp_in_nI h27 (by decide)
  have hps' : a_partStage (nI i).toNatClampNeg = nI s := by rw [hc]; exact hps
  have e1 : vp_in (a_partStage (nI i).toNatClampNeg) 12 := by rw [hps']; exact vp_in_nI hs (by decide)
  have hX' : a_partX (nI i).toNatClampNeg = nI xi := by rw [hc]; exact hX
  have hY' : a_partY (nI i).toNatClampNeg = nI yi := by rw [hc]; exact hY
  refine xh_j_of h27 hX hY hx27 hy27 hne hfr ⟨hin, e1, nm_r (e' := nI 18) (by rw [hps', hcs]; exact hk) (br_f (by decide) (br_t rfl ?_))⟩
  cases sd
  · refine br_t rfl ⟨hin, nm_r (e' := upd a_heldY i v) (by rw [hc]) ⟨hin, nm_r (e' := upd a_hasHeldY i (bI true)) (by rw [hc]; rfl) ⟨hin, ?_⟩⟩⟩
    have a5' : a_hasHeld (nI i).toNatClampNeg = bI f := by rw [hc]; exact a5
    have a3' : a_held (nI i).toNatClampNeg = h := by rw [hc]; exact a3
    have e2 : upd a_hasHeldY i (bI true) (nI i).toNatClampNeg = bI true := by rw [hc]; exact pk_us
    have e3 : upd a_heldY i v (nI i).toNatClampNeg = v := by rw [hc]; exact pk_us
    have hrep : RepA a_due a_count a_held (upd a_heldY i v) a_hasHeld (upd a_hasHeldY i (bI true)) a_queueSize a_queueIsOfX a_queueValue a_queueDue i (d, c, h, v, f, true, qx, q, ox, oy) := ⟨a1, a2, a3, pk_us, a5, pk_us, a7, a8, a9, a10⟩
    by_cases hf : f = true
    · have eh : hi 18 b t false v (d, c, h, hy, f, fy, qx, q, ox, oy) = ((d, c, h, v, f, true, qx, q, ox, oy), [(1, 31 * h + v)]) := by simp [hi, hf]
      rw [eh] at H
      refine br_f (by rw [a5', hf]; decide) ⟨hin, br_f (by rw [e2]; decide) ⟨hin, hin, ?_⟩⟩
      rw [a3', e3]
      exact xw_push hT (by omega) (H _ (xe_eff hrep (fun j hj S hS => xd_frame hS rfl rfl rfl (pk_un hj) rfl (pk_un hj) rfl rfl (fun r hr => ⟨rfl, rfl⟩)) rfl (xd_rps_push hR)))
    · have eh : hi 18 b t false v (d, c, h, hy, f, fy, qx, q, ox, oy) = ((d, c, h, v, f, true, qx, q, ox, oy), []) := by simp [hi, hf]
      rw [eh] at H
      refine br_t (by rw [a5', xd_bI0]; simpa using hf) ?_
      exact H _ (xe_eff hrep (fun j hj S hS => xd_frame hS rfl rfl rfl (pk_un hj) rfl (pk_un hj) rfl rfl (fun r hr => ⟨rfl, rfl⟩)) hT hR)
  · refine br_f (by decide) ⟨hin, nm_r (e' := upd a_held i v) (by rw [hc]) ⟨hin, nm_r (e' := upd a_hasHeld i (bI true)) (by rw [hc]; rfl) ⟨hin, ?_⟩⟩⟩
    have a6' : a_hasHeldY (nI i).toNatClampNeg = bI fy := by rw [hc]; exact a6
    have a4' : a_heldY (nI i).toNatClampNeg = hy := by rw [hc]; exact a4
    have e2 : upd a_hasHeld i (bI true) (nI i).toNatClampNeg = bI true := by rw [hc]; exact pk_us
    have e3 : upd a_held i v (nI i).toNatClampNeg = v := by rw [hc]; exact pk_us
    have hrep : RepA a_due a_count (upd a_held i v) a_heldY (upd a_hasHeld i (bI true)) a_hasHeldY a_queueSize a_queueIsOfX a_queueValue a_queueDue i (d, c, v, hy, true, fy, qx, q, ox, oy) := ⟨a1, a2, pk_us, a4, pk_us, a6, a7, a8, a9, a10⟩
    by_cases hf : fy = true
    · have eh : hi 18 b t true v (d, c, h, hy, f, fy, qx, q, ox, oy) = ((d, c, v, hy, true, fy, qx, q, ox, oy), [(1, 31 * v + hy)]) := by simp [hi, hf]
      rw [eh] at H
      refine br_f (by rw [e2]; decide) ⟨hin, br_f (by rw [a6', hf]; decide) ⟨hin, hin, ?_⟩⟩
      rw [a4', e3]
      exact xw_push hT (by omega) (H _ (xe_eff hrep (fun j hj S hS => xd_frame hS rfl rfl (pk_un hj) rfl (pk_un hj) rfl rfl rfl (fun r hr => ⟨rfl, rfl⟩)) rfl (xd_rps_push hR)))
    · have eh : hi 18 b t true v (d, c, h, hy, f, fy, qx, q, ox, oy) = ((d, c, v, hy, true, fy, qx, q, ox, oy), []) := by simp [hi, hf]
      rw [eh] at H
      refine br_f (by rw [e2]; decide) ⟨hin, br_t (by rw [a6', xd_bI0]; simpa using hf) ?_⟩
      exact H _ (xe_eff hrep (fun j hj S hS => xd_frame hS rfl rfl (pk_un hj) rfl (pk_un hj) rfl rfl rfl (fun r hr => ⟨rfl, rfl⟩)) hT hR)
theorem xh_j17 {post : SX → Prop} {i t s d c xi yi fr : Nat} {a b v h hy : Int32} {f fy qx ox oy sd : Bool} {q : List (Int32 × Nat)} {R : List Tk} (hx : HA f_time a_partStage a_stageKind a_stageA a_stageB i t s 17 a b) (hS : RepA a_due a_count a_held a_heldY a_hasHeld a_hasHeldY a_queueSize a_queueIsOfX a_queueValue a_queueDue i (d, c, h, hy, f, fy, qx, q, ox, oy)) (ok : okS 17 b (d, c, h, hy, f, fy, qx, q, ox, oy)) (hT : f_tasks = nI R.length) (hR : rps a_taskWhat a_taskPart a_taskValue R) (hl : R.length + 2 ≤ 128) (hX : a_partX i = nI xi) (hY : a_partY i = nI yi) (hx27 : xi < 27) (hy27 : yi < 27) (hne : xi ≠ yi) (hfr : fr = if sd = true then xi else yi) (hph : a_phase (if sd = true then yi else xi) = 2 ↔ (if sd = true then oy else ox) = true) (H : ∀ u', Eff (f_time, f_sent, f_stageCount, f_tasks, a_sourceEnded, a_stageKind, a_stageA, a_stageB, a_stageParts, a_partStage, a_partUser, a_partX, a_partY, a_phase, a_beganAfter, a_due, a_count, a_held, a_heldY, a_hasHeld, a_hasHeldY, a_queueSize, a_queueIsOfX, a_queueValue, a_queueDue, a_subStatus, a_subCode, a_subEnd, a_subDemand, a_subRequests, a_subDelivered, a_subWaiting, a_waitValue, a_history, a_taskWhat, a_taskPart, a_taskValue) u' i (hi 17 b t sd v (d, c, h, hy, f, fy, qx, q, ox, oy)).1 (hi 17 b t sd v (d, c, h, hy, f, fy, qx, q, ox, oy)).2 R → post u') : wpX_hearJoinedItem post (f_time, f_sent, f_stageCount, f_tasks, a_sourceEnded, a_stageKind, a_stageA, a_stageB, a_stageParts, a_partStage, a_partUser, a_partX, a_partY, a_phase, a_beganAfter, a_due, a_count, a_held, a_heldY, a_hasHeld, a_hasHeldY, a_queueSize, a_queueIsOfX, a_queueValue, a_queueDue, a_subStatus, a_subCode, a_subEnd, a_subDemand, a_subRequests, a_subDelivered, a_subWaiting, a_waitValue, a_history, a_taskWhat, a_taskPart, a_taskValue) (nI i) (nI fr) v := by
  obtain ⟨h27, ht, ht2, hps, hs, hk, ha, hb, ho⟩ := hx
  have hS0 := hS
  obtain ⟨a1, a2, a3, a4, a5, a6, a7, a8, a9, a10⟩ := hS
  have hc : (nI i).toNatClampNeg = i := nI_clamp (by omega)
  have hcs : (nI s).toNatClampNeg = s := nI_clamp (by omega)
  have hin : vp_in (nI i) 27 := vp_in_nI h27 (by decide)
  have hps' : a_partStage (nI i).toNatClampNeg = nI s := by rw [hc]; exact hps
  have e1 : vp_in (a_partStage (nI i).toNatClampNeg) 12 := by rw [hps']; exact vp_in_nI hs (by decide)
  have hX' : a_partX (nI i).toNatClampNeg = nI xi := by rw [hc]; exact hX
  have hY' : a_partY (nI i).toNatClampNeg = nI yi := by rw [hc]; exact hY
  have hfr0 := hfr
  have o7 := ok.2.2.2.2.2.2 rfl
  have a8' : a_queueSize (nI i).toNatClampNeg = nI q.length := by rw [hc]; exact a8
  refine xh_j_of h27 hX hY hx27 hy27 hne hfr ⟨hin, e1, nm_r (e' := nI 17) (by rw [hps', hcs]; exact hk) (br_t rfl ⟨hin, ?_⟩)⟩
  have q86 : (q = [] ∨ qx = sd) → wX_hearJoinedItem_86 post (nI i) v (bI sd) f_time f_sent f_stageCount f_tasks a_sourceEnded a_stageKind a_stageA a_stageB a_stageParts a_partStage a_partUser a_partX a_partY a_phase a_beganAfter a_due a_count a_held a_heldY a_hasHeld a_hasHeldY a_queueSize a_queueIsOfX a_queueValue a_queueDue a_subStatus a_subCode a_subEnd a_subDemand a_subRequests a_subDelivered a_subWaiting a_waitValue a_history a_taskWhat a_taskPart a_taskValue := by
    intro hq
    refine ⟨hin, nm_r (e' := upd a_queueIsOfX i (bI sd)) (by rw [hc, xd_bI_nar]) ?_⟩
    have hrep : RepA a_due a_count a_held a_heldY a_hasHeld a_hasHeldY a_queueSize (upd a_queueIsOfX i (bI sd)) a_queueValue a_queueDue i (d, c, h, hy, f, fy, sd, q, ox, oy) := ⟨a1, a2, a3, a4, a5, a6, fun _ => pk_us, a8, a9, a10⟩
    have fr2 : ∀ u', ∀ S' o, Eff (f_time, f_sent, f_stageCount, f_tasks, a_sourceEnded, a_stageKind, a_stageA, a_stageB, a_stageParts, a_partStage, a_partUser, a_partX, a_partY, a_phase, a_beganAfter, a_due, a_count, a_held, a_heldY, a_hasHeld, a_hasHeldY, a_queueSize, upd a_queueIsOfX i (bI sd), a_queueValue, a_queueDue, a_subStatus, a_subCode, a_subEnd, a_subDemand, a_subRequests, a_subDelivered, a_subWaiting, a_waitValue, a_history, a_taskWhat, a_taskPart, a_taskValue) u' i S' o R → Eff (f_time, f_sent, f_stageCount, f_tasks, a_sourceEnded, a_stageKind, a_stageA, a_stageB, a_stageParts, a_partStage, a_partUser, a_partX, a_partY, a_phase, a_beganAfter, a_due, a_count, a_held, a_heldY, a_hasHeld, a_hasHeldY, a_queueSize, a_queueIsOfX, a_queueValue, a_queueDue, a_subStatus, a_subCode, a_subEnd, a_subDemand, a_subRequests, a_subDelivered, a_subWaiting, a_waitValue, a_history, a_taskWhat, a_taskPart, a_taskValue) u' i S' o R := fun u' S' o he => xe_eff_qo he (fun j hj => pk_un hj)
    refine xh_queueItem (dd := 0) h27 hrep hT hR (by omega) rfl (fun _ => pk_us) (fun h8 u' he => H u' ?_) (fun h8 u' he => H u' ?_)
    · have eh : hi 17 b t sd v (d, c, h, hy, f, fy, qx, q, ox, oy) = ((d, c, h, hy, f, fy, sd, q ++ [(v, 0)], ox, oy), []) := by
        cases q with
        | nil => simp [hi]
        | cons x r =>
          have hq' : qx = sd := by rcases hq with z | z; exact absurd z (by simp); exact z
          have h8' : r.length < 7 := by simp at h8; omega
          simp only [hi, if_pos hq', if_pos h8']
      rw [eh]
      exact fr2 _ _ _ he
    · have eh : hi 17 b t sd v (d, c, h, hy, f, fy, qx, q, ox, oy) = ((d, c, h, hy, f, fy, sd, q, ox, oy), [(3, 8)]) := by
        cases q with
        | nil => exact absurd (show ([] : List (Int32 × Nat)).length < 8 by decide) h8
        | cons x r =>
          have hq' : qx = sd := by rcases hq with z | z; exact absurd z (by simp); exact z
          have h8' : ¬ r.length < 7 := by simp at h8; omega
          simp only [hi, if_pos hq', if_neg h8']
      rw [eh]
      exact fr2 _ _ _ he
  cases q with
  | nil => exact br_t (by rw [a8']; decide) (q86 (Or.inl rfl))
  | cons x r =>
    have a7' : a_queueIsOfX (nI i).toNatClampNeg = bI qx := by rw [hc]; exact a7 ⟨x, by simp, o7 x (by simp)⟩
    have hlr : r.length < 8 := by have : (x :: r).length ≤ 8 := a9; simp at this; omega
    refine br_f (by rw [a8']; exact nI_nle (by simp) (by simp; omega)) ⟨hin, ?_⟩
    by_cases hq : qx = sd
    · exact br_t (by rw [a7', hq]) (q86 (Or.inr hq))
    · refine br_f (by rw [a7', xd_bI]; exact hq) ?_
      have m8 : nI i * 8 = nI (8 * i) := by rw [show (8 : Int32) = nI 8 from rfl, pk_mul, Nat.mul_comm]
      have c8 : (nI (8 * i)).toNatClampNeg = 8 * i := nI_clamp (by omega)
      have hx0 := a10 0 x rfl
      refine ⟨by rw [m8]; exact vp_in_nI (by omega) (by decide), nm_r (e' := x.1) (by rw [m8, c8]; exact hx0.1) ?_⟩
      refine xh_other h27 hX hY hx27 hy27 hne hfr ?_
      refine xh_drop (L := (x :: r).length) (g := 1) h27 a9 (by simp) a8 (fun qv' qd' k1 k2 => ⟨hin, ?_⟩)
      have ho27 : (if sd = true then yi else xi) < 27 := by split <;> omega
      have hco : (nI (if sd = true then yi else xi)).toNatClampNeg = (if sd = true then yi else xi) := nI_clamp (by omega)
      have eqs : upd a_queueSize i (nI ((x :: r).length - 1)) (nI i).toNatClampNeg = nI r.length := by rw [hc]; exact pk_us
      have hrep : RepA a_due a_count a_held a_heldY a_hasHeld a_hasHeldY (upd a_queueSize i (nI ((x :: r).length - 1))) a_queueIsOfX (qv') (qd') i (d, c, h, hy, f, fy, qx, r, ox, oy) := by
        refine ⟨a1, a2, a3, a4, a5, a6, fun ⟨e, he, _⟩ => a7 ⟨x, by simp, o7 x (by simp)⟩, pk_us, by omega, fun j e he => ?_⟩
        have hj := xh_q0 he
        have := k1 j (by simp; omega)
        rw [this.1, this.2]
        exact a10 (j + 1) e (by simpa using he)
      have hfm : ∀ j, j ≠ i → ∀ S, RepA a_due a_count a_held a_heldY a_hasHeld a_hasHeldY a_queueSize a_queueIsOfX a_queueValue a_queueDue j S → RepA a_due a_count a_held a_heldY a_hasHeld a_hasHeldY (upd a_queueSize i (nI ((x :: r).length - 1))) a_queueIsOfX (qv') (qd') j S := fun j hj S hS => xd_frame hS rfl rfl rfl rfl rfl rfl (pk_un hj) rfl (fun r hr => k2 j hj r hr)
      have hval : ∀ (tk : Int32) (tw tp tv : Nat → Int32) (R' : List Tk), tk = nI R'.length → R'.length + 1 ≤ 128 → rps tw tp tv R' → (∀ u', Eff (f_time, f_sent, f_stageCount, f_tasks, a_sourceEnded, a_stageKind, a_stageA, a_stageB, a_stageParts, a_partStage, a_partUser, a_partX, a_partY, a_phase, a_beganAfter, a_due, a_count, a_held, a_heldY, a_hasHeld, a_hasHeldY, a_queueSize, a_queueIsOfX, a_queueValue, a_queueDue, a_subStatus, a_subCode, a_subEnd, a_subDemand, a_subRequests, a_subDelivered, a_subWaiting, a_waitValue, a_history, a_taskWhat, a_taskPart, a_taskValue) u' i (d, c, h, hy, f, fy, qx, r, ox, oy) ((1, if sd = true then 31 * v + x.1 else 31 * x.1 + v) :: []) R' → post u') → wX_pairItem_52 post (nI i) (nI fr) v x.1 f_time f_sent f_stageCount (tk) a_sourceEnded a_stageKind a_stageA a_stageB a_stageParts a_partStage a_partUser a_partX a_partY a_phase a_beganAfter a_due a_count a_held a_heldY a_hasHeld a_hasHeldY (upd a_queueSize i (nI ((x :: r).length - 1))) a_queueIsOfX (qv') (qd') a_subStatus a_subCode a_subEnd a_subDemand a_subRequests a_subDelivered a_subWaiting a_waitValue a_history (tw) (tp) (tv) := by
        intro tk tw tp tv R' htk hl' hR' HH
        have hs := xh_side (i := i) hx27 hy27 hne hfr
        refine ⟨hin, ?_⟩
        cases sd
        · exact br_f (by rw [hX', hs]; decide) (xw_push htk (by omega) (HH _ (xe_eff hrep hfm rfl (xd_rps_push hR'))))
        · exact br_t (by rw [hX', hs]) (xw_push htk (by omega) (HH _ (xe_eff hrep hfm rfl (xd_rps_push hR'))))
      by_cases hr0 : r = [] ∧ (if sd = true then oy else ox) = true
      · have eh : hi 17 b t sd v (d, c, h, hy, f, fy, qx, x :: r, ox, oy) = ((d, c, h, hy, f, fy, qx, r, ox, oy), [(1, if sd = true then 31 * v + x.1 else 31 * x.1 + v), (2, 0)]) := by
          simp only [hi, if_neg hq, if_pos hr0]
        rw [eh] at H
        refine br_t (by rw [eqs, hr0.1]; rfl) ⟨vp_in_nI ho27 (by decide), br_t (by rw [hco, hph]; exact hr0.2) ?_⟩
        refine xw_push hT (by omega) ?_
        refine hval _ _ _ _ ((2, i, 0) :: R) rfl (by simp; omega) (xd_rps_push hR) (fun u' he => H u' ?_)
        exact xe_eff_2 he
      · have eh : hi 17 b t sd v (d, c, h, hy, f, fy, qx, x :: r, ox, oy) = ((d, c, h, hy, f, fy, qx, r, ox, oy), [(1, if sd = true then 31 * v + x.1 else 31 * x.1 + v)]) := by
          simp only [hi, if_neg hq, if_neg hr0]
        rw [eh] at H
        have hgo := hval _ _ _ _ R hT (by omega) hR H
        by_cases hr1 : r = []
        · have hnp : ¬ (if sd = true then oy else ox) = true := fun z => hr0 ⟨hr1, z⟩
          exact br_t (by rw [eqs, hr1]; rfl) ⟨vp_in_nI ho27 (by decide), br_f (by rw [hco, hph]; exact hnp) hgo⟩
        · exact br_f (by rw [eqs]; exact nI_ne0 (by cases r; exact absurd rfl hr1; simp) (by omega)) hgo
end
