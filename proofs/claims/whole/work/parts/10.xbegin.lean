/-! ===== beginPart, fireTimer ===== -/
def begs (k i xi yi : Nat) (a : Int32) : List Tk := if k < 2 then [] else if k = 2 then [(1, i, a), (2, i, 0)] else if 16 ≤ k ∧ k < 19 then [(0, xi, 0), (0, yi, 0)] else [(0, xi, 0)]
def EffB (u u' : SX) (i : Nat) (S' : PSt) (L R : List Tk) : Prop :=
  x_st2 u' = x_st2 u ∧ x_sub u' = x_sub u ∧ x_phase u' = upd (x_phase u) i 1 ∧ x_beganAfter u' = upd (x_beganAfter u) i (x_sent u) ∧ RepP u' i S' ∧ (∀ j, j ≠ i → ∀ S, RepP u j S → RepP u' j S) ∧ RepS u' (L ++ R)
def clr : PSt := (0, 0, 0, 0, false, false, false, [], false, false)
section
variable {f_time : Int32} {f_sent : Int32} {f_stageCount : Int32} {f_tasks : Int32} {a_sourceEnded : (Nat → Int32)} {a_stageKind : (Nat → Int32)} {a_stageA : (Nat → Int32)} {a_stageB : (Nat → Int32)} {a_stageParts : (Nat → Int32)} {a_partStage : (Nat → Int32)} {a_partUser : (Nat → Int32)} {a_partX : (Nat → Int32)} {a_partY : (Nat → Int32)} {a_phase : (Nat → Int32)} {a_beganAfter : (Nat → Int32)} {a_due : (Nat → Int32)} {a_count : (Nat → Int32)} {a_held : (Nat → Int32)} {a_heldY : (Nat → Int32)} {a_hasHeld : (Nat → Int32)} {a_hasHeldY : (Nat → Int32)} {a_queueSize : (Nat → Int32)} {a_queueIsOfX : (Nat → Int32)} {a_queueValue : (Nat → Int32)} {a_queueDue : (Nat → Int32)} {a_subStatus : (Nat → Int32)} {a_subCode : (Nat → Int32)} {a_subEnd : (Nat → Int32)} {a_subDemand : (Nat → Int64)} {a_subRequests : (Nat → Int32)} {a_subDelivered : (Nat → Int32)} {a_subWaiting : (Nat → Int32)} {a_waitValue : (Nat → Int32)} {a_history : (Nat → Int64)} {a_taskWhat : (Nat → Int32)} {a_taskPart : (Nat → Int32)} {a_taskValue : (Nat → Int32)}
theorem xe_effB {i : Nat} {S' : PSt} {L R : List Tk} {tk' : Int32} {ph' ba' du' co' he' hY' hH' hHY' qs' qo' qv' qd' tw' tp' tv' : Nat → Int32} (hp : ph' = upd a_phase i 1) (hb : ba' = upd a_beganAfter i f_sent) (h1 : RepA du' co' he' hY' hH' hHY' qs' qo' qv' qd' i S') (h2 : ∀ j, j ≠ i → ∀ S, RepA a_due a_count a_held a_heldY a_hasHeld a_hasHeldY a_queueSize a_queueIsOfX a_queueValue a_queueDue j S → RepA du' co' he' hY' hH' hHY' qs' qo' qv' qd' j S) (h3 : tk' = nI (L ++ R).length) (h4 : rps tw' tp' tv' (L ++ R)) :
    EffB (f_time, f_sent, f_stageCount, f_tasks, a_sourceEnded, a_stageKind, a_stageA, a_stageB, a_stageParts, a_partStage, a_partUser, a_partX, a_partY, a_phase, a_beganAfter, a_due, a_count, a_held, a_heldY, a_hasHeld, a_hasHeldY, a_queueSize, a_queueIsOfX, a_queueValue, a_queueDue, a_subStatus, a_subCode, a_subEnd, a_subDemand, a_subRequests, a_subDelivered, a_subWaiting, a_waitValue, a_history, a_taskWhat, a_taskPart, a_taskValue) (f_time, f_sent, f_stageCount, tk', a_sourceEnded, a_stageKind, a_stageA, a_stageB, a_stageParts, a_partStage, a_partUser, a_partX, a_partY, ph', ba', du', co', he', hY', hH', hHY', qs', qo', qv', qd', a_subStatus, a_subCode, a_subEnd, a_subDemand, a_subRequests, a_subDelivered, a_subWaiting, a_waitValue, a_history, tw', tp', tv') i S' L R := ⟨xe_st2.trans xe_st2.symm, xe_sub.trans xe_sub.symm, hp, hb, h1, h2, h3, h4⟩
theorem xb_0 {post : SX → Prop} {i t s xi yi : Nat} {a b : Int32} {R : List Tk} (hx : HA f_time a_partStage a_stageKind a_stageA a_stageB i t s 0 a b) (hS : RepA a_due a_count a_held a_heldY a_hasHeld a_hasHeldY a_queueSize a_queueIsOfX a_queueValue a_queueDue i clr) (hT : f_tasks = nI R.length) (hR : rps a_taskWhat a_taskPart a_taskValue R) (hl : R.length + 2 ≤ 128) (hX : 3 ≤ 0 → a_partX i = nI xi) (hY : 16 ≤ 0 → a_partY i = nI yi) (H : ∀ u', EffB (f_time, f_sent, f_stageCount, f_tasks, a_sourceEnded, a_stageKind, a_stageA, a_stageB, a_stageParts, a_partStage, a_partUser, a_partX, a_partY, a_phase, a_beganAfter, a_due, a_count, a_held, a_heldY, a_hasHeld, a_hasHeldY, a_queueSize, a_queueIsOfX, a_queueValue, a_queueDue, a_subStatus, a_subCode, a_subEnd, a_subDemand, a_subRequests, a_subDelivered, a_subWaiting, a_waitValue, a_history, a_taskWhat, a_taskPart, a_taskValue) u' i (ini 0 a b t) (begs 0 i xi yi a) R → post u') : wpX_beginPart post (f_time, f_sent, f_stageCount, f_tasks, a_sourceEnded, a_stageKind, a_stageA, a_stageB, a_stageParts, a_partStage, a_partUser, a_partX, a_partY, a_phase, a_beganAfter, a_due, a_count, a_held, a_heldY, a_hasHeld, a_hasHeldY, a_queueSize, a_queueIsOfX, a_queueValue, a_queueDue, a_subStatus, a_subCode, a_subEnd, a_subDemand, a_subRequests, a_subDelivered, a_subWaiting, a_waitValue, a_history, a_taskWhat, a_taskPart, a_taskValue) (nI i) := by
  obtain ⟨h27, ht, ht2, hps, hs, hk, ha, hb, ho⟩ := hx
  have hS0 := hS
  obtain ⟨a1, a2, a3, a4, a5, a6, a7, a8, a9, a10⟩ := hS
  have hcl : (nI i).toNatClampNeg = i := nI_clamp (by omega)
  have hcs : (nI s).toNatClampNeg = s := nI_clamp (by omega)
  have hin : vp_in (nI i) 27 := vp_in_nI h27 (by decide)
  have his : vp_in (nI s) 12 := vp_in_nI hs (by decide)
  have hps' : a_partStage (nI i).toNatClampNeg = nI s := by rw [hcl]; exact hps
  refine ⟨hin, nm_r (e' := nI s) hps' ⟨hin, nm_r (e' := upd a_phase i 1) (by rw [hcl]) ⟨hin, nm_r (e' := upd a_beganAfter i f_sent) (by rw [hcl]) ⟨his, nm_r (e' := nI 0) (by rw [hcs]; exact hk) (br_f (by decide) ?_)⟩⟩⟩⟩
  refine br_f (by decide) ?_
  refine br_t rfl ?_
  exact H _ (xe_effB rfl rfl hS0 (fun j hj S hS => hS) hT hR)
theorem xb_1 {post : SX → Prop} {i t s xi yi : Nat} {a b : Int32} {R : List Tk} (hx : HA f_time a_partStage a_stageKind a_stageA a_stageB i t s 1 a b) (hS : RepA a_due a_count a_held a_heldY a_hasHeld a_hasHeldY a_queueSize a_queueIsOfX a_queueValue a_queueDue i clr) (hT : f_tasks = nI R.length) (hR : rps a_taskWhat a_taskPart a_taskValue R) (hl : R.length + 2 ≤ 128) (hX : 3 ≤ 1 → a_partX i = nI xi) (hY : 16 ≤ 1 → a_partY i = nI yi) (H : ∀ u', EffB (f_time, f_sent, f_stageCount, f_tasks, a_sourceEnded, a_stageKind, a_stageA, a_stageB, a_stageParts, a_partStage, a_partUser, a_partX, a_partY, a_phase, a_beganAfter, a_due, a_count, a_held, a_heldY, a_hasHeld, a_hasHeldY, a_queueSize, a_queueIsOfX, a_queueValue, a_queueDue, a_subStatus, a_subCode, a_subEnd, a_subDemand, a_subRequests, a_subDelivered, a_subWaiting, a_waitValue, a_history, a_taskWhat, a_taskPart, a_taskValue) u' i (ini 1 a b t) (begs 1 i xi yi a) R → post u') : wpX_beginPart post (f_time, f_sent, f_stageCount, f_tasks, a_sourceEnded, a_stageKind, a_stageA, a_stageB, a_stageParts, a_partStage, a_partUser, a_partX, a_partY, a_phase, a_beganAfter, a_due, a_count, a_held, a_heldY, a_hasHeld, a_hasHeldY, a_queueSize, a_queueIsOfX, a_queueValue, a_queueDue, a_subStatus, a_subCode, a_subEnd, a_subDemand, a_subRequests, a_subDelivered, a_subWaiting, a_waitValue, a_history, a_taskWhat, a_taskPart, a_taskValue) (nI i) := by
  obtain ⟨h27, ht, ht2, hps, hs, hk, ha, hb, ho⟩ := hx
  have hS0 := hS
  obtain ⟨a1, a2, a3, a4, a5, a6, a7, a8, a9, a10⟩ := hS
  have hcl : (nI i).toNatClampNeg = i := nI_clamp (by omega)
  have hcs : (nI s).toNatClampNeg = s := nI_clamp (by omega)
  have hin : vp_in (nI i) 27 := vp_in_nI h27 (by decide)
  have his : vp_in (nI s) 12 := vp_in_nI hs (by decide)
  have hps' : a_partStage (nI i).toNatClampNeg = nI s := by rw [hcl]; exact hps
  refine ⟨hin, nm_r (e' := nI s) hps' ⟨hin, nm_r (e' := upd a_phase i 1) (by rw [hcl]) ⟨hin, nm_r (e' := upd a_beganAfter i f_sent) (by rw [hcl]) ⟨his, nm_r (e' := nI 1) (by rw [hcs]; exact hk) (br_f (by decide) ?_)⟩⟩⟩⟩
  refine br_f (by decide) ?_
  iterate 1 (refine br_f (by decide) ?_)
  refine br_t rfl ?_
  have ho1 := ho.2.2.1 rfl
  have ht' : f_time = nI t := ht
  have ed : f_time + a_stageA (nI s).toNatClampNeg = dI (t + cl a) := by rw [ht', hcs, xd_dIp (by omega), ← nI_add, ← ho1.2.2]; exact congrArg _ ha
  refine ⟨his, hin, nm_r (e' := upd a_due i (dI (t + cl a))) (by rw [ed, hcl]) ?_⟩
  exact H _ (xe_effB rfl rfl ⟨pk_us, a2, a3, a4, a5, a6, a7, a8, a9, a10⟩ (fun j hj S hS => xd_frame hS (pk_un hj) rfl rfl rfl rfl rfl rfl rfl (fun r hr => ⟨rfl, rfl⟩)) hT hR)
theorem xb_2 {post : SX → Prop} {i t s xi yi : Nat} {a b : Int32} {R : List Tk} (hx : HA f_time a_partStage a_stageKind a_stageA a_stageB i t s 2 a b) (hS : RepA a_due a_count a_held a_heldY a_hasHeld a_hasHeldY a_queueSize a_queueIsOfX a_queueValue a_queueDue i clr) (hT : f_tasks = nI R.length) (hR : rps a_taskWhat a_taskPart a_taskValue R) (hl : R.length + 2 ≤ 128) (hX : 3 ≤ 2 → a_partX i = nI xi) (hY : 16 ≤ 2 → a_partY i = nI yi) (H : ∀ u', EffB (f_time, f_sent, f_stageCount, f_tasks, a_sourceEnded, a_stageKind, a_stageA, a_stageB, a_stageParts, a_partStage, a_partUser, a_partX, a_partY, a_phase, a_beganAfter, a_due, a_count, a_held, a_heldY, a_hasHeld, a_hasHeldY, a_queueSize, a_queueIsOfX, a_queueValue, a_queueDue, a_subStatus, a_subCode, a_subEnd, a_subDemand, a_subRequests, a_subDelivered, a_subWaiting, a_waitValue, a_history, a_taskWhat, a_taskPart, a_taskValue) u' i (ini 2 a b t) (begs 2 i xi yi a) R → post u') : wpX_beginPart post (f_time, f_sent, f_stageCount, f_tasks, a_sourceEnded, a_stageKind, a_stageA, a_stageB, a_stageParts, a_partStage, a_partUser, a_partX, a_partY, a_phase, a_beganAfter, a_due, a_count, a_held, a_heldY, a_hasHeld, a_hasHeldY, a_queueSize, a_queueIsOfX, a_queueValue, a_queueDue, a_subStatus, a_subCode, a_subEnd, a_subDemand, a_subRequests, a_subDelivered, a_subWaiting, a_waitValue, a_history, a_taskWhat, a_taskPart, a_taskValue) (nI i) := by
  obtain ⟨h27, ht, ht2, hps, hs, hk, ha, hb, ho⟩ := hx
  have hS0 := hS
  obtain ⟨a1, a2, a3, a4, a5, a6, a7, a8, a9, a10⟩ := hS
  have hcl : (nI i).toNatClampNeg = i := nI_clamp (by omega)
  have hcs : (nI s).toNatClampNeg = s := nI_clamp (by omega)
  have hin : vp_in (nI i) 27 := vp_in_nI h27 (by decide)
  have his : vp_in (nI s) 12 := vp_in_nI hs (by decide)
  have hps' : a_partStage (nI i).toNatClampNeg = nI s := by rw [hcl]; exact hps
  refine ⟨hin, nm_r (e' := nI s) hps' ⟨hin, nm_r (e' := upd a_phase i 1) (by rw [hcl]) ⟨hin, nm_r (e' := upd a_beganAfter i f_sent) (by rw [hcl]) ⟨his, nm_r (e' := nI 2) (by rw [hcs]; exact hk) (br_f (by decide) ?_)⟩⟩⟩⟩
  refine br_f (by decide) ?_
  iterate 2 (refine br_f (by decide) ?_)
  refine br_t rfl ?_
  refine xw_push hT (by omega) ⟨his, ?_⟩
  rw [show a_stageA (nI s).toNatClampNeg = a from by rw [hcs]; exact ha]
  exact xw_push rfl (by omega) (H _ (xe_effB rfl rfl hS0 (fun j hj S hS => hS) rfl (xd_rps_push (w := 1) (R := (2, i, 0) :: R) (xd_rps_push (w := 2) hR))))
theorem xb_3 {post : SX → Prop} {i t s xi yi : Nat} {a b : Int32} {R : List Tk} (hx : HA f_time a_partStage a_stageKind a_stageA a_stageB i t s 3 a b) (hS : RepA a_due a_count a_held a_heldY a_hasHeld a_hasHeldY a_queueSize a_queueIsOfX a_queueValue a_queueDue i clr) (hT : f_tasks = nI R.length) (hR : rps a_taskWhat a_taskPart a_taskValue R) (hl : R.length + 2 ≤ 128) (hX : 3 ≤ 3 → a_partX i = nI xi) (hY : 16 ≤ 3 → a_partY i = nI yi) (H : ∀ u', EffB (f_time, f_sent, f_stageCount, f_tasks, a_sourceEnded, a_stageKind, a_stageA, a_stageB, a_stageParts, a_partStage, a_partUser, a_partX, a_partY, a_phase, a_beganAfter, a_due, a_count, a_held, a_heldY, a_hasHeld, a_hasHeldY, a_queueSize, a_queueIsOfX, a_queueValue, a_queueDue, a_subStatus, a_subCode, a_subEnd, a_subDemand, a_subRequests, a_subDelivered, a_subWaiting, a_waitValue, a_history, a_taskWhat, a_taskPart, a_taskValue) u' i (ini 3 a b t) (begs 3 i xi yi a) R → post u') : wpX_beginPart post (f_time, f_sent, f_stageCount, f_tasks, a_sourceEnded, a_stageKind, a_stageA, a_stageB, a_stageParts, a_partStage, a_partUser, a_partX, a_partY, a_phase, a_beganAfter, a_due, a_count, a_held, a_heldY, a_hasHeld, a_hasHeldY, a_queueSize, a_queueIsOfX, a_queueValue, a_queueDue, a_subStatus, a_subCode, a_subEnd, a_subDemand, a_subRequests, a_subDelivered, a_subWaiting, a_waitValue, a_history, a_taskWhat, a_taskPart, a_taskValue) (nI i) := by
  obtain ⟨h27, ht, ht2, hps, hs, hk, ha, hb, ho⟩ := hx
  have hS0 := hS
  obtain ⟨a1, a2, a3, a4, a5, a6, a7, a8, a9, a10⟩ := hS
  have hcl : (nI i).toNatClampNeg = i := nI_clamp (by omega)
  have hcs : (nI s).toNatClampNeg = s := nI_clamp (by omega)
  have hin : vp_in (nI i) 27 := vp_in_nI h27 (by decide)
  have his : vp_in (nI s) 12 := vp_in_nI hs (by decide)
  have hps' : a_partStage (nI i).toNatClampNeg = nI s := by rw [hcl]; exact hps
  refine ⟨hin, nm_r (e' := nI s) hps' ⟨hin, nm_r (e' := upd a_phase i 1) (by rw [hcl]) ⟨hin, nm_r (e' := upd a_beganAfter i f_sent) (by rw [hcl]) ⟨his, nm_r (e' := nI 3) (by rw [hcs]; exact hk) (br_f (by decide) ?_)⟩⟩⟩⟩
  refine br_f (by decide) ?_
  iterate 3 (refine br_f (by decide) ?_)
  refine br_t rfl ?_
  have hX' : a_partX (nI i).toNatClampNeg = nI xi := by rw [hcl]; exact hX (by decide)
  refine ⟨hin, ?_⟩
  rw [hX']
  exact xw_push hT (by omega) (H _ (xe_effB rfl rfl hS0 (fun j hj S hS => hS) rfl (xd_rps_push (w := 0) hR)))
theorem xb_4 {post : SX → Prop} {i t s xi yi : Nat} {a b : Int32} {R : List Tk} (hx : HA f_time a_partStage a_stageKind a_stageA a_stageB i t s 4 a b) (hS : RepA a_due a_count a_held a_heldY a_hasHeld a_hasHeldY a_queueSize a_queueIsOfX a_queueValue a_queueDue i clr) (hT : f_tasks = nI R.length) (hR : rps a_taskWhat a_taskPart a_taskValue R) (hl : R.length + 2 ≤ 128) (hX : 3 ≤ 4 → a_partX i = nI xi) (hY : 16 ≤ 4 → a_partY i = nI yi) (H : ∀ u', EffB (f_time, f_sent, f_stageCount, f_tasks, a_sourceEnded, a_stageKind, a_stageA, a_stageB, a_stageParts, a_partStage, a_partUser, a_partX, a_partY, a_phase, a_beganAfter, a_due, a_count, a_held, a_heldY, a_hasHeld, a_hasHeldY, a_queueSize, a_queueIsOfX, a_queueValue, a_queueDue, a_subStatus, a_subCode, a_subEnd, a_subDemand, a_subRequests, a_subDelivered, a_subWaiting, a_waitValue, a_history, a_taskWhat, a_taskPart, a_taskValue) u' i (ini 4 a b t) (begs 4 i xi yi a) R → post u') : wpX_beginPart post (f_time, f_sent, f_stageCount, f_tasks, a_sourceEnded, a_stageKind, a_stageA, a_stageB, a_stageParts, a_partStage, a_partUser, a_partX, a_partY, a_phase, a_beganAfter, a_due, a_count, a_held, a_heldY, a_hasHeld, a_hasHeldY, a_queueSize, a_queueIsOfX, a_queueValue, a_queueDue, a_subStatus, a_subCode, a_subEnd, a_subDemand, a_subRequests, a_subDelivered, a_subWaiting, a_waitValue, a_history, a_taskWhat, a_taskPart, a_taskValue) (nI i) := by
  obtain ⟨h27, ht, ht2, hps, hs, hk, ha, hb, ho⟩ := hx
  have hS0 := hS
  obtain ⟨a1, a2, a3, a4, a5, a6, a7, a8, a9, a10⟩ := hS
  have hcl : (nI i).toNatClampNeg = i := nI_clamp (by omega)
  have hcs : (nI s).toNatClampNeg = s := nI_clamp (by omega)
  have hin : vp_in (nI i) 27 := vp_in_nI h27 (by decide)
  have his : vp_in (nI s) 12 := vp_in_nI hs (by decide)
  have hps' : a_partStage (nI i).toNatClampNeg = nI s := by rw [hcl]; exact hps
  refine ⟨hin, nm_r (e' := nI s) hps' ⟨hin, nm_r (e' := upd a_phase i 1) (by rw [hcl]) ⟨hin, nm_r (e' := upd a_beganAfter i f_sent) (by rw [hcl]) ⟨his, nm_r (e' := nI 4) (by rw [hcs]; exact hk) (br_f (by decide) ?_)⟩⟩⟩⟩
  refine br_f (by decide) ?_
  iterate 4 (refine br_f (by decide) ?_)
  refine br_t rfl ?_
  have hX' : a_partX (nI i).toNatClampNeg = nI xi := by rw [hcl]; exact hX (by decide)
  refine ⟨hin, ?_⟩
  rw [hX']
  exact xw_push hT (by omega) (H _ (xe_effB rfl rfl hS0 (fun j hj S hS => hS) rfl (xd_rps_push (w := 0) hR)))
theorem xb_5 {post : SX → Prop} {i t s xi yi : Nat} {a b : Int32} {R : List Tk} (hx : HA f_time a_partStage a_stageKind a_stageA a_stageB i t s 5 a b) (hS : RepA a_due a_count a_held a_heldY a_hasHeld a_hasHeldY a_queueSize a_queueIsOfX a_queueValue a_queueDue i clr) (hT : f_tasks = nI R.length) (hR : rps a_taskWhat a_taskPart a_taskValue R) (hl : R.length + 2 ≤ 128) (hX : 3 ≤ 5 → a_partX i = nI xi) (hY : 16 ≤ 5 → a_partY i = nI yi) (H : ∀ u', EffB (f_time, f_sent, f_stageCount, f_tasks, a_sourceEnded, a_stageKind, a_stageA, a_stageB, a_stageParts, a_partStage, a_partUser, a_partX, a_partY, a_phase, a_beganAfter, a_due, a_count, a_held, a_heldY, a_hasHeld, a_hasHeldY, a_queueSize, a_queueIsOfX, a_queueValue, a_queueDue, a_subStatus, a_subCode, a_subEnd, a_subDemand, a_subRequests, a_subDelivered, a_subWaiting, a_waitValue, a_history, a_taskWhat, a_taskPart, a_taskValue) u' i (ini 5 a b t) (begs 5 i xi yi a) R → post u') : wpX_beginPart post (f_time, f_sent, f_stageCount, f_tasks, a_sourceEnded, a_stageKind, a_stageA, a_stageB, a_stageParts, a_partStage, a_partUser, a_partX, a_partY, a_phase, a_beganAfter, a_due, a_count, a_held, a_heldY, a_hasHeld, a_hasHeldY, a_queueSize, a_queueIsOfX, a_queueValue, a_queueDue, a_subStatus, a_subCode, a_subEnd, a_subDemand, a_subRequests, a_subDelivered, a_subWaiting, a_waitValue, a_history, a_taskWhat, a_taskPart, a_taskValue) (nI i) := by
  obtain ⟨h27, ht, ht2, hps, hs, hk, ha, hb, ho⟩ := hx
  have hS0 := hS
  obtain ⟨a1, a2, a3, a4, a5, a6, a7, a8, a9, a10⟩ := hS
  have hcl : (nI i).toNatClampNeg = i := nI_clamp (by omega)
  have hcs : (nI s).toNatClampNeg = s := nI_clamp (by omega)
  have hin : vp_in (nI i) 27 := vp_in_nI h27 (by decide)
  have his : vp_in (nI s) 12 := vp_in_nI hs (by decide)
  have hps' : a_partStage (nI i).toNatClampNeg = nI s := by rw [hcl]; exact hps
  refine ⟨hin, nm_r (e' := nI s) hps' ⟨hin, nm_r (e' := upd a_phase i 1) (by rw [hcl]) ⟨hin, nm_r (e' := upd a_beganAfter i f_sent) (by rw [hcl]) ⟨his, nm_r (e' := nI 5) (by rw [hcs]; exact hk) (br_f (by decide) ?_)⟩⟩⟩⟩
  refine br_f (by decide) ?_
  iterate 5 (refine br_f (by decide) ?_)
  refine br_t rfl ?_
  have hX' : a_partX (nI i).toNatClampNeg = nI xi := by rw [hcl]; exact hX (by decide)
  refine ⟨his, hin, nm_r (e' := upd a_held i b) (by rw [hcs, hcl]; exact congrArg _ hb) ⟨hin, ?_⟩⟩
  rw [hX']
  exact xw_push hT (by omega) (H _ (xe_effB rfl rfl ⟨a1, a2, pk_us, a4, a5, a6, a7, a8, a9, a10⟩ (fun j hj S hS => xd_frame hS rfl rfl (pk_un hj) rfl rfl rfl rfl rfl (fun r hr => ⟨rfl, rfl⟩)) rfl (xd_rps_push (w := 0) hR)))
theorem xb_6 {post : SX → Prop} {i t s xi yi : Nat} {a b : Int32} {R : List Tk} (hx : HA f_time a_partStage a_stageKind a_stageA a_stageB i t s 6 a b) (hS : RepA a_due a_count a_held a_heldY a_hasHeld a_hasHeldY a_queueSize a_queueIsOfX a_queueValue a_queueDue i clr) (hT : f_tasks = nI R.length) (hR : rps a_taskWhat a_taskPart a_taskValue R) (hl : R.length + 2 ≤ 128) (hX : 3 ≤ 6 → a_partX i = nI xi) (hY : 16 ≤ 6 → a_partY i = nI yi) (H : ∀ u', EffB (f_time, f_sent, f_stageCount, f_tasks, a_sourceEnded, a_stageKind, a_stageA, a_stageB, a_stageParts, a_partStage, a_partUser, a_partX, a_partY, a_phase, a_beganAfter, a_due, a_count, a_held, a_heldY, a_hasHeld, a_hasHeldY, a_queueSize, a_queueIsOfX, a_queueValue, a_queueDue, a_subStatus, a_subCode, a_subEnd, a_subDemand, a_subRequests, a_subDelivered, a_subWaiting, a_waitValue, a_history, a_taskWhat, a_taskPart, a_taskValue) u' i (ini 6 a b t) (begs 6 i xi yi a) R → post u') : wpX_beginPart post (f_time, f_sent, f_stageCount, f_tasks, a_sourceEnded, a_stageKind, a_stageA, a_stageB, a_stageParts, a_partStage, a_partUser, a_partX, a_partY, a_phase, a_beganAfter, a_due, a_count, a_held, a_heldY, a_hasHeld, a_hasHeldY, a_queueSize, a_queueIsOfX, a_queueValue, a_queueDue, a_subStatus, a_subCode, a_subEnd, a_subDemand, a_subRequests, a_subDelivered, a_subWaiting, a_waitValue, a_history, a_taskWhat, a_taskPart, a_taskValue) (nI i) := by
  obtain ⟨h27, ht, ht2, hps, hs, hk, ha, hb, ho⟩ := hx
  have hS0 := hS
  obtain ⟨a1, a2, a3, a4, a5, a6, a7, a8, a9, a10⟩ := hS
  have hcl : (nI i).toNatClampNeg = i := nI_clamp (by omega)
  have hcs : (nI s).toNatClampNeg = s := nI_clamp (by omega)
  have hin : vp_in (nI i) 27 := vp_in_nI h27 (by decide)
  have his : vp_in (nI s) 12 := vp_in_nI hs (by decide)
  have hps' : a_partStage (nI i).toNatClampNeg = nI s := by rw [hcl]; exact hps
  refine ⟨hin, nm_r (e' := nI s) hps' ⟨hin, nm_r (e' := upd a_phase i 1) (by rw [hcl]) ⟨hin, nm_r (e' := upd a_beganAfter i f_sent) (by rw [hcl]) ⟨his, nm_r (e' := nI 6) (by rw [hcs]; exact hk) (br_f (by decide) ?_)⟩⟩⟩⟩
  refine br_f (by decide) ?_
  iterate 6 (refine br_f (by decide) ?_)
  refine br_t rfl ?_
  have hX' : a_partX (nI i).toNatClampNeg = nI xi := by rw [hcl]; exact hX (by decide)
  refine ⟨hin, ?_⟩
  rw [hX']
  exact xw_push hT (by omega) (H _ (xe_effB rfl rfl hS0 (fun j hj S hS => hS) rfl (xd_rps_push (w := 0) hR)))
theorem xb_7 {post : SX → Prop} {i t s xi yi : Nat} {a b : Int32} {R : List Tk} (hx : HA f_time a_partStage a_stageKind a_stageA a_stageB i t s 7 a b) (hS : RepA a_due a_count a_held a_heldY a_hasHeld a_hasHeldY a_queueSize a_queueIsOfX a_queueValue a_queueDue i clr) (hT : f_tasks = nI R.length) (hR : rps a_taskWhat a_taskPart a_taskValue R) (hl : R.length + 2 ≤ 128) (hX : 3 ≤ 7 → a_partX i = nI xi) (hY : 16 ≤ 7 → a_partY i = nI yi) (H : ∀ u', EffB (f_time, f_sent, f_stageCount, f_tasks, a_sourceEnded, a_stageKind, a_stageA, a_stageB, a_stageParts, a_partStage, a_partUser, a_partX, a_partY, a_phase, a_beganAfter, a_due, a_count, a_held, a_heldY, a_hasHeld, a_hasHeldY, a_queueSize, a_queueIsOfX, a_queueValue, a_queueDue, a_subStatus, a_subCode, a_subEnd, a_subDemand, a_subRequests, a_subDelivered, a_subWaiting, a_waitValue, a_history, a_taskWhat, a_taskPart, a_taskValue) u' i (ini 7 a b t) (begs 7 i xi yi a) R → post u') : wpX_beginPart post (f_time, f_sent, f_stageCount, f_tasks, a_sourceEnded, a_stageKind, a_stageA, a_stageB, a_stageParts, a_partStage, a_partUser, a_partX, a_partY, a_phase, a_beganAfter, a_due, a_count, a_held, a_heldY, a_hasHeld, a_hasHeldY, a_queueSize, a_queueIsOfX, a_queueValue, a_queueDue, a_subStatus, a_subCode, a_subEnd, a_subDemand, a_subRequests, a_subDelivered, a_subWaiting, a_waitValue, a_history, a_taskWhat, a_taskPart, a_taskValue) (nI i) := by
  obtain ⟨h27, ht, ht2, hps, hs, hk, ha, hb, ho⟩ := hx
  have hS0 := hS
  obtain ⟨a1, a2, a3, a4, a5, a6, a7, a8, a9, a10⟩ := hS
  have hcl : (nI i).toNatClampNeg = i := nI_clamp (by omega)
  have hcs : (nI s).toNatClampNeg = s := nI_clamp (by omega)
  have hin : vp_in (nI i) 27 := vp_in_nI h27 (by decide)
  have his : vp_in (nI s) 12 := vp_in_nI hs (by decide)
  have hps' : a_partStage (nI i).toNatClampNeg = nI s := by rw [hcl]; exact hps
  refine ⟨hin, nm_r (e' := nI s) hps' ⟨hin, nm_r (e' := upd a_phase i 1) (by rw [hcl]) ⟨hin, nm_r (e' := upd a_beganAfter i f_sent) (by rw [hcl]) ⟨his, nm_r (e' := nI 7) (by rw [hcs]; exact hk) (br_f (by decide) ?_)⟩⟩⟩⟩
  refine br_f (by decide) ?_
  iterate 7 (refine br_f (by decide) ?_)
  refine br_t rfl ?_
  have hX' : a_partX (nI i).toNatClampNeg = nI xi := by rw [hcl]; exact hX (by decide)
  refine ⟨hin, ?_⟩
  rw [hX']
  exact xw_push hT (by omega) (H _ (xe_effB rfl rfl hS0 (fun j hj S hS => hS) rfl (xd_rps_push (w := 0) hR)))
theorem xb_8 {post : SX → Prop} {i t s xi yi : Nat} {a b : Int32} {R : List Tk} (hx : HA f_time a_partStage a_stageKind a_stageA a_stageB i t s 8 a b) (hS : RepA a_due a_count a_held a_heldY a_hasHeld a_hasHeldY a_queueSize a_queueIsOfX a_queueValue a_queueDue i clr) (hT : f_tasks = nI R.length) (hR : rps a_taskWhat a_taskPart a_taskValue R) (hl : R.length + 2 ≤ 128) (hX : 3 ≤ 8 → a_partX i = nI xi) (hY : 16 ≤ 8 → a_partY i = nI yi) (H : ∀ u', EffB (f_time, f_sent, f_stageCount, f_tasks, a_sourceEnded, a_stageKind, a_stageA, a_stageB, a_stageParts, a_partStage, a_partUser, a_partX, a_partY, a_phase, a_beganAfter, a_due, a_count, a_held, a_heldY, a_hasHeld, a_hasHeldY, a_queueSize, a_queueIsOfX, a_queueValue, a_queueDue, a_subStatus, a_subCode, a_subEnd, a_subDemand, a_subRequests, a_subDelivered, a_subWaiting, a_waitValue, a_history, a_taskWhat, a_taskPart, a_taskValue) u' i (ini 8 a b t) (begs 8 i xi yi a) R → post u') : wpX_beginPart post (f_time, f_sent, f_stageCount, f_tasks, a_sourceEnded, a_stageKind, a_stageA, a_stageB, a_stageParts, a_partStage, a_partUser, a_partX, a_partY, a_phase, a_beganAfter, a_due, a_count, a_held, a_heldY, a_hasHeld, a_hasHeldY, a_queueSize, a_queueIsOfX, a_queueValue, a_queueDue, a_subStatus, a_subCode, a_subEnd, a_subDemand, a_subRequests, a_subDelivered, a_subWaiting, a_waitValue, a_history, a_taskWhat, a_taskPart, a_taskValue) (nI i) := by
  obtain ⟨h27, ht, ht2, hps, hs, hk, ha, hb, ho⟩ := hx
  have hS0 := hS
  obtain ⟨a1, a2, a3, a4, a5, a6, a7, a8, a9, a10⟩ := hS
  have hcl : (nI i).toNatClampNeg = i := nI_clamp (by omega)
  have hcs : (nI s).toNatClampNeg = s := nI_clamp (by omega)
  have hin : vp_in (nI i) 27 := vp_in_nI h27 (by decide)
  have his : vp_in (nI s) 12 := vp_in_nI hs (by decide)
  have hps' : a_partStage (nI i).toNatClampNeg = nI s := by rw [hcl]; exact hps
  refine ⟨hin, nm_r (e' := nI s) hps' ⟨hin, nm_r (e' := upd a_phase i 1) (by rw [hcl]) ⟨hin, nm_r (e' := upd a_beganAfter i f_sent) (by rw [hcl]) ⟨his, nm_r (e' := nI 8) (by rw [hcs]; exact hk) (br_f (by decide) ?_)⟩⟩⟩⟩
  refine br_f (by decide) ?_
  iterate 8 (refine br_f (by decide) ?_)
  refine br_t rfl ?_
  have hX' : a_partX (nI i).toNatClampNeg = nI xi := by rw [hcl]; exact hX (by decide)
  refine ⟨hin, ?_⟩
  rw [hX']
  exact xw_push hT (by omega) (H _ (xe_effB rfl rfl hS0 (fun j hj S hS => hS) rfl (xd_rps_push (w := 0) hR)))
theorem xb_9 {post : SX → Prop} {i t s xi yi : Nat} {a b : Int32} {R : List Tk} (hx : HA f_time a_partStage a_stageKind a_stageA a_stageB i t s 9 a b) (hS : RepA a_due a_count a_held a_heldY a_hasHeld a_hasHeldY a_queueSize a_queueIsOfX a_queueValue a_queueDue i clr) (hT : f_tasks = nI R.length) (hR : rps a_taskWhat a_taskPart a_taskValue R) (hl : R.length + 2 ≤ 128) (hX : 3 ≤ 9 → a_partX i = nI xi) (hY : 16 ≤ 9 → a_partY i = nI yi) (H : ∀ u', EffB (f_time, f_sent, f_stageCount, f_tasks, a_sourceEnded, a_stageKind, a_stageA, a_stageB, a_stageParts, a_partStage, a_partUser, a_partX, a_partY, a_phase, a_beganAfter, a_due, a_count, a_held, a_heldY, a_hasHeld, a_hasHeldY, a_queueSize, a_queueIsOfX, a_queueValue, a_queueDue, a_subStatus, a_subCode, a_subEnd, a_subDemand, a_subRequests, a_subDelivered, a_subWaiting, a_waitValue, a_history, a_taskWhat, a_taskPart, a_taskValue) u' i (ini 9 a b t) (begs 9 i xi yi a) R → post u') : wpX_beginPart post (f_time, f_sent, f_stageCount, f_tasks, a_sourceEnded, a_stageKind, a_stageA, a_stageB, a_stageParts, a_partStage, a_partUser, a_partX, a_partY, a_phase, a_beganAfter, a_due, a_count, a_held, a_heldY, a_hasHeld, a_hasHeldY, a_queueSize, a_queueIsOfX, a_queueValue, a_queueDue, a_subStatus, a_subCode, a_subEnd, a_subDemand, a_subRequests, a_subDelivered, a_subWaiting, a_waitValue, a_history, a_taskWhat, a_taskPart, a_taskValue) (nI i) := by
  obtain ⟨h27, ht, ht2, hps, hs, hk, ha, hb, ho⟩ := hx
  have hS0 := hS
  obtain ⟨a1, a2, a3, a4, a5, a6, a7, a8, a9, a10⟩ := hS
  have hcl : (nI i).toNatClampNeg = i := nI_clamp (by omega)
  have hcs : (nI s).toNatClampNeg = s := nI_clamp (by omega)
  have hin : vp_in (nI i) 27 := vp_in_nI h27 (by decide)
  have his : vp_in (nI s) 12 := vp_in_nI hs (by decide)
  have hps' : a_partStage (nI i).toNatClampNeg = nI s := by rw [hcl]; exact hps
  refine ⟨hin, nm_r (e' := nI s) hps' ⟨hin, nm_r (e' := upd a_phase i 1) (by rw [hcl]) ⟨hin, nm_r (e' := upd a_beganAfter i f_sent) (by rw [hcl]) ⟨his, nm_r (e' := nI 9) (by rw [hcs]; exact hk) (br_f (by decide) ?_)⟩⟩⟩⟩
  refine br_f (by decide) ?_
  iterate 9 (refine br_f (by decide) ?_)
  refine br_t rfl ?_
  have hX' : a_partX (nI i).toNatClampNeg = nI xi := by rw [hcl]; exact hX (by decide)
  refine ⟨hin, ?_⟩
  rw [hX']
  exact xw_push hT (by omega) (H _ (xe_effB rfl rfl hS0 (fun j hj S hS => hS) rfl (xd_rps_push (w := 0) hR)))
theorem xb_10 {post : SX → Prop} {i t s xi yi : Nat} {a b : Int32} {R : List Tk} (hx : HA f_time a_partStage a_stageKind a_stageA a_stageB i t s 10 a b) (hS : RepA a_due a_count a_held a_heldY a_hasHeld a_hasHeldY a_queueSize a_queueIsOfX a_queueValue a_queueDue i clr) (hT : f_tasks = nI R.length) (hR : rps a_taskWhat a_taskPart a_taskValue R) (hl : R.length + 2 ≤ 128) (hX : 3 ≤ 10 → a_partX i = nI xi) (hY : 16 ≤ 10 → a_partY i = nI yi) (H : ∀ u', EffB (f_time, f_sent, f_stageCount, f_tasks, a_sourceEnded, a_stageKind, a_stageA, a_stageB, a_stageParts, a_partStage, a_partUser, a_partX, a_partY, a_phase, a_beganAfter, a_due, a_count, a_held, a_heldY, a_hasHeld, a_hasHeldY, a_queueSize, a_queueIsOfX, a_queueValue, a_queueDue, a_subStatus, a_subCode, a_subEnd, a_subDemand, a_subRequests, a_subDelivered, a_subWaiting, a_waitValue, a_history, a_taskWhat, a_taskPart, a_taskValue) u' i (ini 10 a b t) (begs 10 i xi yi a) R → post u') : wpX_beginPart post (f_time, f_sent, f_stageCount, f_tasks, a_sourceEnded, a_stageKind, a_stageA, a_stageB, a_stageParts, a_partStage, a_partUser, a_partX, a_partY, a_phase, a_beganAfter, a_due, a_count, a_held, a_heldY, a_hasHeld, a_hasHeldY, a_queueSize, a_queueIsOfX, a_queueValue, a_queueDue, a_subStatus, a_subCode, a_subEnd, a_subDemand, a_subRequests, a_subDelivered, a_subWaiting, a_waitValue, a_history, a_taskWhat, a_taskPart, a_taskValue) (nI i) := by
  obtain ⟨h27, ht, ht2, hps, hs, hk, ha, hb, ho⟩ := hx
  have hS0 := hS
  obtain ⟨a1, a2, a3, a4, a5, a6, a7, a8, a9, a10⟩ := hS
  have hcl : (nI i).toNatClampNeg = i := nI_clamp (by omega)
  have hcs : (nI s).toNatClampNeg = s := nI_clamp (by omega)
  have hin : vp_in (nI i) 27 := vp_in_nI h27 (by decide)
  have his : vp_in (nI s) 12 := vp_in_nI hs (by decide)
  have hps' : a_partStage (nI i).toNatClampNeg = nI s := by rw [hcl]; exact hps
  refine ⟨hin, nm_r (e' := nI s) hps' ⟨hin, nm_r (e' := upd a_phase i 1) (by rw [hcl]) ⟨hin, nm_r (e' := upd a_beganAfter i f_sent) (by rw [hcl]) ⟨his, nm_r (e' := nI 10) (by rw [hcs]; exact hk) (br_f (by decide) ?_)⟩⟩⟩⟩
  refine br_f (by decide) ?_
  iterate 10 (refine br_f (by decide) ?_)
  refine br_t rfl ?_
  have hX' : a_partX (nI i).toNatClampNeg = nI xi := by rw [hcl]; exact hX (by decide)
  refine ⟨hin, ?_⟩
  rw [hX']
  exact xw_push hT (by omega) (H _ (xe_effB rfl rfl hS0 (fun j hj S hS => hS) rfl (xd_rps_push (w := 0) hR)))
theorem xb_11 {post : SX → Prop} {i t s xi yi : Nat} {a b : Int32} {R : List Tk} (hx : HA f_time a_partStage a_stageKind a_stageA a_stageB i t s 11 a b) (hS : RepA a_due a_count a_held a_heldY a_hasHeld a_hasHeldY a_queueSize a_queueIsOfX a_queueValue a_queueDue i clr) (hT : f_tasks = nI R.length) (hR : rps a_taskWhat a_taskPart a_taskValue R) (hl : R.length + 2 ≤ 128) (hX : 3 ≤ 11 → a_partX i = nI xi) (hY : 16 ≤ 11 → a_partY i = nI yi) (H : ∀ u', EffB (f_time, f_sent, f_stageCount, f_tasks, a_sourceEnded, a_stageKind, a_stageA, a_stageB, a_stageParts, a_partStage, a_partUser, a_partX, a_partY, a_phase, a_beganAfter, a_due, a_count, a_held, a_heldY, a_hasHeld, a_hasHeldY, a_queueSize, a_queueIsOfX, a_queueValue, a_queueDue, a_subStatus, a_subCode, a_subEnd, a_subDemand, a_subRequests, a_subDelivered, a_subWaiting, a_waitValue, a_history, a_taskWhat, a_taskPart, a_taskValue) u' i (ini 11 a b t) (begs 11 i xi yi a) R → post u') : wpX_beginPart post (f_time, f_sent, f_stageCount, f_tasks, a_sourceEnded, a_stageKind, a_stageA, a_stageB, a_stageParts, a_partStage, a_partUser, a_partX, a_partY, a_phase, a_beganAfter, a_due, a_count, a_held, a_heldY, a_hasHeld, a_hasHeldY, a_queueSize, a_queueIsOfX, a_queueValue, a_queueDue, a_subStatus, a_subCode, a_subEnd, a_subDemand, a_subRequests, a_subDelivered, a_subWaiting, a_waitValue, a_history, a_taskWhat, a_taskPart, a_taskValue) (nI i) := by
  obtain ⟨h27, ht, ht2, hps, hs, hk, ha, hb, ho⟩ := hx
  have hS0 := hS
  obtain ⟨a1, a2, a3, a4, a5, a6, a7, a8, a9, a10⟩ := hS
  have hcl : (nI i).toNatClampNeg = i := nI_clamp (by omega)
  have hcs : (nI s).toNatClampNeg = s := nI_clamp (by omega)
  have hin : vp_in (nI i) 27 := vp_in_nI h27 (by decide)
  have his : vp_in (nI s) 12 := vp_in_nI hs (by decide)
  have hps' : a_partStage (nI i).toNatClampNeg = nI s := by rw [hcl]; exact hps
  refine ⟨hin, nm_r (e' := nI s) hps' ⟨hin, nm_r (e' := upd a_phase i 1) (by rw [hcl]) ⟨hin, nm_r (e' := upd a_beganAfter i f_sent) (by rw [hcl]) ⟨his, nm_r (e' := nI 11) (by rw [hcs]; exact hk) (br_f (by decide) ?_)⟩⟩⟩⟩
  refine br_f (by decide) ?_
  iterate 11 (refine br_f (by decide) ?_)
  refine br_t rfl ?_
  have hX' : a_partX (nI i).toNatClampNeg = nI xi := by rw [hcl]; exact hX (by decide)
  refine ⟨hin, ?_⟩
  rw [hX']
  exact xw_push hT (by omega) (H _ (xe_effB rfl rfl hS0 (fun j hj S hS => hS) rfl (xd_rps_push (w := 0) hR)))
theorem xb_12 {post : SX → Prop} {i t s xi yi : Nat} {a b : Int32} {R : List Tk} (hx : HA f_time a_partStage a_stageKind a_stageA a_stageB i t s 12 a b) (hS : RepA a_due a_count a_held a_heldY a_hasHeld a_hasHeldY a_queueSize a_queueIsOfX a_queueValue a_queueDue i clr) (hT : f_tasks = nI R.length) (hR : rps a_taskWhat a_taskPart a_taskValue R) (hl : R.length + 2 ≤ 128) (hX : 3 ≤ 12 → a_partX i = nI xi) (hY : 16 ≤ 12 → a_partY i = nI yi) (H : ∀ u', EffB (f_time, f_sent, f_stageCount, f_tasks, a_sourceEnded, a_stageKind, a_stageA, a_stageB, a_stageParts, a_partStage, a_partUser, a_partX, a_partY, a_phase, a_beganAfter, a_due, a_count, a_held, a_heldY, a_hasHeld, a_hasHeldY, a_queueSize, a_queueIsOfX, a_queueValue, a_queueDue, a_subStatus, a_subCode, a_subEnd, a_subDemand, a_subRequests, a_subDelivered, a_subWaiting, a_waitValue, a_history, a_taskWhat, a_taskPart, a_taskValue) u' i (ini 12 a b t) (begs 12 i xi yi a) R → post u') : wpX_beginPart post (f_time, f_sent, f_stageCount, f_tasks, a_sourceEnded, a_stageKind, a_stageA, a_stageB, a_stageParts, a_partStage, a_partUser, a_partX, a_partY, a_phase, a_beganAfter, a_due, a_count, a_held, a_heldY, a_hasHeld, a_hasHeldY, a_queueSize, a_queueIsOfX, a_queueValue, a_queueDue, a_subStatus, a_subCode, a_subEnd, a_subDemand, a_subRequests, a_subDelivered, a_subWaiting, a_waitValue, a_history, a_taskWhat, a_taskPart, a_taskValue) (nI i) := by
  obtain ⟨h27, ht, ht2, hps, hs, hk, ha, hb, ho⟩ := hx
  have hS0 := hS
  obtain ⟨a1, a2, a3, a4, a5, a6, a7, a8, a9, a10⟩ := hS
  have hcl : (nI i).toNatClampNeg = i := nI_clamp (by omega)
  have hcs : (nI s).toNatClampNeg = s := nI_clamp (by omega)
  have hin : vp_in (nI i) 27 := vp_in_nI h27 (by decide)
  have his : vp_in (nI s) 12 := vp_in_nI hs (by decide)
  have hps' : a_partStage (nI i).toNatClampNeg = nI s := by rw [hcl]; exact hps
  refine ⟨hin, nm_r (e' := nI s) hps' ⟨hin, nm_r (e' := upd a_phase i 1) (by rw [hcl]) ⟨hin, nm_r (e' := upd a_beganAfter i f_sent) (by rw [hcl]) ⟨his, nm_r (e' := nI 12) (by rw [hcs]; exact hk) (br_f (by decide) ?_)⟩⟩⟩⟩
  refine br_f (by decide) ?_
  iterate 12 (refine br_f (by decide) ?_)
  refine br_t rfl ?_
  have hX' : a_partX (nI i).toNatClampNeg = nI xi := by rw [hcl]; exact hX (by decide)
  refine ⟨hin, ?_⟩
  rw [hX']
  exact xw_push hT (by omega) (H _ (xe_effB rfl rfl hS0 (fun j hj S hS => hS) rfl (xd_rps_push (w := 0) hR)))
theorem xb_13 {post : SX → Prop} {i t s xi yi : Nat} {a b : Int32} {R : List Tk} (hx : HA f_time a_partStage a_stageKind a_stageA a_stageB i t s 13 a b) (hS : RepA a_due a_count a_held a_heldY a_hasHeld a_hasHeldY a_queueSize a_queueIsOfX a_queueValue a_queueDue i clr) (hT : f_tasks = nI R.length) (hR : rps a_taskWhat a_taskPart a_taskValue R) (hl : R.length + 2 ≤ 128) (hX : 3 ≤ 13 → a_partX i = nI xi) (hY : 16 ≤ 13 → a_partY i = nI yi) (H : ∀ u', EffB (f_time, f_sent, f_stageCount, f_tasks, a_sourceEnded, a_stageKind, a_stageA, a_stageB, a_stageParts, a_partStage, a_partUser, a_partX, a_partY, a_phase, a_beganAfter, a_due, a_count, a_held, a_heldY, a_hasHeld, a_hasHeldY, a_queueSize, a_queueIsOfX, a_queueValue, a_queueDue, a_subStatus, a_subCode, a_subEnd, a_subDemand, a_subRequests, a_subDelivered, a_subWaiting, a_waitValue, a_history, a_taskWhat, a_taskPart, a_taskValue) u' i (ini 13 a b t) (begs 13 i xi yi a) R → post u') : wpX_beginPart post (f_time, f_sent, f_stageCount, f_tasks, a_sourceEnded, a_stageKind, a_stageA, a_stageB, a_stageParts, a_partStage, a_partUser, a_partX, a_partY, a_phase, a_beganAfter, a_due, a_count, a_held, a_heldY, a_hasHeld, a_hasHeldY, a_queueSize, a_queueIsOfX, a_queueValue, a_queueDue, a_subStatus, a_subCode, a_subEnd, a_subDemand, a_subRequests, a_subDelivered, a_subWaiting, a_waitValue, a_history, a_taskWhat, a_taskPart, a_taskValue) (nI i) := by
  obtain ⟨h27, ht, ht2, hps, hs, hk, ha, hb, ho⟩ := hx
  have hS0 := hS
  obtain ⟨a1, a2, a3, a4, a5, a6, a7, a8, a9, a10⟩ := hS
  have hcl : (nI i).toNatClampNeg = i := nI_clamp (by omega)
  have hcs : (nI s).toNatClampNeg = s := nI_clamp (by omega)
  have hin : vp_in (nI i) 27 := vp_in_nI h27 (by decide)
  have his : vp_in (nI s) 12 := vp_in_nI hs (by decide)
  have hps' : a_partStage (nI i).toNatClampNeg = nI s := by rw [hcl]; exact hps
  refine ⟨hin, nm_r (e' := nI s) hps' ⟨hin, nm_r (e' := upd a_phase i 1) (by rw [hcl]) ⟨hin, nm_r (e' := upd a_beganAfter i f_sent) (by rw [hcl]) ⟨his, nm_r (e' := nI 13) (by rw [hcs]; exact hk) (br_f (by decide) ?_)⟩⟩⟩⟩
  refine br_f (by decide) ?_
  iterate 13 (refine br_f (by decide) ?_)
  refine br_t rfl ?_
  have hX' : a_partX (nI i).toNatClampNeg = nI xi := by rw [hcl]; exact hX (by decide)
  refine ⟨hin, ?_⟩
  rw [hX']
  exact xw_push hT (by omega) (H _ (xe_effB rfl rfl hS0 (fun j hj S hS => hS) rfl (xd_rps_push (w := 0) hR)))
theorem xb_14 {post : SX → Prop} {i t s xi yi : Nat} {a b : Int32} {R : List Tk} (hx : HA f_time a_partStage a_stageKind a_stageA a_stageB i t s 14 a b) (hS : RepA a_due a_count a_held a_heldY a_hasHeld a_hasHeldY a_queueSize a_queueIsOfX a_queueValue a_queueDue i clr) (hT : f_tasks = nI R.length) (hR : rps a_taskWhat a_taskPart a_taskValue R) (hl : R.length + 2 ≤ 128) (hX : 3 ≤ 14 → a_partX i = nI xi) (hY : 16 ≤ 14 → a_partY i = nI yi) (H : ∀ u', EffB (f_time, f_sent, f_stageCount, f_tasks, a_sourceEnded, a_stageKind, a_stageA, a_stageB, a_stageParts, a_partStage, a_partUser, a_partX, a_partY, a_phase, a_beganAfter, a_due, a_count, a_held, a_heldY, a_hasHeld, a_hasHeldY, a_queueSize, a_queueIsOfX, a_queueValue, a_queueDue, a_subStatus, a_subCode, a_subEnd, a_subDemand, a_subRequests, a_subDelivered, a_subWaiting, a_waitValue, a_history, a_taskWhat, a_taskPart, a_taskValue) u' i (ini 14 a b t) (begs 14 i xi yi a) R → post u') : wpX_beginPart post (f_time, f_sent, f_stageCount, f_tasks, a_sourceEnded, a_stageKind, a_stageA, a_stageB, a_stageParts, a_partStage, a_partUser, a_partX, a_partY, a_phase, a_beganAfter, a_due, a_count, a_held, a_heldY, a_hasHeld, a_hasHeldY, a_queueSize, a_queueIsOfX, a_queueValue, a_queueDue, a_subStatus, a_subCode, a_subEnd, a_subDemand, a_subRequests, a_subDelivered, a_subWaiting, a_waitValue, a_history, a_taskWhat, a_taskPart, a_taskValue) (nI i) := by
  obtain ⟨h27, ht, ht2, hps, hs, hk, ha, hb, ho⟩ := hx
  have hS0 := hS
  obtain ⟨a1, a2, a3, a4, a5, a6, a7, a8, a9, a10⟩ := hS
  have hcl : (nI i).toNatClampNeg = i := nI_clamp (by omega)
  have hcs : (nI s).toNatClampNeg = s := nI_clamp (by omega)
  have hin : vp_in (nI i) 27 := vp_in_nI h27 (by decide)
  have his : vp_in (nI s) 12 := vp_in_nI hs (by decide)
  have hps' : a_partStage (nI i).toNatClampNeg = nI s := by rw [hcl]; exact hps
  refine ⟨hin, nm_r (e' := nI s) hps' ⟨hin, nm_r (e' := upd a_phase i 1) (by rw [hcl]) ⟨hin, nm_r (e' := upd a_beganAfter i f_sent) (by rw [hcl]) ⟨his, nm_r (e' := nI 14) (by rw [hcs]; exact hk) (br_f (by decide) ?_)⟩⟩⟩⟩
  refine br_f (by decide) ?_
  iterate 14 (refine br_f (by decide) ?_)
  refine br_t rfl ?_
  have hX' : a_partX (nI i).toNatClampNeg = nI xi := by rw [hcl]; exact hX (by decide)
  have ho1 := ho.2.2.2.2.2.2 (by decide) (by decide)
  have ht' : f_time = nI t := ht
  have ed : f_time + a_stageB (nI s).toNatClampNeg = dI (t + cl b) := by rw [ht', hcs, xd_dIp (by omega), ← nI_add, ← ho1.2.2]; exact congrArg _ hb
  refine ⟨his, hin, nm_r (e' := upd a_due i (dI (t + cl b))) (by rw [ed, hcl]) ⟨hin, ?_⟩⟩
  rw [hX']
  exact xw_push hT (by omega) (H _ (xe_effB rfl rfl ⟨pk_us, a2, a3, a4, a5, a6, a7, a8, a9, a10⟩ (fun j hj S hS => xd_frame hS (pk_un hj) rfl rfl rfl rfl rfl rfl rfl (fun r hr => ⟨rfl, rfl⟩)) rfl (xd_rps_push (w := 0) hR)))
theorem xb_15 {post : SX → Prop} {i t s xi yi : Nat} {a b : Int32} {R : List Tk} (hx : HA f_time a_partStage a_stageKind a_stageA a_stageB i t s 15 a b) (hS : RepA a_due a_count a_held a_heldY a_hasHeld a_hasHeldY a_queueSize a_queueIsOfX a_queueValue a_queueDue i clr) (hT : f_tasks = nI R.length) (hR : rps a_taskWhat a_taskPart a_taskValue R) (hl : R.length + 2 ≤ 128) (hX : 3 ≤ 15 → a_partX i = nI xi) (hY : 16 ≤ 15 → a_partY i = nI yi) (H : ∀ u', EffB (f_time, f_sent, f_stageCount, f_tasks, a_sourceEnded, a_stageKind, a_stageA, a_stageB, a_stageParts, a_partStage, a_partUser, a_partX, a_partY, a_phase, a_beganAfter, a_due, a_count, a_held, a_heldY, a_hasHeld, a_hasHeldY, a_queueSize, a_queueIsOfX, a_queueValue, a_queueDue, a_subStatus, a_subCode, a_subEnd, a_subDemand, a_subRequests, a_subDelivered, a_subWaiting, a_waitValue, a_history, a_taskWhat, a_taskPart, a_taskValue) u' i (ini 15 a b t) (begs 15 i xi yi a) R → post u') : wpX_beginPart post (f_time, f_sent, f_stageCount, f_tasks, a_sourceEnded, a_stageKind, a_stageA, a_stageB, a_stageParts, a_partStage, a_partUser, a_partX, a_partY, a_phase, a_beganAfter, a_due, a_count, a_held, a_heldY, a_hasHeld, a_hasHeldY, a_queueSize, a_queueIsOfX, a_queueValue, a_queueDue, a_subStatus, a_subCode, a_subEnd, a_subDemand, a_subRequests, a_subDelivered, a_subWaiting, a_waitValue, a_history, a_taskWhat, a_taskPart, a_taskValue) (nI i) := by
  obtain ⟨h27, ht, ht2, hps, hs, hk, ha, hb, ho⟩ := hx
  have hS0 := hS
  obtain ⟨a1, a2, a3, a4, a5, a6, a7, a8, a9, a10⟩ := hS
  have hcl : (nI i).toNatClampNeg = i := nI_clamp (by omega)
  have hcs : (nI s).toNatClampNeg = s := nI_clamp (by omega)
  have hin : vp_in (nI i) 27 := vp_in_nI h27 (by decide)
  have his : vp_in (nI s) 12 := vp_in_nI hs (by decide)
  have hps' : a_partStage (nI i).toNatClampNeg = nI s := by rw [hcl]; exact hps
  refine ⟨hin, nm_r (e' := nI s) hps' ⟨hin, nm_r (e' := upd a_phase i 1) (by rw [hcl]) ⟨hin, nm_r (e' := upd a_beganAfter i f_sent) (by rw [hcl]) ⟨his, nm_r (e' := nI 15) (by rw [hcs]; exact hk) (br_f (by decide) ?_)⟩⟩⟩⟩
  refine br_f (by decide) ?_
  iterate 15 (refine br_f (by decide) ?_)
  refine br_t rfl ?_
  have hX' : a_partX (nI i).toNatClampNeg = nI xi := by rw [hcl]; exact hX (by decide)
  have ho1 := ho.2.2.2.2.2.2 (by decide) (by decide)
  have ht' : f_time = nI t := ht
  have ed : f_time + a_stageB (nI s).toNatClampNeg = dI (t + cl b) := by rw [ht', hcs, xd_dIp (by omega), ← nI_add, ← ho1.2.2]; exact congrArg _ hb
  refine ⟨his, hin, nm_r (e' := upd a_due i (dI (t + cl b))) (by rw [ed, hcl]) ⟨hin, ?_⟩⟩
  rw [hX']
  exact xw_push hT (by omega) (H _ (xe_effB rfl rfl ⟨pk_us, a2, a3, a4, a5, a6, a7, a8, a9, a10⟩ (fun j hj S hS => xd_frame hS (pk_un hj) rfl rfl rfl rfl rfl rfl rfl (fun r hr => ⟨rfl, rfl⟩)) rfl (xd_rps_push (w := 0) hR)))
theorem xb_16 {post : SX → Prop} {i t s xi yi : Nat} {a b : Int32} {R : List Tk} (hx : HA f_time a_partStage a_stageKind a_stageA a_stageB i t s 16 a b) (hS : RepA a_due a_count a_held a_heldY a_hasHeld a_hasHeldY a_queueSize a_queueIsOfX a_queueValue a_queueDue i clr) (hT : f_tasks = nI R.length) (hR : rps a_taskWhat a_taskPart a_taskValue R) (hl : R.length + 2 ≤ 128) (hX : 3 ≤ 16 → a_partX i = nI xi) (hY : 16 ≤ 16 → a_partY i = nI yi) (H : ∀ u', EffB (f_time, f_sent, f_stageCount, f_tasks, a_sourceEnded, a_stageKind, a_stageA, a_stageB, a_stageParts, a_partStage, a_partUser, a_partX, a_partY, a_phase, a_beganAfter, a_due, a_count, a_held, a_heldY, a_hasHeld, a_hasHeldY, a_queueSize, a_queueIsOfX, a_queueValue, a_queueDue, a_subStatus, a_subCode, a_subEnd, a_subDemand, a_subRequests, a_subDelivered, a_subWaiting, a_waitValue, a_history, a_taskWhat, a_taskPart, a_taskValue) u' i (ini 16 a b t) (begs 16 i xi yi a) R → post u') : wpX_beginPart post (f_time, f_sent, f_stageCount, f_tasks, a_sourceEnded, a_stageKind, a_stageA, a_stageB, a_stageParts, a_partStage, a_partUser, a_partX, a_partY, a_phase, a_beganAfter, a_due, a_count, a_held, a_heldY, a_hasHeld, a_hasHeldY, a_queueSize, a_queueIsOfX, a_queueValue, a_queueDue, a_subStatus, a_subCode, a_subEnd, a_subDemand, a_subRequests, a_subDelivered, a_subWaiting, a_waitValue, a_history, a_taskWhat, a_taskPart, a_taskValue) (nI i) := by
  obtain ⟨h27, ht, ht2, hps, hs, hk, ha, hb, ho⟩ := hx
  have hS0 := hS
  obtain ⟨a1, a2, a3, a4, a5, a6, a7, a8, a9, a10⟩ := hS
  have hcl : (nI i).toNatClampNeg = i := nI_clamp (by omega)
  have hcs : (nI s).toNatClampNeg = s := nI_clamp (by omega)
  have hin : vp_in (nI i) 27 := vp_in_nI h27 (by decide)
  have his : vp_in (nI s) 12 := vp_in_nI hs (by decide)
  have hps' : a_partStage (nI i).toNatClampNeg = nI s := by rw [hcl]; exact hps
  refine ⟨hin, nm_r (e' := nI s) hps' ⟨hin, nm_r (e' := upd a_phase i 1) (by rw [hcl]) ⟨hin, nm_r (e' := upd a_beganAfter i f_sent) (by rw [hcl]) ⟨his, nm_r (e' := nI 16) (by rw [hcs]; exact hk) (br_f (by decide) ?_)⟩⟩⟩⟩
  refine br_f (by decide) ?_
  iterate 16 (refine br_f (by decide) ?_)
  refine br_t rfl ?_
  have hX' : a_partX (nI i).toNatClampNeg = nI xi := by rw [hcl]; exact hX (by decide)
  have hY' : a_partY (nI i).toNatClampNeg = nI yi := by rw [hcl]; exact hY (by decide)
  refine ⟨hin, ?_⟩
  rw [hY']
  refine xw_push hT (by omega) ⟨hin, ?_⟩
  rw [hX']
  exact xw_push rfl (by omega) (H _ (xe_effB rfl rfl hS0 (fun j hj S hS => hS) rfl (xd_rps_push (w := 0) (R := (0, yi, 0) :: R) (xd_rps_push (w := 0) hR))))
theorem xb_17 {post : SX → Prop} {i t s xi yi : Nat} {a b : Int32} {R : List Tk} (hx : HA f_time a_partStage a_stageKind a_stageA a_stageB i t s 17 a b) (hS : RepA a_due a_count a_held a_heldY a_hasHeld a_hasHeldY a_queueSize a_queueIsOfX a_queueValue a_queueDue i clr) (hT : f_tasks = nI R.length) (hR : rps a_taskWhat a_taskPart a_taskValue R) (hl : R.length + 2 ≤ 128) (hX : 3 ≤ 17 → a_partX i = nI xi) (hY : 16 ≤ 17 → a_partY i = nI yi) (H : ∀ u', EffB (f_time, f_sent, f_stageCount, f_tasks, a_sourceEnded, a_stageKind, a_stageA, a_stageB, a_stageParts, a_partStage, a_partUser, a_partX, a_partY, a_phase, a_beganAfter, a_due, a_count, a_held, a_heldY, a_hasHeld, a_hasHeldY, a_queueSize, a_queueIsOfX, a_queueValue, a_queueDue, a_subStatus, a_subCode, a_subEnd, a_subDemand, a_subRequests, a_subDelivered, a_subWaiting, a_waitValue, a_history, a_taskWhat, a_taskPart, a_taskValue) u' i (ini 17 a b t) (begs 17 i xi yi a) R → post u') : wpX_beginPart post (f_time, f_sent, f_stageCount, f_tasks, a_sourceEnded, a_stageKind, a_stageA, a_stageB, a_stageParts, a_partStage, a_partUser, a_partX, a_partY, a_phase, a_beganAfter, a_due, a_count, a_held, a_heldY, a_hasHeld, a_hasHeldY, a_queueSize, a_queueIsOfX, a_queueValue, a_queueDue, a_subStatus, a_subCode, a_subEnd, a_subDemand, a_subRequests, a_subDelivered, a_subWaiting, a_waitValue, a_history, a_taskWhat, a_taskPart, a_taskValue) (nI i) := by
  obtain ⟨h27, ht, ht2, hps, hs, hk, ha, hb, ho⟩ := hx
  have hS0 := hS
  obtain ⟨a1, a2, a3, a4, a5, a6, a7, a8, a9, a10⟩ := hS
  have hcl : (nI i).toNatClampNeg = i := nI_clamp (by omega)
  have hcs : (nI s).toNatClampNeg = s := nI_clamp (by omega)
  have hin : vp_in (nI i) 27 := vp_in_nI h27 (by decide)
  have his : vp_in (nI s) 12 := vp_in_nI hs (by decide)
  have hps' : a_partStage (nI i).toNatClampNeg = nI s := by rw [hcl]; exact hps
  refine ⟨hin, nm_r (e' := nI s) hps' ⟨hin, nm_r (e' := upd a_phase i 1) (by rw [hcl]) ⟨hin, nm_r (e' := upd a_beganAfter i f_sent) (by rw [hcl]) ⟨his, nm_r (e' := nI 17) (by rw [hcs]; exact hk) (br_f (by decide) ?_)⟩⟩⟩⟩
  refine br_f (by decide) ?_
  iterate 17 (refine br_f (by decide) ?_)
  refine br_t rfl ?_
  have hX' : a_partX (nI i).toNatClampNeg = nI xi := by rw [hcl]; exact hX (by decide)
  have hY' : a_partY (nI i).toNatClampNeg = nI yi := by rw [hcl]; exact hY (by decide)
  refine ⟨hin, ?_⟩
  rw [hY']
  refine xw_push hT (by omega) ⟨hin, ?_⟩
  rw [hX']
  exact xw_push rfl (by omega) (H _ (xe_effB rfl rfl hS0 (fun j hj S hS => hS) rfl (xd_rps_push (w := 0) (R := (0, yi, 0) :: R) (xd_rps_push (w := 0) hR))))
theorem xb_18 {post : SX → Prop} {i t s xi yi : Nat} {a b : Int32} {R : List Tk} (hx : HA f_time a_partStage a_stageKind a_stageA a_stageB i t s 18 a b) (hS : RepA a_due a_count a_held a_heldY a_hasHeld a_hasHeldY a_queueSize a_queueIsOfX a_queueValue a_queueDue i clr) (hT : f_tasks = nI R.length) (hR : rps a_taskWhat a_taskPart a_taskValue R) (hl : R.length + 2 ≤ 128) (hX : 3 ≤ 18 → a_partX i = nI xi) (hY : 16 ≤ 18 → a_partY i = nI yi) (H : ∀ u', EffB (f_time, f_sent, f_stageCount, f_tasks, a_sourceEnded, a_stageKind, a_stageA, a_stageB, a_stageParts, a_partStage, a_partUser, a_partX, a_partY, a_phase, a_beganAfter, a_due, a_count, a_held, a_heldY, a_hasHeld, a_hasHeldY, a_queueSize, a_queueIsOfX, a_queueValue, a_queueDue, a_subStatus, a_subCode, a_subEnd, a_subDemand, a_subRequests, a_subDelivered, a_subWaiting, a_waitValue, a_history, a_taskWhat, a_taskPart, a_taskValue) u' i (ini 18 a b t) (begs 18 i xi yi a) R → post u') : wpX_beginPart post (f_time, f_sent, f_stageCount, f_tasks, a_sourceEnded, a_stageKind, a_stageA, a_stageB, a_stageParts, a_partStage, a_partUser, a_partX, a_partY, a_phase, a_beganAfter, a_due, a_count, a_held, a_heldY, a_hasHeld, a_hasHeldY, a_queueSize, a_queueIsOfX, a_queueValue, a_queueDue, a_subStatus, a_subCode, a_subEnd, a_subDemand, a_subRequests, a_subDelivered, a_subWaiting, a_waitValue, a_history, a_taskWhat, a_taskPart, a_taskValue) (nI i) := by
  obtain ⟨h27, ht, ht2, hps, hs, hk, ha, hb, ho⟩ := hx
  have hS0 := hS
  obtain ⟨a1, a2, a3, a4, a5, a6, a7, a8, a9, a10⟩ := hS
  have hcl : (nI i).toNatClampNeg = i := nI_clamp (by omega)
  have hcs : (nI s).toNatClampNeg = s := nI_clamp (by omega)
  have hin : vp_in (nI i) 27 := vp_in_nI h27 (by decide)
  have his : vp_in (nI s) 12 := vp_in_nI hs (by decide)
  have hps' : a_partStage (nI i).toNatClampNeg = nI s := by rw [hcl]; exact hps
  refine ⟨hin, nm_r (e' := nI s) hps' ⟨hin, nm_r (e' := upd a_phase i 1) (by rw [hcl]) ⟨hin, nm_r (e' := upd a_beganAfter i f_sent) (by rw [hcl]) ⟨his, nm_r (e' := nI 18) (by rw [hcs]; exact hk) (br_f (by decide) ?_)⟩⟩⟩⟩
  refine br_f (by decide) ?_
  iterate 18 (refine br_f (by decide) ?_)
  refine br_t rfl ?_
  have hX' : a_partX (nI i).toNatClampNeg = nI xi := by rw [hcl]; exact hX (by decide)
  have hY' : a_partY (nI i).toNatClampNeg = nI yi := by rw [hcl]; exact hY (by decide)
  refine ⟨hin, ?_⟩
  rw [hY']
  refine xw_push hT (by omega) ⟨hin, ?_⟩
  rw [hX']
  exact xw_push rfl (by omega) (H _ (xe_effB rfl rfl hS0 (fun j hj S hS => hS) rfl (xd_rps_push (w := 0) (R := (0, yi, 0) :: R) (xd_rps_push (w := 0) hR))))
theorem xb_19 {post : SX → Prop} {i t s xi yi : Nat} {a b : Int32} {R : List Tk} (hx : HA f_time a_partStage a_stageKind a_stageA a_stageB i t s 19 a b) (hS : RepA a_due a_count a_held a_heldY a_hasHeld a_hasHeldY a_queueSize a_queueIsOfX a_queueValue a_queueDue i clr) (hT : f_tasks = nI R.length) (hR : rps a_taskWhat a_taskPart a_taskValue R) (hl : R.length + 2 ≤ 128) (hX : 3 ≤ 19 → a_partX i = nI xi) (hY : 16 ≤ 19 → a_partY i = nI yi) (H : ∀ u', EffB (f_time, f_sent, f_stageCount, f_tasks, a_sourceEnded, a_stageKind, a_stageA, a_stageB, a_stageParts, a_partStage, a_partUser, a_partX, a_partY, a_phase, a_beganAfter, a_due, a_count, a_held, a_heldY, a_hasHeld, a_hasHeldY, a_queueSize, a_queueIsOfX, a_queueValue, a_queueDue, a_subStatus, a_subCode, a_subEnd, a_subDemand, a_subRequests, a_subDelivered, a_subWaiting, a_waitValue, a_history, a_taskWhat, a_taskPart, a_taskValue) u' i (ini 19 a b t) (begs 19 i xi yi a) R → post u') : wpX_beginPart post (f_time, f_sent, f_stageCount, f_tasks, a_sourceEnded, a_stageKind, a_stageA, a_stageB, a_stageParts, a_partStage, a_partUser, a_partX, a_partY, a_phase, a_beganAfter, a_due, a_count, a_held, a_heldY, a_hasHeld, a_hasHeldY, a_queueSize, a_queueIsOfX, a_queueValue, a_queueDue, a_subStatus, a_subCode, a_subEnd, a_subDemand, a_subRequests, a_subDelivered, a_subWaiting, a_waitValue, a_history, a_taskWhat, a_taskPart, a_taskValue) (nI i) := by
  obtain ⟨h27, ht, ht2, hps, hs, hk, ha, hb, ho⟩ := hx
  have hS0 := hS
  obtain ⟨a1, a2, a3, a4, a5, a6, a7, a8, a9, a10⟩ := hS
  have hcl : (nI i).toNatClampNeg = i := nI_clamp (by omega)
  have hcs : (nI s).toNatClampNeg = s := nI_clamp (by omega)
  have hin : vp_in (nI i) 27 := vp_in_nI h27 (by decide)
  have his : vp_in (nI s) 12 := vp_in_nI hs (by decide)
  have hps' : a_partStage (nI i).toNatClampNeg = nI s := by rw [hcl]; exact hps
  refine ⟨hin, nm_r (e' := nI s) hps' ⟨hin, nm_r (e' := upd a_phase i 1) (by rw [hcl]) ⟨hin, nm_r (e' := upd a_beganAfter i f_sent) (by rw [hcl]) ⟨his, nm_r (e' := nI 19) (by rw [hcs]; exact hk) (br_f (by decide) ?_)⟩⟩⟩⟩
  refine br_t (by decide) ?_
  have hX' : a_partX (nI i).toNatClampNeg = nI xi := by rw [hcl]; exact hX (by decide)
  refine ⟨hin, ?_⟩
  rw [hX']
  exact xw_push hT (by omega) (H _ (xe_effB rfl rfl hS0 (fun j hj S hS => hS) rfl (xd_rps_push (w := 0) hR)))
theorem xb_20 {post : SX → Prop} {i t s xi yi : Nat} {a b : Int32} {R : List Tk} (hx : HA f_time a_partStage a_stageKind a_stageA a_stageB i t s 20 a b) (hS : RepA a_due a_count a_held a_heldY a_hasHeld a_hasHeldY a_queueSize a_queueIsOfX a_queueValue a_queueDue i clr) (hT : f_tasks = nI R.length) (hR : rps a_taskWhat a_taskPart a_taskValue R) (hl : R.length + 2 ≤ 128) (hX : 3 ≤ 20 → a_partX i = nI xi) (hY : 16 ≤ 20 → a_partY i = nI yi) (H : ∀ u', EffB (f_time, f_sent, f_stageCount, f_tasks, a_sourceEnded, a_stageKind, a_stageA, a_stageB, a_stageParts, a_partStage, a_partUser, a_partX, a_partY, a_phase, a_beganAfter, a_due, a_count, a_held, a_heldY, a_hasHeld, a_hasHeldY, a_queueSize, a_queueIsOfX, a_queueValue, a_queueDue, a_subStatus, a_subCode, a_subEnd, a_subDemand, a_subRequests, a_subDelivered, a_subWaiting, a_waitValue, a_history, a_taskWhat, a_taskPart, a_taskValue) u' i (ini 20 a b t) (begs 20 i xi yi a) R → post u') : wpX_beginPart post (f_time, f_sent, f_stageCount, f_tasks, a_sourceEnded, a_stageKind, a_stageA, a_stageB, a_stageParts, a_partStage, a_partUser, a_partX, a_partY, a_phase, a_beganAfter, a_due, a_count, a_held, a_heldY, a_hasHeld, a_hasHeldY, a_queueSize, a_queueIsOfX, a_queueValue, a_queueDue, a_subStatus, a_subCode, a_subEnd, a_subDemand, a_subRequests, a_subDelivered, a_subWaiting, a_waitValue, a_history, a_taskWhat, a_taskPart, a_taskValue) (nI i) := by
  obtain ⟨h27, ht, ht2, hps, hs, hk, ha, hb, ho⟩ := hx
  have hS0 := hS
  obtain ⟨a1, a2, a3, a4, a5, a6, a7, a8, a9, a10⟩ := hS
  have hcl : (nI i).toNatClampNeg = i := nI_clamp (by omega)
  have hcs : (nI s).toNatClampNeg = s := nI_clamp (by omega)
  have hin : vp_in (nI i) 27 := vp_in_nI h27 (by decide)
  have his : vp_in (nI s) 12 := vp_in_nI hs (by decide)
  have hps' : a_partStage (nI i).toNatClampNeg = nI s := by rw [hcl]; exact hps
  refine ⟨hin, nm_r (e' := nI s) hps' ⟨hin, nm_r (e' := upd a_phase i 1) (by rw [hcl]) ⟨hin, nm_r (e' := upd a_beganAfter i f_sent) (by rw [hcl]) ⟨his, nm_r (e' := nI 20) (by rw [hcs]; exact hk) (br_f (by decide) ?_)⟩⟩⟩⟩
  refine br_t (by decide) ?_
  have hX' : a_partX (nI i).toNatClampNeg = nI xi := by rw [hcl]; exact hX (by decide)
  refine ⟨hin, ?_⟩
  rw [hX']
  exact xw_push hT (by omega) (H _ (xe_effB rfl rfl hS0 (fun j hj S hS => hS) rfl (xd_rps_push (w := 0) hR)))
end
