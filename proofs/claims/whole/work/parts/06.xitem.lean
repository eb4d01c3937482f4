/-! ===== hearItem, kind by kind ===== -/
section
variable {f_time : Int32} {f_sent : Int32} {f_stageCount : Int32} {f_tasks : Int32} {a_sourceEnded : (Nat → Int32)} {a_stageKind : (Nat → Int32)} {a_stageA : (Nat → Int32)} {a_stageB : (Nat → Int32)} {a_stageParts : (Nat → Int32)} {a_partStage : (Nat → Int32)} {a_partUser : (Nat → Int32)} {a_partX : (Nat → Int32)} {a_partY : (Nat → Int32)} {a_phase : (Nat → Int32)} {a_beganAfter : (Nat → Int32)} {a_due : (Nat → Int32)} {a_count : (Nat → Int32)} {a_held : (Nat → Int32)} {a_heldY : (Nat → Int32)} {a_hasHeld : (Nat → Int32)} {a_hasHeldY : (Nat → Int32)} {a_queueSize : (Nat → Int32)} {a_queueIsOfX : (Nat → Int32)} {a_queueValue : (Nat → Int32)} {a_queueDue : (Nat → Int32)} {a_subStatus : (Nat → Int32)} {a_subCode : (Nat → Int32)} {a_subEnd : (Nat → Int32)} {a_subDemand : (Nat → Int64)} {a_subRequests : (Nat → Int32)} {a_subDelivered : (Nat → Int32)} {a_subWaiting : (Nat → Int32)} {a_waitValue : (Nat → Int32)} {a_history : (Nat → Int64)} {a_taskWhat : (Nat → Int32)} {a_taskPart : (Nat → Int32)} {a_taskValue : (Nat → Int32)}
theorem xh_i3 {post : SX → Prop} {i t s d c : Nat} {a b v h hy : Int32} {f fy qx ox oy : Bool} {q : List (Int32 × Nat)} {R : List Tk} (hx : HA f_time a_partStage a_stageKind a_stageA a_stageB i t s 3 a b) (hS : RepA a_due a_count a_held a_heldY a_hasHeld a_hasHeldY a_queueSize a_queueIsOfX a_queueValue a_queueDue i (d, c, h, hy, f, fy, qx, q, ox, oy)) (ok : okS 3 b (d, c, h, hy, f, fy, qx, q, ox, oy)) (hT : f_tasks = nI R.length) (hR : rps a_taskWhat a_taskPart a_taskValue R) (hl : R.length + 2 ≤ 128) (H : ∀ u', Eff (f_time, f_sent, f_stageCount, f_tasks, a_sourceEnded, a_stageKind, a_stageA, a_stageB, a_stageParts, a_partStage, a_partUser, a_partX, a_partY, a_phase, a_beganAfter, a_due, a_count, a_held, a_heldY, a_hasHeld, a_hasHeldY, a_queueSize, a_queueIsOfX, a_queueValue, a_queueDue, a_subStatus, a_subCode, a_subEnd, a_subDemand, a_subRequests, a_subDelivered, a_subWaiting, a_waitValue, a_history, a_taskWhat, a_taskPart, a_taskValue) u' i (hi 3 b t true v (d, c, h, hy, f, fy, qx, q, ox, oy)).1 (hi 3 b t true v (d, c, h, hy, f, fy, qx, q, ox, oy)).2 R → post u') : wpX_hearItem post (f_time, f_sent, f_stageCount, f_tasks, a_sourceEnded, a_stageKind, a_stageA, a_stageB, a_stageParts, a_partStage, a_partUser, a_partX, a_partY, a_phase, a_beganAfter, a_due, a_count, a_held, a_heldY, a_hasHeld, a_hasHeldY, a_queueSize, a_queueIsOfX, a_queueValue, a_queueDue, a_subStatus, a_subCode, a_subEnd, a_subDemand, a_subRequests, a_subDelivered, a_subWaiting, a_waitValue, a_history, a_taskWhat, a_taskPart, a_taskValue) (nI i) v := by
  obtain ⟨h27, ht, ht2, hps, hs, hk, ha, hb, ho⟩ := hx
  have hS0 := hS
  obtain ⟨a1, a2, a3, a4, a5, a6, a7, a8, a9, a10⟩ := hS
  have hc : (nI i).toNatClampNeg = i := nI_clamp (by omega)
  have hcs : (nI s).toNatClampNeg = s := nI_clamp (by omega)
  have hin : vp_in (nI i) 27 := vp_in_nI h27 (by decide)
  have hps' : a_partStage (nI i).toNatClampNeg = nI s := by rw [hc]; exact hps
  have e1 : vp_in (a_partStage (nI i).toNatClampNeg) 12 := by rw [hps']; exact vp_in_nI hs (by decide)
  have a2' : a_count (nI i).toNatClampNeg = nI c := by rw [hc]; exact a2
  have a3' : a_held (nI i).toNatClampNeg = h := by rw [hc]; exact a3
  have a5' : a_hasHeld (nI i).toNatClampNeg = bI f := by rw [hc]; exact a5
  refine ⟨hin, e1, nm_r (e' := b) (by rw [hps', hcs]; exact hb) ⟨hin, e1, nm_r (e' := nI 3) (by rw [hps', hcs]; exact hk) (br_f (by decide) (br_f (by decide) ?_))⟩⟩
  refine br_t rfl ?_
  exact xw_push hT (by omega) (H _ (xe_eff hS0 (fun j hj S hS => hS) rfl (xd_rps_push hR)))
theorem xh_i4 {post : SX → Prop} {i t s d c : Nat} {a b v h hy : Int32} {f fy qx ox oy : Bool} {q : List (Int32 × Nat)} {R : List Tk} (hx : HA f_time a_partStage a_stageKind a_stageA a_stageB i t s 4 a b) (hS : RepA a_due a_count a_held a_heldY a_hasHeld a_hasHeldY a_queueSize a_queueIsOfX a_queueValue a_queueDue i (d, c, h, hy, f, fy, qx, q, ox, oy)) (ok : okS 4 b (d, c, h, hy, f, fy, qx, q, ox, oy)) (hT : f_tasks = nI R.length) (hR : rps a_taskWhat a_taskPart a_taskValue R) (hl : R.length + 2 ≤ 128) (H : ∀ u', Eff (f_time, f_sent, f_stageCount, f_tasks, a_sourceEnded, a_stageKind, a_stageA, a_stageB, a_stageParts, a_partStage, a_partUser, a_partX, a_partY, a_phase, a_beganAfter, a_due, a_count, a_held, a_heldY, a_hasHeld, a_hasHeldY, a_queueSize, a_queueIsOfX, a_queueValue, a_queueDue, a_subStatus, a_subCode, a_subEnd, a_subDemand, a_subRequests, a_subDelivered, a_subWaiting, a_waitValue, a_history, a_taskWhat, a_taskPart, a_taskValue) u' i (hi 4 b t true v (d, c, h, hy, f, fy, qx, q, ox, oy)).1 (hi 4 b t true v (d, c, h, hy, f, fy, qx, q, ox, oy)).2 R → post u') : wpX_hearItem post (f_time, f_sent, f_stageCount, f_tasks, a_sourceEnded, a_stageKind, a_stageA, a_stageB, a_stageParts, a_partStage, a_partUser, a_partX, a_partY, a_phase, a_beganAfter, a_due, a_count, a_held, a_heldY, a_hasHeld, a_hasHeldY, a_queueSize, a_queueIsOfX, a_queueValue, a_queueDue, a_subStatus, a_subCode, a_subEnd, a_subDemand, a_subRequests, a_subDelivered, a_subWaiting, a_waitValue, a_history, a_taskWhat, a_taskPart, a_taskValue) (nI i) v := by
  obtain ⟨h27, ht, ht2, hps, hs, hk, ha, hb, ho⟩ := hx
  have hS0 := hS
  obtain ⟨a1, a2, a3, a4, a5, a6, a7, a8, a9, a10⟩ := hS
  have hc : (nI i).toNatClampNeg = i := nI_clamp (by omega)
  have hcs : (nI s).toNatClampNeg = s := nI_clamp (by omega)
  have hin : vp_in (nI i) 27 := vp_in_nI h27 (by decide)
  have hps' : a_partStage (nI i).toNatClampNeg = nI s := by rw [hc]; exact hps
  have e1 : vp_in (a_partStage (nI i).toNatClampNeg) 12 := by rw [hps']; exact vp_in_nI hs (by decide)
  have a2' : a_count (nI i).toNatClampNeg = nI c := by rw [hc]; exact a2
  have a3' : a_held (nI i).toNatClampNeg = h := by rw [hc]; exact a3
  have a5' : a_hasHeld (nI i).toNatClampNeg = bI f := by rw [hc]; exact a5
  refine ⟨hin, e1, nm_r (e' := b) (by rw [hps', hcs]; exact hb) ⟨hin, e1, nm_r (e' := nI 4) (by rw [hps', hcs]; exact hk) (br_f (by decide) (br_f (by decide) ?_))⟩⟩
  iterate 1 (refine br_f (by decide) ?_)
  refine br_t rfl ?_
  by_cases hv : v ≤ b
  · have eh : hi 4 b t true v (d, c, h, hy, f, fy, qx, q, ox, oy) = ((d, c, h, hy, f, fy, qx, q, ox, oy), []) := by simp [hi, hv]
    rw [eh] at H
    exact br_t hv (H _ (xe_eff hS0 (fun j hj S hS => hS) hT hR))
  · have eh : hi 4 b t true v (d, c, h, hy, f, fy, qx, q, ox, oy) = ((d, c, h, hy, f, fy, qx, q, ox, oy), [(1, v)]) := by simp only [hi, if_neg hv]
    rw [eh] at H
    exact br_f hv (xw_push hT (by omega) (H _ (xe_eff hS0 (fun j hj S hS => hS) rfl (xd_rps_push hR))))
theorem xh_i5 {post : SX → Prop} {i t s d c : Nat} {a b v h hy : Int32} {f fy qx ox oy : Bool} {q : List (Int32 × Nat)} {R : List Tk} (hx : HA f_time a_partStage a_stageKind a_stageA a_stageB i t s 5 a b) (hS : RepA a_due a_count a_held a_heldY a_hasHeld a_hasHeldY a_queueSize a_queueIsOfX a_queueValue a_queueDue i (d, c, h, hy, f, fy, qx, q, ox, oy)) (ok : okS 5 b (d, c, h, hy, f, fy, qx, q, ox, oy)) (hT : f_tasks = nI R.length) (hR : rps a_taskWhat a_taskPart a_taskValue R) (hl : R.length + 2 ≤ 128) (H : ∀ u', Eff (f_time, f_sent, f_stageCount, f_tasks, a_sourceEnded, a_stageKind, a_stageA, a_stageB, a_stageParts, a_partStage, a_partUser, a_partX, a_partY, a_phase, a_beganAfter, a_due, a_count, a_held, a_heldY, a_hasHeld, a_hasHeldY, a_queueSize, a_queueIsOfX, a_queueValue, a_queueDue, a_subStatus, a_subCode, a_subEnd, a_subDemand, a_subRequests, a_subDelivered, a_subWaiting, a_waitValue, a_history, a_taskWhat, a_taskPart, a_taskValue) u' i (hi 5 b t true v (d, c, h, hy, f, fy, qx, q, ox, oy)).1 (hi 5 b t true v (d, c, h, hy, f, fy, qx, q, ox, oy)).2 R → post u') : wpX_hearItem post (f_time, f_sent, f_stageCount, f_tasks, a_sourceEnded, a_stageKind, a_stageA, a_stageB, a_stageParts, a_partStage, a_partUser, a_partX, a_partY, a_phase, a_beganAfter, a_due, a_count, a_held, a_heldY, a_hasHeld, a_hasHeldY, a_queueSize, a_queueIsOfX, a_queueValue, a_queueDue, a_subStatus, a_subCode, a_subEnd, a_subDemand, a_subRequests, a_subDelivered, a_subWaiting, a_waitValue, a_history, a_taskWhat, a_taskPart, a_taskValue) (nI i) v := by
  obtain ⟨h27, ht, ht2, hps, hs, hk, ha, hb, ho⟩ := hx
  have hS0 := hS
  obtain ⟨a1, a2, a3, a4, a5, a6, a7, a8, a9, a10⟩ := hS
  have hc : (nI i).toNatClampNeg = i := nI_clamp (by omega)
  have hcs : (nI s).toNatClampNeg = s := nI_clamp (by omega)
  have hin : vp_in (nI i) 27 := vp_in_nI h27 (by decide)
  have hps' : a_partStage (nI i).toNatClampNeg = nI s := by rw [hc]; exact hps
  have e1 : vp_in (a_partStage (nI i).toNatClampNeg) 12 := by rw [hps']; exact vp_in_nI hs (by decide)
  have a2' : a_count (nI i).toNatClampNeg = nI c := by rw [hc]; exact a2
  have a3' : a_held (nI i).toNatClampNeg = h := by rw [hc]; exact a3
  have a5' : a_hasHeld (nI i).toNatClampNeg = bI f := by rw [hc]; exact a5
  refine ⟨hin, e1, nm_r (e' := b) (by rw [hps', hcs]; exact hb) ⟨hin, e1, nm_r (e' := nI 5) (by rw [hps', hcs]; exact hk) (br_f (by decide) (br_f (by decide) ?_))⟩⟩
  iterate 2 (refine br_f (by decide) ?_)
  refine br_t rfl ?_
  refine ⟨hin, hin, nm_r (e' := upd a_held i (h + v)) (by rw [a3', hc]) ⟨hin, ?_⟩⟩
  rw [show upd a_held i (h + v) (nI i).toNatClampNeg = h + v from by rw [hc]; exact pk_us]
  exact xw_push hT (by omega) (H _ (xe_eff ⟨a1, a2, pk_us, a4, a5, a6, a7, a8, a9, a10⟩ (fun j hj S hS => xd_frame hS rfl rfl (pk_un hj) rfl rfl rfl rfl rfl (fun r hr => ⟨rfl, rfl⟩)) rfl (xd_rps_push hR)))
theorem xh_i6 {post : SX → Prop} {i t s d c : Nat} {a b v h hy : Int32} {f fy qx ox oy : Bool} {q : List (Int32 × Nat)} {R : List Tk} (hx : HA f_time a_partStage a_stageKind a_stageA a_stageB i t s 6 a b) (hS : RepA a_due a_count a_held a_heldY a_hasHeld a_hasHeldY a_queueSize a_queueIsOfX a_queueValue a_queueDue i (d, c, h, hy, f, fy, qx, q, ox, oy)) (ok : okS 6 b (d, c, h, hy, f, fy, qx, q, ox, oy)) (hT : f_tasks = nI R.length) (hR : rps a_taskWhat a_taskPart a_taskValue R) (hl : R.length + 2 ≤ 128) (H : ∀ u', Eff (f_time, f_sent, f_stageCount, f_tasks, a_sourceEnded, a_stageKind, a_stageA, a_stageB, a_stageParts, a_partStage, a_partUser, a_partX, a_partY, a_phase, a_beganAfter, a_due, a_count, a_held, a_heldY, a_hasHeld, a_hasHeldY, a_queueSize, a_queueIsOfX, a_queueValue, a_queueDue, a_subStatus, a_subCode, a_subEnd, a_subDemand, a_subRequests, a_subDelivered, a_subWaiting, a_waitValue, a_history, a_taskWhat, a_taskPart, a_taskValue) u' i (hi 6 b t true v (d, c, h, hy, f, fy, qx, q, ox, oy)).1 (hi 6 b t true v (d, c, h, hy, f, fy, qx, q, ox, oy)).2 R → post u') : wpX_hearItem post (f_time, f_sent, f_stageCount, f_tasks, a_sourceEnded, a_stageKind, a_stageA, a_stageB, a_stageParts, a_partStage, a_partUser, a_partX, a_partY, a_phase, a_beganAfter, a_due, a_count, a_held, a_heldY, a_hasHeld, a_hasHeldY, a_queueSize, a_queueIsOfX, a_queueValue, a_queueDue, a_subStatus, a_subCode, a_subEnd, a_subDemand, a_subRequests, a_subDelivered, a_subWaiting, a_waitValue, a_history, a_taskWhat, a_taskPart, a_taskValue) (nI i) v := by
  obtain ⟨h27, ht, ht2, hps, hs, hk, ha, hb, ho⟩ := hx
  have hS0 := hS
  obtain ⟨a1, a2, a3, a4, a5, a6, a7, a8, a9, a10⟩ := hS
  have hc : (nI i).toNatClampNeg = i := nI_clamp (by omega)
  have hcs : (nI s).toNatClampNeg = s := nI_clamp (by omega)
  have hin : vp_in (nI i) 27 := vp_in_nI h27 (by decide)
  have hps' : a_partStage (nI i).toNatClampNeg = nI s := by rw [hc]; exact hps
  have e1 : vp_in (a_partStage (nI i).toNatClampNeg) 12 := by rw [hps']; exact vp_in_nI hs (by decide)
  have a2' : a_count (nI i).toNatClampNeg = nI c := by rw [hc]; exact a2
  have a3' : a_held (nI i).toNatClampNeg = h := by rw [hc]; exact a3
  have a5' : a_hasHeld (nI i).toNatClampNeg = bI f := by rw [hc]; exact a5
  refine ⟨hin, e1, nm_r (e' := b) (by rw [hps', hcs]; exact hb) ⟨hin, e1, nm_r (e' := nI 6) (by rw [hps', hcs]; exact hk) (br_f (by decide) (br_f (by decide) ?_))⟩⟩
  iterate 3 (refine br_f (by decide) ?_)
  refine br_t rfl ?_
  have hb6 := ho.2.2.2.1 rfl
  have okc : c < cl b := ok.2.1 (Or.inl rfl)
  refine ⟨hin, hin, nm_r (e' := upd a_count i (nI (c + 1))) (by rw [a2', nI_1, hc]) ⟨hin, ?_⟩⟩
  have eu : upd a_count i (nI (c + 1)) (nI i).toNatClampNeg = nI (c + 1) := by rw [hc]; exact pk_us
  by_cases hv : c + 1 < cl b
  · have eh : hi 6 b t true v (d, c, h, hy, f, fy, qx, q, ox, oy) = ((d, c + 1, h, hy, f, fy, qx, q, ox, oy), [(1, v)]) := by simp only [hi, if_pos hv]
    rw [eh] at H
    refine br_t (by rw [eu, hb6.2.2]; exact nI_lt hv (by omega)) ?_
    exact xw_push hT (by omega) (H _ (xe_eff ⟨a1, pk_us, a3, a4, a5, a6, a7, a8, a9, a10⟩ (fun j hj S hS => xd_frame hS rfl (pk_un hj) rfl rfl rfl rfl rfl rfl (fun r hr => ⟨rfl, rfl⟩)) rfl (xd_rps_push hR)))
  · have eh : hi 6 b t true v (d, c, h, hy, f, fy, qx, q, ox, oy) = ((d, c + 1, h, hy, f, fy, qx, q, ox, oy), [(1, v), (2, 0)]) := by simp only [hi, if_neg hv]
    rw [eh] at H
    refine br_f (by rw [eu, hb6.2.2]; exact nI_nlt (by omega) (by omega)) ?_
    refine xw_push hT (by omega) ?_
    exact xw_push rfl (by omega) (H _ (xe_eff ⟨a1, pk_us, a3, a4, a5, a6, a7, a8, a9, a10⟩ (fun j hj S hS => xd_frame hS rfl (pk_un hj) rfl rfl rfl rfl rfl rfl (fun r hr => ⟨rfl, rfl⟩)) rfl (xd_rps_push (R := (2, i, 0) :: R) (xd_rps_push hR))))
theorem xh_i7 {post : SX → Prop} {i t s d c : Nat} {a b v h hy : Int32} {f fy qx ox oy : Bool} {q : List (Int32 × Nat)} {R : List Tk} (hx : HA f_time a_partStage a_stageKind a_stageA a_stageB i t s 7 a b) (hS : RepA a_due a_count a_held a_heldY a_hasHeld a_hasHeldY a_queueSize a_queueIsOfX a_queueValue a_queueDue i (d, c, h, hy, f, fy, qx, q, ox, oy)) (ok : okS 7 b (d, c, h, hy, f, fy, qx, q, ox, oy)) (hT : f_tasks = nI R.length) (hR : rps a_taskWhat a_taskPart a_taskValue R) (hl : R.length + 2 ≤ 128) (H : ∀ u', Eff (f_time, f_sent, f_stageCount, f_tasks, a_sourceEnded, a_stageKind, a_stageA, a_stageB, a_stageParts, a_partStage, a_partUser, a_partX, a_partY, a_phase, a_beganAfter, a_due, a_count, a_held, a_heldY, a_hasHeld, a_hasHeldY, a_queueSize, a_queueIsOfX, a_queueValue, a_queueDue, a_subStatus, a_subCode, a_subEnd, a_subDemand, a_subRequests, a_subDelivered, a_subWaiting, a_waitValue, a_history, a_taskWhat, a_taskPart, a_taskValue) u' i (hi 7 b t true v (d, c, h, hy, f, fy, qx, q, ox, oy)).1 (hi 7 b t true v (d, c, h, hy, f, fy, qx, q, ox, oy)).2 R → post u') : wpX_hearItem post (f_time, f_sent, f_stageCount, f_tasks, a_sourceEnded, a_stageKind, a_stageA, a_stageB, a_stageParts, a_partStage, a_partUser, a_partX, a_partY, a_phase, a_beganAfter, a_due, a_count, a_held, a_heldY, a_hasHeld, a_hasHeldY, a_queueSize, a_queueIsOfX, a_queueValue, a_queueDue, a_subStatus, a_subCode, a_subEnd, a_subDemand, a_subRequests, a_subDelivered, a_subWaiting, a_waitValue, a_history, a_taskWhat, a_taskPart, a_taskValue) (nI i) v := by
  obtain ⟨h27, ht, ht2, hps, hs, hk, ha, hb, ho⟩ := hx
  have hS0 := hS
  obtain ⟨a1, a2, a3, a4, a5, a6, a7, a8, a9, a10⟩ := hS
  have hc : (nI i).toNatClampNeg = i := nI_clamp (by omega)
  have hcs : (nI s).toNatClampNeg = s := nI_clamp (by omega)
  have hin : vp_in (nI i) 27 := vp_in_nI h27 (by decide)
  have hps' : a_partStage (nI i).toNatClampNeg = nI s := by rw [hc]; exact hps
  have e1 : vp_in (a_partStage (nI i).toNatClampNeg) 12 := by rw [hps']; exact vp_in_nI hs (by decide)
  have a2' : a_count (nI i).toNatClampNeg = nI c := by rw [hc]; exact a2
  have a3' : a_held (nI i).toNatClampNeg = h := by rw [hc]; exact a3
  have a5' : a_hasHeld (nI i).toNatClampNeg = bI f := by rw [hc]; exact a5
  refine ⟨hin, e1, nm_r (e' := b) (by rw [hps', hcs]; exact hb) ⟨hin, e1, nm_r (e' := nI 7) (by rw [hps', hcs]; exact hk) (br_f (by decide) (br_f (by decide) ?_))⟩⟩
  iterate 4 (refine br_f (by decide) ?_)
  refine br_t rfl ?_
  have hb7 := ho.2.2.2.2.1 rfl
  have okc : c ≤ cl b := ok.2.2.1 rfl
  refine ⟨hin, ?_⟩
  by_cases hv : c < cl b
  · have eh : hi 7 b t true v (d, c, h, hy, f, fy, qx, q, ox, oy) = ((d, c + 1, h, hy, f, fy, qx, q, ox, oy), []) := by simp only [hi, if_pos hv]
    rw [eh] at H
    refine br_f (by rw [a2', hb7.2]; exact nI_ge hv (by omega)) ⟨hin, hin, nm_r (e' := upd a_count i (nI (c + 1))) (by rw [a2', nI_1, hc]) ?_⟩
    exact H _ (xe_eff ⟨a1, pk_us, a3, a4, a5, a6, a7, a8, a9, a10⟩ (fun j hj S hS => xd_frame hS rfl (pk_un hj) rfl rfl rfl rfl rfl rfl (fun r hr => ⟨rfl, rfl⟩)) hT hR)
  · have eh : hi 7 b t true v (d, c, h, hy, f, fy, qx, q, ox, oy) = ((d, c, h, hy, f, fy, qx, q, ox, oy), [(1, v)]) := by simp only [hi, if_neg hv]
    rw [eh] at H
    refine br_t (by rw [a2', hb7.2]; exact nI_le (by omega) (by omega)) ?_
    exact xw_push hT (by omega) (H _ (xe_eff hS0 (fun j hj S hS => hS) rfl (xd_rps_push hR)))
theorem xh_i8 {post : SX → Prop} {i t s d c : Nat} {a b v h hy : Int32} {f fy qx ox oy : Bool} {q : List (Int32 × Nat)} {R : List Tk} (hx : HA f_time a_partStage a_stageKind a_stageA a_stageB i t s 8 a b) (hS : RepA a_due a_count a_held a_heldY a_hasHeld a_hasHeldY a_queueSize a_queueIsOfX a_queueValue a_queueDue i (d, c, h, hy, f, fy, qx, q, ox, oy)) (ok : okS 8 b (d, c, h, hy, f, fy, qx, q, ox, oy)) (hT : f_tasks = nI R.length) (hR : rps a_taskWhat a_taskPart a_taskValue R) (hl : R.length + 2 ≤ 128) (H : ∀ u', Eff (f_time, f_sent, f_stageCount, f_tasks, a_sourceEnded, a_stageKind, a_stageA, a_stageB, a_stageParts, a_partStage, a_partUser, a_partX, a_partY, a_phase, a_beganAfter, a_due, a_count, a_held, a_heldY, a_hasHeld, a_hasHeldY, a_queueSize, a_queueIsOfX, a_queueValue, a_queueDue, a_subStatus, a_subCode, a_subEnd, a_subDemand, a_subRequests, a_subDelivered, a_subWaiting, a_waitValue, a_history, a_taskWhat, a_taskPart, a_taskValue) u' i (hi 8 b t true v (d, c, h, hy, f, fy, qx, q, ox, oy)).1 (hi 8 b t true v (d, c, h, hy, f, fy, qx, q, ox, oy)).2 R → post u') : wpX_hearItem post (f_time, f_sent, f_stageCount, f_tasks, a_sourceEnded, a_stageKind, a_stageA, a_stageB, a_stageParts, a_partStage, a_partUser, a_partX, a_partY, a_phase, a_beganAfter, a_due, a_count, a_held, a_heldY, a_hasHeld, a_hasHeldY, a_queueSize, a_queueIsOfX, a_queueValue, a_queueDue, a_subStatus, a_subCode, a_subEnd, a_subDemand, a_subRequests, a_subDelivered, a_subWaiting, a_waitValue, a_history, a_taskWhat, a_taskPart, a_taskValue) (nI i) v := by
  obtain ⟨h27, ht, ht2, hps, hs, hk, ha, hb, ho⟩ := hx
  have hS0 := hS
  obtain ⟨a1, a2, a3, a4, a5, a6, a7, a8, a9, a10⟩ := hS
  have hc : (nI i).toNatClampNeg = i := nI_clamp (by omega)
  have hcs : (nI s).toNatClampNeg = s := nI_clamp (by omega)
  have hin : vp_in (nI i) 27 := vp_in_nI h27 (by decide)
  have hps' : a_partStage (nI i).toNatClampNeg = nI s := by rw [hc]; exact hps
  have e1 : vp_in (a_partStage (nI i).toNatClampNeg) 12 := by rw [hps']; exact vp_in_nI hs (by decide)
  have a2' : a_count (nI i).toNatClampNeg = nI c := by rw [hc]; exact a2
  have a3' : a_held (nI i).toNatClampNeg = h := by rw [hc]; exact a3
  have a5' : a_hasHeld (nI i).toNatClampNeg = bI f := by rw [hc]; exact a5
  refine ⟨hin, e1, nm_r (e' := b) (by rw [hps', hcs]; exact hb) ⟨hin, e1, nm_r (e' := nI 8) (by rw [hps', hcs]; exact hk) (br_f (by decide) (br_f (by decide) ?_))⟩⟩
  iterate 5 (refine br_f (by decide) ?_)
  refine br_t rfl ?_
  refine ⟨hin, ?_⟩
  have hf : RepA a_due a_count (upd a_held (nI i).toNatClampNeg v) a_heldY (upd a_hasHeld (nI i).toNatClampNeg (vp_nar .boolean 1)) a_hasHeldY a_queueSize a_queueIsOfX a_queueValue a_queueDue i (d, c, v, hy, true, fy, qx, q, ox, oy) := ⟨a1, a2, xh_us h27, a4, xh_us h27, a6, a7, a8, a9, a10⟩
  by_cases hv : f = true ∧ h = v
  · have eh : hi 8 b t true v (d, c, h, hy, f, fy, qx, q, ox, oy) = ((d, c, v, hy, true, fy, qx, q, ox, oy), []) := by simp only [hi, if_pos hv]
    rw [eh] at H
    refine br_f (by rw [a5', hv.1]; decide) ⟨hin, br_t (by rw [a3']; exact hv.2) ⟨hin, nm_e ⟨hin, nm_e ?_⟩⟩⟩
    exact H _ (xe_eff hf (fun j hj S hS => xd_frame hS rfl rfl (xh_un h27 hj) rfl (xh_un h27 hj) rfl rfl rfl (fun r hr => ⟨rfl, rfl⟩)) hT hR)
  · have eh : hi 8 b t true v (d, c, h, hy, f, fy, qx, q, ox, oy) = ((d, c, v, hy, true, fy, qx, q, ox, oy), [(1, v)]) := by simp only [hi, if_neg hv]
    rw [eh] at H
    have hp : wX_changeItem_19 post (nI i) v f_time f_sent f_stageCount f_tasks a_sourceEnded a_stageKind a_stageA a_stageB a_stageParts a_partStage a_partUser a_partX a_partY a_phase a_beganAfter a_due a_count a_held a_heldY a_hasHeld a_hasHeldY a_queueSize a_queueIsOfX a_queueValue a_queueDue a_subStatus a_subCode a_subEnd a_subDemand a_subRequests a_subDelivered a_subWaiting a_waitValue a_history a_taskWhat a_taskPart a_taskValue := by
      refine xw_push hT (by omega) ⟨hin, nm_e ⟨hin, nm_e ?_⟩⟩
      exact H _ (xe_eff hf (fun j hj S hS => xd_frame hS rfl rfl (xh_un h27 hj) rfl (xh_un h27 hj) rfl rfl rfl (fun r hr => ⟨rfl, rfl⟩)) rfl (xd_rps_push hR))
    by_cases hf0 : f = false
    · exact br_t (by rw [a5', hf0]; rfl) hp
    · refine br_f (by rw [a5', xd_bI0]; exact hf0) ⟨hin, br_f (by rw [a3']; intro z; exact hv ⟨by simpa using hf0, z⟩) hp⟩
theorem xh_i9 {post : SX → Prop} {i t s d c : Nat} {a b v h hy : Int32} {f fy qx ox oy : Bool} {q : List (Int32 × Nat)} {R : List Tk} (hx : HA f_time a_partStage a_stageKind a_stageA a_stageB i t s 9 a b) (hS : RepA a_due a_count a_held a_heldY a_hasHeld a_hasHeldY a_queueSize a_queueIsOfX a_queueValue a_queueDue i (d, c, h, hy, f, fy, qx, q, ox, oy)) (ok : okS 9 b (d, c, h, hy, f, fy, qx, q, ox, oy)) (hT : f_tasks = nI R.length) (hR : rps a_taskWhat a_taskPart a_taskValue R) (hl : R.length + 2 ≤ 128) (H : ∀ u', Eff (f_time, f_sent, f_stageCount, f_tasks, a_sourceEnded, a_stageKind, a_stageA, a_stageB, a_stageParts, a_partStage, a_partUser, a_partX, a_partY, a_phase, a_beganAfter, a_due, a_count, a_held, a_heldY, a_hasHeld, a_hasHeldY, a_queueSize, a_queueIsOfX, a_queueValue, a_queueDue, a_subStatus, a_subCode, a_subEnd, a_subDemand, a_subRequests, a_subDelivered, a_subWaiting, a_waitValue, a_history, a_taskWhat, a_taskPart, a_taskValue) u' i (hi 9 b t true v (d, c, h, hy, f, fy, qx, q, ox, oy)).1 (hi 9 b t true v (d, c, h, hy, f, fy, qx, q, ox, oy)).2 R → post u') : wpX_hearItem post (f_time, f_sent, f_stageCount, f_tasks, a_sourceEnded, a_stageKind, a_stageA, a_stageB, a_stageParts, a_partStage, a_partUser, a_partX, a_partY, a_phase, a_beganAfter, a_due, a_count, a_held, a_heldY, a_hasHeld, a_hasHeldY, a_queueSize, a_queueIsOfX, a_queueValue, a_queueDue, a_subStatus, a_subCode, a_subEnd, a_subDemand, a_subRequests, a_subDelivered, a_subWaiting, a_waitValue, a_history, a_taskWhat, a_taskPart, a_taskValue) (nI i) v := by
  obtain ⟨h27, ht, ht2, hps, hs, hk, ha, hb, ho⟩ := hx
  have hS0 := hS
  obtain ⟨a1, a2, a3, a4, a5, a6, a7, a8, a9, a10⟩ := hS
  have hc : (nI i).toNatClampNeg = i := nI_clamp (by omega)
  have hcs : (nI s).toNatClampNeg = s := nI_clamp (by omega)
  have hin : vp_in (nI i) 27 := vp_in_nI h27 (by decide)
  have hps' : a_partStage (nI i).toNatClampNeg = nI s := by rw [hc]; exact hps
  have e1 : vp_in (a_partStage (nI i).toNatClampNeg) 12 := by rw [hps']; exact vp_in_nI hs (by decide)
  have a2' : a_count (nI i).toNatClampNeg = nI c := by rw [hc]; exact a2
  have a3' : a_held (nI i).toNatClampNeg = h := by rw [hc]; exact a3
  have a5' : a_hasHeld (nI i).toNatClampNeg = bI f := by rw [hc]; exact a5
  refine ⟨hin, e1, nm_r (e' := b) (by rw [hps', hcs]; exact hb) ⟨hin, e1, nm_r (e' := nI 9) (by rw [hps', hcs]; exact hk) (br_f (by decide) (br_f (by decide) ?_))⟩⟩
  iterate 6 (refine br_f (by decide) ?_)
  refine br_t rfl ?_
  have hb9 := ho.2.2.2.2.2.1 rfl
  have okc : c < cl b := ok.2.1 (Or.inr rfl)
  refine ⟨hin, hin, nm_r (e' := upd a_held i (h + v)) (by rw [a3', hc]) ⟨hin, hin, nm_r (e' := upd a_count i (nI (c + 1))) (by rw [a2', nI_1, hc]) ⟨hin, ?_⟩⟩⟩
  have eu : upd a_count i (nI (c + 1)) (nI i).toNatClampNeg = nI (c + 1) := by rw [hc]; exact pk_us
  by_cases hv : c + 1 < cl b
  · have eh : hi 9 b t true v (d, c, h, hy, f, fy, qx, q, ox, oy) = ((d, c + 1, h + v, hy, f, fy, qx, q, ox, oy), []) := by simp only [hi, if_pos hv]
    rw [eh] at H
    refine br_t (by rw [eu, hb9.2.2]; exact nI_lt hv (by omega)) ?_
    exact H _ (xe_eff ⟨a1, pk_us, pk_us, a4, a5, a6, a7, a8, a9, a10⟩ (fun j hj S hS => xd_frame hS rfl (pk_un hj) (pk_un hj) rfl rfl rfl rfl rfl (fun r hr => ⟨rfl, rfl⟩)) hT hR)
  · have eh : hi 9 b t true v (d, c, h, hy, f, fy, qx, q, ox, oy) = ((d, 0, 0, hy, f, fy, qx, q, ox, oy), [(1, h + v)]) := by simp only [hi, if_neg hv]
    rw [eh] at H
    refine br_f (by rw [eu, hb9.2.2]; exact nI_nlt (by omega) (by omega)) ⟨hin, ?_⟩
    rw [show upd a_held i (h + v) (nI i).toNatClampNeg = h + v from by rw [hc]; exact pk_us]
    refine xw_push hT (by omega) ⟨hin, nm_e ⟨hin, nm_e ?_⟩⟩
    exact H _ (xe_eff ⟨a1, xh_us h27, xh_us h27, a4, a5, a6, a7, a8, a9, a10⟩ (fun j hj S hS => xd_frame hS rfl ((xh_un h27 hj).trans (pk_un hj)) ((xh_un h27 hj).trans (pk_un hj)) rfl rfl rfl rfl rfl (fun r hr => ⟨rfl, rfl⟩)) rfl (xd_rps_push hR))
theorem xh_i10 {post : SX → Prop} {i t s d c : Nat} {a b v h hy : Int32} {f fy qx ox oy : Bool} {q : List (Int32 × Nat)} {R : List Tk} (hx : HA f_time a_partStage a_stageKind a_stageA a_stageB i t s 10 a b) (hS : RepA a_due a_count a_held a_heldY a_hasHeld a_hasHeldY a_queueSize a_queueIsOfX a_queueValue a_queueDue i (d, c, h, hy, f, fy, qx, q, ox, oy)) (ok : okS 10 b (d, c, h, hy, f, fy, qx, q, ox, oy)) (hT : f_tasks = nI R.length) (hR : rps a_taskWhat a_taskPart a_taskValue R) (hl : R.length + 2 ≤ 128) (H : ∀ u', Eff (f_time, f_sent, f_stageCount, f_tasks, a_sourceEnded, a_stageKind, a_stageA, a_stageB, a_stageParts, a_partStage, a_partUser, a_partX, a_partY, a_phase, a_beganAfter, a_due, a_count, a_held, a_heldY, a_hasHeld, a_hasHeldY, a_queueSize, a_queueIsOfX, a_queueValue, a_queueDue, a_subStatus, a_subCode, a_subEnd, a_subDemand, a_subRequests, a_subDelivered, a_subWaiting, a_waitValue, a_history, a_taskWhat, a_taskPart, a_taskValue) u' i (hi 10 b t true v (d, c, h, hy, f, fy, qx, q, ox, oy)).1 (hi 10 b t true v (d, c, h, hy, f, fy, qx, q, ox, oy)).2 R → post u') : wpX_hearItem post (f_time, f_sent, f_stageCount, f_tasks, a_sourceEnded, a_stageKind, a_stageA, a_stageB, a_stageParts, a_partStage, a_partUser, a_partX, a_partY, a_phase, a_beganAfter, a_due, a_count, a_held, a_heldY, a_hasHeld, a_hasHeldY, a_queueSize, a_queueIsOfX, a_queueValue, a_queueDue, a_subStatus, a_subCode, a_subEnd, a_subDemand, a_subRequests, a_subDelivered, a_subWaiting, a_waitValue, a_history, a_taskWhat, a_taskPart, a_taskValue) (nI i) v := by
  obtain ⟨h27, ht, ht2, hps, hs, hk, ha, hb, ho⟩ := hx
  have hS0 := hS
  obtain ⟨a1, a2, a3, a4, a5, a6, a7, a8, a9, a10⟩ := hS
  have hc : (nI i).toNatClampNeg = i := nI_clamp (by omega)
  have hcs : (nI s).toNatClampNeg = s := nI_clamp (by omega)
  have hin : vp_in (nI i) 27 := vp_in_nI h27 (by decide)
  have hps' : a_partStage (nI i).toNatClampNeg = nI s := by rw [hc]; exact hps
  have e1 : vp_in (a_partStage (nI i).toNatClampNeg) 12 := by rw [hps']; exact vp_in_nI hs (by decide)
  have a2' : a_count (nI i).toNatClampNeg = nI c := by rw [hc]; exact a2
  have a3' : a_held (nI i).toNatClampNeg = h := by rw [hc]; exact a3
  have a5' : a_hasHeld (nI i).toNatClampNeg = bI f := by rw [hc]; exact a5
  refine ⟨hin, e1, nm_r (e' := b) (by rw [hps', hcs]; exact hb) ⟨hin, e1, nm_r (e' := nI 10) (by rw [hps', hcs]; exact hk) (br_f (by decide) (br_f (by decide) ?_))⟩⟩
  iterate 7 (refine br_f (by decide) ?_)
  refine br_t rfl ?_
  refine ⟨hin, hin, nm_r (e' := upd a_count i (nI (c + 1))) (by rw [a2', nI_1, hc]) ?_⟩
  exact H _ (xe_eff ⟨a1, pk_us, a3, a4, a5, a6, a7, a8, a9, a10⟩ (fun j hj S hS => xd_frame hS rfl (pk_un hj) rfl rfl rfl rfl rfl rfl (fun r hr => ⟨rfl, rfl⟩)) hT hR)
theorem xh_i11 {post : SX → Prop} {i t s d c : Nat} {a b v h hy : Int32} {f fy qx ox oy : Bool} {q : List (Int32 × Nat)} {R : List Tk} (hx : HA f_time a_partStage a_stageKind a_stageA a_stageB i t s 11 a b) (hS : RepA a_due a_count a_held a_heldY a_hasHeld a_hasHeldY a_queueSize a_queueIsOfX a_queueValue a_queueDue i (d, c, h, hy, f, fy, qx, q, ox, oy)) (ok : okS 11 b (d, c, h, hy, f, fy, qx, q, ox, oy)) (hT : f_tasks = nI R.length) (hR : rps a_taskWhat a_taskPart a_taskValue R) (hl : R.length + 2 ≤ 128) (H : ∀ u', Eff (f_time, f_sent, f_stageCount, f_tasks, a_sourceEnded, a_stageKind, a_stageA, a_stageB, a_stageParts, a_partStage, a_partUser, a_partX, a_partY, a_phase, a_beganAfter, a_due, a_count, a_held, a_heldY, a_hasHeld, a_hasHeldY, a_queueSize, a_queueIsOfX, a_queueValue, a_queueDue, a_subStatus, a_subCode, a_subEnd, a_subDemand, a_subRequests, a_subDelivered, a_subWaiting, a_waitValue, a_history, a_taskWhat, a_taskPart, a_taskValue) u' i (hi 11 b t true v (d, c, h, hy, f, fy, qx, q, ox, oy)).1 (hi 11 b t true v (d, c, h, hy, f, fy, qx, q, ox, oy)).2 R → post u') : wpX_hearItem post (f_time, f_sent, f_stageCount, f_tasks, a_sourceEnded, a_stageKind, a_stageA, a_stageB, a_stageParts, a_partStage, a_partUser, a_partX, a_partY, a_phase, a_beganAfter, a_due, a_count, a_held, a_heldY, a_hasHeld, a_hasHeldY, a_queueSize, a_queueIsOfX, a_queueValue, a_queueDue, a_subStatus, a_subCode, a_subEnd, a_subDemand, a_subRequests, a_subDelivered, a_subWaiting, a_waitValue, a_history, a_taskWhat, a_taskPart, a_taskValue) (nI i) v := by
  obtain ⟨h27, ht, ht2, hps, hs, hk, ha, hb, ho⟩ := hx
  have hS0 := hS
  obtain ⟨a1, a2, a3, a4, a5, a6, a7, a8, a9, a10⟩ := hS
  have hc : (nI i).toNatClampNeg = i := nI_clamp (by omega)
  have hcs : (nI s).toNatClampNeg = s := nI_clamp (by omega)
  have hin : vp_in (nI i) 27 := vp_in_nI h27 (by decide)
  have hps' : a_partStage (nI i).toNatClampNeg = nI s := by rw [hc]; exact hps
  have e1 : vp_in (a_partStage (nI i).toNatClampNeg) 12 := by rw [hps']; exact vp_in_nI hs (by decide)
  have a2' : a_count (nI i).toNatClampNeg = nI c := by rw [hc]; exact a2
  have a3' : a_held (nI i).toNatClampNeg = h := by rw [hc]; exact a3
  have a5' : a_hasHeld (nI i).toNatClampNeg = bI f := by rw [hc]; exact a5
  refine ⟨hin, e1, nm_r (e' := b) (by rw [hps', hcs]; exact hb) ⟨hin, e1, nm_r (e' := nI 11) (by rw [hps', hcs]; exact hk) (br_f (by decide) (br_f (by decide) ?_))⟩⟩
  iterate 8 (refine br_f (by decide) ?_)
  refine br_t rfl ?_
  have hb11 := ho.2.2.2.2.2.2 (by decide) (by decide)
  have ht' : f_time = nI t := ht
  have ed : f_time + b = dI (t + cl b) := by rw [ht', xd_dIp (by omega), ← nI_add, ← hb11.2.2]
  refine xh_queueItem h27 hS0 hT hR (by omega) ed (fun z => absurd z (by omega)) (fun hv u' he => ?_) (fun hv u' he => ?_)
  · have eh : hi 11 b t true v (d, c, h, hy, f, fy, qx, q, ox, oy) = ((d, c, h, hy, f, fy, qx, q ++ [(v, t + cl b)], ox, oy), []) := by simp only [hi, if_pos hv]
    rw [eh] at H
    exact H u' he
  · have eh : hi 11 b t true v (d, c, h, hy, f, fy, qx, q, ox, oy) = ((d, c, h, hy, f, fy, qx, q, ox, oy), [(3, 8)]) := by simp only [hi, if_neg hv]
    rw [eh] at H
    exact H u' he
theorem xh_i12 {post : SX → Prop} {i t s d c : Nat} {a b v h hy : Int32} {f fy qx ox oy : Bool} {q : List (Int32 × Nat)} {R : List Tk} (hx : HA f_time a_partStage a_stageKind a_stageA a_stageB i t s 12 a b) (hS : RepA a_due a_count a_held a_heldY a_hasHeld a_hasHeldY a_queueSize a_queueIsOfX a_queueValue a_queueDue i (d, c, h, hy, f, fy, qx, q, ox, oy)) (ok : okS 12 b (d, c, h, hy, f, fy, qx, q, ox, oy)) (hT : f_tasks = nI R.length) (hR : rps a_taskWhat a_taskPart a_taskValue R) (hl : R.length + 2 ≤ 128) (H : ∀ u', Eff (f_time, f_sent, f_stageCount, f_tasks, a_sourceEnded, a_stageKind, a_stageA, a_stageB, a_stageParts, a_partStage, a_partUser, a_partX, a_partY, a_phase, a_beganAfter, a_due, a_count, a_held, a_heldY, a_hasHeld, a_hasHeldY, a_queueSize, a_queueIsOfX, a_queueValue, a_queueDue, a_subStatus, a_subCode, a_subEnd, a_subDemand, a_subRequests, a_subDelivered, a_subWaiting, a_waitValue, a_history, a_taskWhat, a_taskPart, a_taskValue) u' i (hi 12 b t true v (d, c, h, hy, f, fy, qx, q, ox, oy)).1 (hi 12 b t true v (d, c, h, hy, f, fy, qx, q, ox, oy)).2 R → post u') : wpX_hearItem post (f_time, f_sent, f_stageCount, f_tasks, a_sourceEnded, a_stageKind, a_stageA, a_stageB, a_stageParts, a_partStage, a_partUser, a_partX, a_partY, a_phase, a_beganAfter, a_due, a_count, a_held, a_heldY, a_hasHeld, a_hasHeldY, a_queueSize, a_queueIsOfX, a_queueValue, a_queueDue, a_subStatus, a_subCode, a_subEnd, a_subDemand, a_subRequests, a_subDelivered, a_subWaiting, a_waitValue, a_history, a_taskWhat, a_taskPart, a_taskValue) (nI i) v := by
  obtain ⟨h27, ht, ht2, hps, hs, hk, ha, hb, ho⟩ := hx
  have hS0 := hS
  obtain ⟨a1, a2, a3, a4, a5, a6, a7, a8, a9, a10⟩ := hS
  have hc : (nI i).toNatClampNeg = i := nI_clamp (by omega)
  have hcs : (nI s).toNatClampNeg = s := nI_clamp (by omega)
  have hin : vp_in (nI i) 27 := vp_in_nI h27 (by decide)
  have hps' : a_partStage (nI i).toNatClampNeg = nI s := by rw [hc]; exact hps
  have e1 : vp_in (a_partStage (nI i).toNatClampNeg) 12 := by rw [hps']; exact vp_in_nI hs (by decide)
  have a2' : a_count (nI i).toNatClampNeg = nI c := by rw [hc]; exact a2
  have a3' : a_held (nI i).toNatClampNeg = h := by rw [hc]; exact a3
  have a5' : a_hasHeld (nI i).toNatClampNeg = bI f := by rw [hc]; exact a5
  refine ⟨hin, e1, nm_r (e' := b) (by rw [hps', hcs]; exact hb) ⟨hin, e1, nm_r (e' := nI 12) (by rw [hps', hcs]; exact hk) (br_f (by decide) (br_f (by decide) ?_))⟩⟩
  iterate 9 (refine br_f (by decide) ?_)
  refine br_t rfl ?_
  have hb11 := ho.2.2.2.2.2.2 (by decide) (by decide)
  have ht' : f_time = nI t := ht
  have ed : f_time + b = dI (t + cl b) := by rw [ht', xd_dIp (by omega), ← nI_add, ← hb11.2.2]
  refine ⟨hin, nm_r (e' := upd a_held i v) (by rw [hc]) ⟨hin, nm_r (e' := upd a_due i (dI (t + cl b))) (by rw [ed, hc]) ?_⟩⟩
  exact H _ (xe_eff ⟨pk_us, a2, pk_us, a4, a5, a6, a7, a8, a9, a10⟩ (fun j hj S hS => xd_frame hS (pk_un hj) rfl (pk_un hj) rfl rfl rfl rfl rfl (fun r hr => ⟨rfl, rfl⟩)) hT hR)
theorem xh_i13 {post : SX → Prop} {i t s d c : Nat} {a b v h hy : Int32} {f fy qx ox oy : Bool} {q : List (Int32 × Nat)} {R : List Tk} (hx : HA f_time a_partStage a_stageKind a_stageA a_stageB i t s 13 a b) (hS : RepA a_due a_count a_held a_heldY a_hasHeld a_hasHeldY a_queueSize a_queueIsOfX a_queueValue a_queueDue i (d, c, h, hy, f, fy, qx, q, ox, oy)) (ok : okS 13 b (d, c, h, hy, f, fy, qx, q, ox, oy)) (hT : f_tasks = nI R.length) (hR : rps a_taskWhat a_taskPart a_taskValue R) (hl : R.length + 2 ≤ 128) (H : ∀ u', Eff (f_time, f_sent, f_stageCount, f_tasks, a_sourceEnded, a_stageKind, a_stageA, a_stageB, a_stageParts, a_partStage, a_partUser, a_partX, a_partY, a_phase, a_beganAfter, a_due, a_count, a_held, a_heldY, a_hasHeld, a_hasHeldY, a_queueSize, a_queueIsOfX, a_queueValue, a_queueDue, a_subStatus, a_subCode, a_subEnd, a_subDemand, a_subRequests, a_subDelivered, a_subWaiting, a_waitValue, a_history, a_taskWhat, a_taskPart, a_taskValue) u' i (hi 13 b t true v (d, c, h, hy, f, fy, qx, q, ox, oy)).1 (hi 13 b t true v (d, c, h, hy, f, fy, qx, q, ox, oy)).2 R → post u') : wpX_hearItem post (f_time, f_sent, f_stageCount, f_tasks, a_sourceEnded, a_stageKind, a_stageA, a_stageB, a_stageParts, a_partStage, a_partUser, a_partX, a_partY, a_phase, a_beganAfter, a_due, a_count, a_held, a_heldY, a_hasHeld, a_hasHeldY, a_queueSize, a_queueIsOfX, a_queueValue, a_queueDue, a_subStatus, a_subCode, a_subEnd, a_subDemand, a_subRequests, a_subDelivered, a_subWaiting, a_waitValue, a_history, a_taskWhat, a_taskPart, a_taskValue) (nI i) v := by
  obtain ⟨h27, ht, ht2, hps, hs, hk, ha, hb, ho⟩ := hx
  have hS0 := hS
  obtain ⟨a1, a2, a3, a4, a5, a6, a7, a8, a9, a10⟩ := hS
  have hc : (nI i).toNatClampNeg = i := nI_clamp (by omega)
  have hcs : (nI s).toNatClampNeg = s := nI_clamp (by omega)
  have hin : vp_in (nI i) 27 := vp_in_nI h27 (by decide)
  have hps' : a_partStage (nI i).toNatClampNeg = nI s := by rw [hc]; exact hps
  have e1 : vp_in (a_partStage (nI i).toNatClampNeg) 12 := by rw [hps']; exact vp_in_nI hs (by decide)
  have a2' : a_count (nI i).toNatClampNeg = nI c := by rw [hc]; exact a2
  have a3' : a_held (nI i).toNatClampNeg = h := by rw [hc]; exact a3
  have a5' : a_hasHeld (nI i).toNatClampNeg = bI f := by rw [hc]; exact a5
  refine ⟨hin, e1, nm_r (e' := b) (by rw [hps', hcs]; exact hb) ⟨hin, e1, nm_r (e' := nI 13) (by rw [hps', hcs]; exact hk) (br_f (by decide) (br_f (by decide) ?_))⟩⟩
  iterate 10 (refine br_f (by decide) ?_)
  refine br_t rfl ?_
  have ht' : f_time = nI t := ht
  refine ⟨hin, ?_⟩
  by_cases hv : f = true ∧ nI t - h < b
  · have eh : hi 13 b t true v (d, c, h, hy, f, fy, qx, q, ox, oy) = ((d, c, h, hy, f, fy, qx, q, ox, oy), []) := by simp only [hi, if_pos hv]
    rw [eh] at H
    refine br_f (by rw [a5', hv.1]; decide) ⟨hin, br_t (by rw [a3', ht']; exact hv.2) ?_⟩
    exact H _ (xe_eff hS0 (fun j hj S hS => hS) hT hR)
  · have eh : hi 13 b t true v (d, c, h, hy, f, fy, qx, q, ox, oy) = ((d, c, nI t, hy, true, fy, qx, q, ox, oy), [(1, v)]) := by simp only [hi, if_neg hv]
    rw [eh] at H
    have hp : wX_firstItem_24 post (nI i) v f_time f_sent f_stageCount f_tasks a_sourceEnded a_stageKind a_stageA a_stageB a_stageParts a_partStage a_partUser a_partX a_partY a_phase a_beganAfter a_due a_count a_held a_heldY a_hasHeld a_hasHeldY a_queueSize a_queueIsOfX a_queueValue a_queueDue a_subStatus a_subCode a_subEnd a_subDemand a_subRequests a_subDelivered a_subWaiting a_waitValue a_history a_taskWhat a_taskPart a_taskValue := by
      refine ⟨hin, nm_r (e' := upd a_held i (nI t)) (by rw [ht', hc]) ⟨hin, nm_r (e' := upd a_hasHeld i (bI true)) (by rw [hc]; rfl) ?_⟩⟩
      exact xw_push hT (by omega) (H _ (xe_eff ⟨a1, a2, pk_us, a4, pk_us, a6, a7, a8, a9, a10⟩ (fun j hj S hS => xd_frame hS rfl rfl (pk_un hj) rfl (pk_un hj) rfl rfl rfl (fun r hr => ⟨rfl, rfl⟩)) rfl (xd_rps_push hR)))
    by_cases hf0 : f = false
    · exact br_t (by rw [a5', hf0]; rfl) hp
    · refine br_f (by rw [a5', xd_bI0]; exact hf0) ⟨hin, br_f (by rw [a3', ht']; intro z; exact hv ⟨by simpa using hf0, z⟩) hp⟩
theorem xh_i14 {post : SX → Prop} {i t s d c : Nat} {a b v h hy : Int32} {f fy qx ox oy : Bool} {q : List (Int32 × Nat)} {R : List Tk} (hx : HA f_time a_partStage a_stageKind a_stageA a_stageB i t s 14 a b) (hS : RepA a_due a_count a_held a_heldY a_hasHeld a_hasHeldY a_queueSize a_queueIsOfX a_queueValue a_queueDue i (d, c, h, hy, f, fy, qx, q, ox, oy)) (ok : okS 14 b (d, c, h, hy, f, fy, qx, q, ox, oy)) (hT : f_tasks = nI R.length) (hR : rps a_taskWhat a_taskPart a_taskValue R) (hl : R.length + 2 ≤ 128) (H : ∀ u', Eff (f_time, f_sent, f_stageCount, f_tasks, a_sourceEnded, a_stageKind, a_stageA, a_stageB, a_stageParts, a_partStage, a_partUser, a_partX, a_partY, a_phase, a_beganAfter, a_due, a_count, a_held, a_heldY, a_hasHeld, a_hasHeldY, a_queueSize, a_queueIsOfX, a_queueValue, a_queueDue, a_subStatus, a_subCode, a_subEnd, a_subDemand, a_subRequests, a_subDelivered, a_subWaiting, a_waitValue, a_history, a_taskWhat, a_taskPart, a_taskValue) u' i (hi 14 b t true v (d, c, h, hy, f, fy, qx, q, ox, oy)).1 (hi 14 b t true v (d, c, h, hy, f, fy, qx, q, ox, oy)).2 R → post u') : wpX_hearItem post (f_time, f_sent, f_stageCount, f_tasks, a_sourceEnded, a_stageKind, a_stageA, a_stageB, a_stageParts, a_partStage, a_partUser, a_partX, a_partY, a_phase, a_beganAfter, a_due, a_count, a_held, a_heldY, a_hasHeld, a_hasHeldY, a_queueSize, a_queueIsOfX, a_queueValue, a_queueDue, a_subStatus, a_subCode, a_subEnd, a_subDemand, a_subRequests, a_subDelivered, a_subWaiting, a_waitValue, a_history, a_taskWhat, a_taskPart, a_taskValue) (nI i) v := by
  obtain ⟨h27, ht, ht2, hps, hs, hk, ha, hb, ho⟩ := hx
  have hS0 := hS
  obtain ⟨a1, a2, a3, a4, a5, a6, a7, a8, a9, a10⟩ := hS
  have hc : (nI i).toNatClampNeg = i := nI_clamp (by omega)
  have hcs : (nI s).toNatClampNeg = s := nI_clamp (by omega)
  have hin : vp_in (nI i) 27 := vp_in_nI h27 (by decide)
  have hps' : a_partStage (nI i).toNatClampNeg = nI s := by rw [hc]; exact hps
  have e1 : vp_in (a_partStage (nI i).toNatClampNeg) 12 := by rw [hps']; exact vp_in_nI hs (by decide)
  have a2' : a_count (nI i).toNatClampNeg = nI c := by rw [hc]; exact a2
  have a3' : a_held (nI i).toNatClampNeg = h := by rw [hc]; exact a3
  have a5' : a_hasHeld (nI i).toNatClampNeg = bI f := by rw [hc]; exact a5
  refine ⟨hin, e1, nm_r (e' := b) (by rw [hps', hcs]; exact hb) ⟨hin, e1, nm_r (e' := nI 14) (by rw [hps', hcs]; exact hk) (br_f (by decide) (br_f (by decide) ?_))⟩⟩
  iterate 11 (refine br_f (by decide) ?_)
  refine br_t rfl ?_
  refine ⟨hin, nm_r (e' := upd a_held i v) (by rw [hc]) ⟨hin, nm_r (e' := upd a_hasHeld i (bI true)) (by rw [hc]; rfl) ?_⟩⟩
  exact H _ (xe_eff ⟨a1, a2, pk_us, a4, pk_us, a6, a7, a8, a9, a10⟩ (fun j hj S hS => xd_frame hS rfl rfl (pk_un hj) rfl (pk_un hj) rfl rfl rfl (fun r hr => ⟨rfl, rfl⟩)) hT hR)
theorem xh_i15 {post : SX → Prop} {i t s d c : Nat} {a b v h hy : Int32} {f fy qx ox oy : Bool} {q : List (Int32 × Nat)} {R : List Tk} (hx : HA f_time a_partStage a_stageKind a_stageA a_stageB i t s 15 a b) (hS : RepA a_due a_count a_held a_heldY a_hasHeld a_hasHeldY a_queueSize a_queueIsOfX a_queueValue a_queueDue i (d, c, h, hy, f, fy, qx, q, ox, oy)) (ok : okS 15 b (d, c, h, hy, f, fy, qx, q, ox, oy)) (hT : f_tasks = nI R.length) (hR : rps a_taskWhat a_taskPart a_taskValue R) (hl : R.length + 2 ≤ 128) (H : ∀ u', Eff (f_time, f_sent, f_stageCount, f_tasks, a_sourceEnded, a_stageKind, a_stageA, a_stageB, a_stageParts, a_partStage, a_partUser, a_partX, a_partY, a_phase, a_beganAfter, a_due, a_count, a_held, a_heldY, a_hasHeld, a_hasHeldY, a_queueSize, a_queueIsOfX, a_queueValue, a_queueDue, a_subStatus, a_subCode, a_subEnd, a_subDemand, a_subRequests, a_subDelivered, a_subWaiting, a_waitValue, a_history, a_taskWhat, a_taskPart, a_taskValue) u' i (hi 15 b t true v (d, c, h, hy, f, fy, qx, q, ox, oy)).1 (hi 15 b t true v (d, c, h, hy, f, fy, qx, q, ox, oy)).2 R → post u') : wpX_hearItem post (f_time, f_sent, f_stageCount, f_tasks, a_sourceEnded, a_stageKind, a_stageA, a_stageB, a_stageParts, a_partStage, a_partUser, a_partX, a_partY, a_phase, a_beganAfter, a_due, a_count, a_held, a_heldY, a_hasHeld, a_hasHeldY, a_queueSize, a_queueIsOfX, a_queueValue, a_queueDue, a_subStatus, a_subCode, a_subEnd, a_subDemand, a_subRequests, a_subDelivered, a_subWaiting, a_waitValue, a_history, a_taskWhat, a_taskPart, a_taskValue) (nI i) v := by
  obtain ⟨h27, ht, ht2, hps, hs, hk, ha, hb, ho⟩ := hx
  have hS0 := hS
  obtain ⟨a1, a2, a3, a4, a5, a6, a7, a8, a9, a10⟩ := hS
  have hc : (nI i).toNatClampNeg = i := nI_clamp (by omega)
  have hcs : (nI s).toNatClampNeg = s := nI_clamp (by omega)
  have hin : vp_in (nI i) 27 := vp_in_nI h27 (by decide)
  have hps' : a_partStage (nI i).toNatClampNeg = nI s := by rw [hc]; exact hps
  have e1 : vp_in (a_partStage (nI i).toNatClampNeg) 12 := by rw [hps']; exact vp_in_nI hs (by decide)
  have a2' : a_count (nI i).toNatClampNeg = nI c := by rw [hc]; exact a2
  have a3' : a_held (nI i).toNatClampNeg = h := by rw [hc]; exact a3
  have a5' : a_hasHeld (nI i).toNatClampNeg = bI f := by rw [hc]; exact a5
  refine ⟨hin, e1, nm_r (e' := b) (by rw [hps', hcs]; exact hb) ⟨hin, e1, nm_r (e' := nI 15) (by rw [hps', hcs]; exact hk) (br_f (by decide) (br_f (by decide) ?_))⟩⟩
  iterate 12 (refine br_f (by decide) ?_)
  refine br_t rfl ?_
  have hb11 := ho.2.2.2.2.2.2 (by decide) (by decide)
  have ht' : f_time = nI t := ht
  have ed : f_time + b = dI (t + cl b) := by rw [ht', xd_dIp (by omega), ← nI_add, ← hb11.2.2]
  refine ⟨hin, nm_r (e' := upd a_due i (dI (t + cl b))) (by rw [ed, hc]) ?_⟩
  exact xw_push hT (by omega) (H _ (xe_eff ⟨pk_us, a2, a3, a4, a5, a6, a7, a8, a9, a10⟩ (fun j hj S hS => xd_frame hS (pk_un hj) rfl rfl rfl rfl rfl rfl rfl (fun r hr => ⟨rfl, rfl⟩)) rfl (xd_rps_push hR)))
end
