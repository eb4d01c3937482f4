/-! ===== fireTimer ===== -/
section
variable {f_time : Int32} {f_sent : Int32} {f_stageCount : Int32} {f_tasks : Int32} {a_sourceEnded : (Nat → Int32)} {a_stageKind : (Nat → Int32)} {a_stageA : (Nat → Int32)} {a_stageB : (Nat → Int32)} {a_stageParts : (Nat → Int32)} {a_partStage : (Nat → Int32)} {a_partUser : (Nat → Int32)} {a_partX : (Nat → Int32)} {a_partY : (Nat → Int32)} {a_phase : (Nat → Int32)} {a_beganAfter : (Nat → Int32)} {a_due : (Nat → Int32)} {a_count : (Nat → Int32)} {a_held : (Nat → Int32)} {a_heldY : (Nat → Int32)} {a_hasHeld : (Nat → Int32)} {a_hasHeldY : (Nat → Int32)} {a_queueSize : (Nat → Int32)} {a_queueIsOfX : (Nat → Int32)} {a_queueValue : (Nat → Int32)} {a_queueDue : (Nat → Int32)} {a_subStatus : (Nat → Int32)} {a_subCode : (Nat → Int32)} {a_subEnd : (Nat → Int32)} {a_subDemand : (Nat → Int64)} {a_subRequests : (Nat → Int32)} {a_subDelivered : (Nat → Int32)} {a_subWaiting : (Nat → Int32)} {a_waitValue : (Nat → Int32)} {a_history : (Nat → Int64)} {a_taskWhat : (Nat → Int32)} {a_taskPart : (Nat → Int32)} {a_taskValue : (Nat → Int32)}
theorem xf_none {k t d c : Nat} {a b h hy : Int32} {f fy qx ox oy : Bool} {q : List (Int32 × Nat)} (hk : k ≤ 20) (h11 : k ≠ 11) (hd : d ≠ t) : fi k a b t (d, c, h, hy, f, fy, qx, q, ox, oy) = ((d, c, h, hy, f, fy, qx, q, ox, oy), []) := by
  rcases rn_k hk with e | e | e | e | e | e | e | e | e | e | e | e | e | e | e | e | e | e | e | e | e <;> (first | (exact absurd e h11) | (subst e; simp [fi, hd]))
theorem xf_no {post : SX → Prop} {i t s d c : Nat} {a b h hy : Int32} {f fy qx ox oy : Bool} {q : List (Int32 × Nat)} {R : List Tk} {k : Nat} (hx : HA f_time a_partStage a_stageKind a_stageA a_stageB i t s k a b) (h1t : 1 ≤ t) (hS : RepA a_due a_count a_held a_heldY a_hasHeld a_hasHeldY a_queueSize a_queueIsOfX a_queueValue a_queueDue i (d, c, h, hy, f, fy, qx, q, ox, oy)) (ok : okS k b (d, c, h, hy, f, fy, qx, q, ox, oy)) (hT : f_tasks = nI R.length) (hR : rps a_taskWhat a_taskPart a_taskValue R) (hl : R.length + 9 ≤ 128) (h11 : k ≠ 11) (hne : d ≠ t) (H : ∀ u', Eff (f_time, f_sent, f_stageCount, f_tasks, a_sourceEnded, a_stageKind, a_stageA, a_stageB, a_stageParts, a_partStage, a_partUser, a_partX, a_partY, a_phase, a_beganAfter, a_due, a_count, a_held, a_heldY, a_hasHeld, a_hasHeldY, a_queueSize, a_queueIsOfX, a_queueValue, a_queueDue, a_subStatus, a_subCode, a_subEnd, a_subDemand, a_subRequests, a_subDelivered, a_subWaiting, a_waitValue, a_history, a_taskWhat, a_taskPart, a_taskValue) u' i (fi k a b t (d, c, h, hy, f, fy, qx, q, ox, oy)).1 (fi k a b t (d, c, h, hy, f, fy, qx, q, ox, oy)).2 R → post u') : wpX_fireTimer post (f_time, f_sent, f_stageCount, f_tasks, a_sourceEnded, a_stageKind, a_stageA, a_stageB, a_stageParts, a_partStage, a_partUser, a_partX, a_partY, a_phase, a_beganAfter, a_due, a_count, a_held, a_heldY, a_hasHeld, a_hasHeldY, a_queueSize, a_queueIsOfX, a_queueValue, a_queueDue, a_subStatus, a_subCode, a_subEnd, a_subDemand, a_subRequests, a_subDelivered, a_subWaiting, a_waitValue, a_history, a_taskWhat, a_taskPart, a_taskValue) (nI i) := by
  obtain ⟨h27, ht, ht2, hps, hs, hk, ha, hb, ho⟩ := hx
  have hS0 := hS
  obtain ⟨a1, a2, a3, a4, a5, a6, a7, a8, a9, a10⟩ := hS
  have hcl : (nI i).toNatClampNeg = i := nI_clamp (by omega)
  have hcs : (nI s).toNatClampNeg = s := nI_clamp (by omega)
  have hin : vp_in (nI i) 27 := vp_in_nI h27 (by decide)
  have his : vp_in (nI s) 12 := vp_in_nI hs (by decide)
  have hps' : a_partStage (nI i).toNatClampNeg = nI s := by rw [hcl]; exact hps
  have ht' : f_time = nI t := ht
  have a1' : a_due (nI i).toNatClampNeg = dI d := by rw [hcl]; exact a1
  have a2' : a_count (nI i).toNatClampNeg = nI c := by rw [hcl]; exact a2
  have a3' : a_held (nI i).toNatClampNeg = h := by rw [hcl]; exact a3
  have a5' : a_hasHeld (nI i).toNatClampNeg = bI f := by rw [hcl]; exact a5
  have hd : d < 1000 := ok.1
  rw [xf_none ho.1 h11 hne] at H
  refine ⟨hin, nm_r (e' := nI s) hps' ⟨his, br_f (by rw [hcs]; intro z; have z2 := hk.symm.trans z; rw [show (11 : Int32) = nI 11 from rfl, nI_eq (by have := ho.1; omega) (by decide)] at z2; exact h11 z2) ⟨hin, br_f (by rw [a1', ht', xd_dI hd (by omega) h1t]; exact hne) ?_⟩⟩⟩
  exact H _ (xe_eff hS0 (fun j hj S hS => hS) hT hR)
theorem xf_1 {post : SX → Prop} {i t s d c : Nat} {a b h hy : Int32} {f fy qx ox oy : Bool} {q : List (Int32 × Nat)} {R : List Tk} (hx : HA f_time a_partStage a_stageKind a_stageA a_stageB i t s 1 a b) (h1t : 1 ≤ t) (hS : RepA a_due a_count a_held a_heldY a_hasHeld a_hasHeldY a_queueSize a_queueIsOfX a_queueValue a_queueDue i (d, c, h, hy, f, fy, qx, q, ox, oy)) (ok : okS 1 b (d, c, h, hy, f, fy, qx, q, ox, oy)) (hT : f_tasks = nI R.length) (hR : rps a_taskWhat a_taskPart a_taskValue R) (hl : R.length + 9 ≤ 128) (hdt : d = t) (H : ∀ u', Eff (f_time, f_sent, f_stageCount, f_tasks, a_sourceEnded, a_stageKind, a_stageA, a_stageB, a_stageParts, a_partStage, a_partUser, a_partX, a_partY, a_phase, a_beganAfter, a_due, a_count, a_held, a_heldY, a_hasHeld, a_hasHeldY, a_queueSize, a_queueIsOfX, a_queueValue, a_queueDue, a_subStatus, a_subCode, a_subEnd, a_subDemand, a_subRequests, a_subDelivered, a_subWaiting, a_waitValue, a_history, a_taskWhat, a_taskPart, a_taskValue) u' i (fi 1 a b t (d, c, h, hy, f, fy, qx, q, ox, oy)).1 (fi 1 a b t (d, c, h, hy, f, fy, qx, q, ox, oy)).2 R → post u') : wpX_fireTimer post (f_time, f_sent, f_stageCount, f_tasks, a_sourceEnded, a_stageKind, a_stageA, a_stageB, a_stageParts, a_partStage, a_partUser, a_partX, a_partY, a_phase, a_beganAfter, a_due, a_count, a_held, a_heldY, a_hasHeld, a_hasHeldY, a_queueSize, a_queueIsOfX, a_queueValue, a_queueDue, a_subStatus, a_subCode, a_subEnd, a_subDemand, a_subRequests, a_subDelivered, a_subWaiting, a_waitValue, a_history, a_taskWhat, a_taskPart, a_taskValue) (nI i) := by
  obtain ⟨h27, ht, ht2, hps, hs, hk, ha, hb, ho⟩ := hx
  have hS0 := hS
  obtain ⟨a1, a2, a3, a4, a5, a6, a7, a8, a9, a10⟩ := hS
  have hcl : (nI i).toNatClampNeg = i := nI_clamp (by omega)
  have hcs : (nI s).toNatClampNeg = s := nI_clamp (by omega)
  have hin : vp_in (nI i) 27 := vp_in_nI h27 (by decide)
  have his : vp_in (nI s) 12 := vp_in_nI hs (by decide)
  have hps' : a_partStage (nI i).toNatClampNeg = nI s := by rw [hcl]; exact hps
  have ht' : f_time = nI t := ht
  have a1' : a_due (nI i).toNatClampNeg = dI d := by rw [hcl]; exact a1
  have a2' : a_count (nI i).toNatClampNeg = nI c := by rw [hcl]; exact a2
  have a3' : a_held (nI i).toNatClampNeg = h := by rw [hcl]; exact a3
  have a5' : a_hasHeld (nI i).toNatClampNeg = bI f := by rw [hcl]; exact a5
  have hd : d < 1000 := ok.1
  rw [show fi 1 a b t (d, c, h, hy, f, fy, qx, q, ox, oy) = ((t + cl a, c + 1, h, hy, f, fy, qx, q, ox, oy), [(1, nI c)]) from by simp [fi, hdt]] at H
  refine ⟨hin, nm_r (e' := nI s) hps' ⟨his, br_f (by rw [hcs]; intro z; have z2 := hk.symm.trans z; exact absurd z2 (by decide)) ⟨hin, br_t (by rw [a1', ht', xd_dI hd (by omega) h1t]; exact hdt) ⟨hin, nm_r (e' := upd a_due i (-1)) (by rw [hcl]) ⟨his, nm_r (e' := nI 1) (by rw [hcs]; exact hk) ?_⟩⟩⟩⟩⟩
  have ho1 := ho.2.2.1 rfl
  have ed : f_time + a_stageA (nI s).toNatClampNeg = dI (t + cl a) := by rw [ht', hcs, xd_dIp (by omega), ← nI_add, ← ho1.2.2]; exact congrArg _ ha
  refine br_t rfl ⟨his, hin, nm_r (e' := upd (upd a_due i (-1)) i (dI (t + cl a))) (by rw [ed, hcl]) ⟨hin, ?_⟩⟩
  rw [a2']
  refine xw_push hT (by omega) ⟨hin, hin, nm_r (e' := upd a_count i (nI (c + 1))) (by rw [a2', nI_1, hcl]) ?_⟩
  exact H _ (xe_eff ⟨pk_us, pk_us, a3, a4, a5, a6, a7, a8, a9, a10⟩ (fun j hj S hS => xd_frame hS ((pk_un hj).trans (pk_un hj)) (pk_un hj) rfl rfl rfl rfl rfl rfl (fun r hr => ⟨rfl, rfl⟩)) rfl (xd_rps_push (w := 1) hR))
theorem xf_12 {post : SX → Prop} {i t s d c : Nat} {a b h hy : Int32} {f fy qx ox oy : Bool} {q : List (Int32 × Nat)} {R : List Tk} (hx : HA f_time a_partStage a_stageKind a_stageA a_stageB i t s 12 a b) (h1t : 1 ≤ t) (hS : RepA a_due a_count a_held a_heldY a_hasHeld a_hasHeldY a_queueSize a_queueIsOfX a_queueValue a_queueDue i (d, c, h, hy, f, fy, qx, q, ox, oy)) (ok : okS 12 b (d, c, h, hy, f, fy, qx, q, ox, oy)) (hT : f_tasks = nI R.length) (hR : rps a_taskWhat a_taskPart a_taskValue R) (hl : R.length + 9 ≤ 128) (hdt : d = t) (H : ∀ u', Eff (f_time, f_sent, f_stageCount, f_tasks, a_sourceEnded, a_stageKind, a_stageA, a_stageB, a_stageParts, a_partStage, a_partUser, a_partX, a_partY, a_phase, a_beganAfter, a_due, a_count, a_held, a_heldY, a_hasHeld, a_hasHeldY, a_queueSize, a_queueIsOfX, a_queueValue, a_queueDue, a_subStatus, a_subCode, a_subEnd, a_subDemand, a_subRequests, a_subDelivered, a_subWaiting, a_waitValue, a_history, a_taskWhat, a_taskPart, a_taskValue) u' i (fi 12 a b t (d, c, h, hy, f, fy, qx, q, ox, oy)).1 (fi 12 a b t (d, c, h, hy, f, fy, qx, q, ox, oy)).2 R → post u') : wpX_fireTimer post (f_time, f_sent, f_stageCount, f_tasks, a_sourceEnded, a_stageKind, a_stageA, a_stageB, a_stageParts, a_partStage, a_partUser, a_partX, a_partY, a_phase, a_beganAfter, a_due, a_count, a_held, a_heldY, a_hasHeld, a_hasHeldY, a_queueSize, a_queueIsOfX, a_queueValue, a_queueDue, a_subStatus, a_subCode, a_subEnd, a_subDemand, a_subRequests, a_subDelivered, a_subWaiting, a_waitValue, a_history, a_taskWhat, a_taskPart, a_taskValue) (nI i) := by
  obtain ⟨h27, ht, ht2, hps, hs, hk, ha, hb, ho⟩ := hx
  have hS0 := hS
  obtain ⟨a1, a2, a3, a4, a5, a6, a7, a8, a9, a10⟩ := hS
  have hcl : (nI i).toNatClampNeg = i := nI_clamp (by omega)
  have hcs : (nI s).toNatClampNeg = s := nI_clamp (by omega)
  have hin : vp_in (nI i) 27 := vp_in_nI h27 (by decide)
  have his : vp_in (nI s) 12 := vp_in_nI hs (by decide)
  have hps' : a_partStage (nI i).toNatClampNeg = nI s := by rw [hcl]; exact hps
  have ht' : f_time = nI t := ht
  have a1' : a_due (nI i).toNatClampNeg = dI d := by rw [hcl]; exact a1
  have a2' : a_count (nI i).toNatClampNeg = nI c := by rw [hcl]; exact a2
  have a3' : a_held (nI i).toNatClampNeg = h := by rw [hcl]; exact a3
  have a5' : a_hasHeld (nI i).toNatClampNeg = bI f := by rw [hcl]; exact a5
  have hd : d < 1000 := ok.1
  rw [show fi 12 a b t (d, c, h, hy, f, fy, qx, q, ox, oy) = ((0, c, h, hy, f, fy, qx, q, ox, oy), [(1, h)]) from by simp [fi, hdt]] at H
  refine ⟨hin, nm_r (e' := nI s) hps' ⟨his, br_f (by rw [hcs]; intro z; have z2 := hk.symm.trans z; exact absurd z2 (by decide)) ⟨hin, br_t (by rw [a1', ht', xd_dI hd (by omega) h1t]; exact hdt) ⟨hin, nm_r (e' := upd a_due i (-1)) (by rw [hcl]) ⟨his, nm_r (e' := nI 12) (by rw [hcs]; exact hk) ?_⟩⟩⟩⟩⟩
  refine br_f (by decide) (br_t rfl ⟨hin, ?_⟩)
  rw [a3']
  exact xw_push hT (by omega) (H _ (xe_eff ⟨pk_us, a2, a3, a4, a5, a6, a7, a8, a9, a10⟩ (fun j hj S hS => xd_frame hS (pk_un hj) rfl rfl rfl rfl rfl rfl rfl (fun r hr => ⟨rfl, rfl⟩)) rfl (xd_rps_push (w := 1) hR)))
theorem xf_15 {post : SX → Prop} {i t s d c : Nat} {a b h hy : Int32} {f fy qx ox oy : Bool} {q : List (Int32 × Nat)} {R : List Tk} (hx : HA f_time a_partStage a_stageKind a_stageA a_stageB i t s 15 a b) (h1t : 1 ≤ t) (hS : RepA a_due a_count a_held a_heldY a_hasHeld a_hasHeldY a_queueSize a_queueIsOfX a_queueValue a_queueDue i (d, c, h, hy, f, fy, qx, q, ox, oy)) (ok : okS 15 b (d, c, h, hy, f, fy, qx, q, ox, oy)) (hT : f_tasks = nI R.length) (hR : rps a_taskWhat a_taskPart a_taskValue R) (hl : R.length + 9 ≤ 128) (hdt : d = t) (H : ∀ u', Eff (f_time, f_sent, f_stageCount, f_tasks, a_sourceEnded, a_stageKind, a_stageA, a_stageB, a_stageParts, a_partStage, a_partUser, a_partX, a_partY, a_phase, a_beganAfter, a_due, a_count, a_held, a_heldY, a_hasHeld, a_hasHeldY, a_queueSize, a_queueIsOfX, a_queueValue, a_queueDue, a_subStatus, a_subCode, a_subEnd, a_subDemand, a_subRequests, a_subDelivered, a_subWaiting, a_waitValue, a_history, a_taskWhat, a_taskPart, a_taskValue) u' i (fi 15 a b t (d, c, h, hy, f, fy, qx, q, ox, oy)).1 (fi 15 a b t (d, c, h, hy, f, fy, qx, q, ox, oy)).2 R → post u') : wpX_fireTimer post (f_time, f_sent, f_stageCount, f_tasks, a_sourceEnded, a_stageKind, a_stageA, a_stageB, a_stageParts, a_partStage, a_partUser, a_partX, a_partY, a_phase, a_beganAfter, a_due, a_count, a_held, a_heldY, a_hasHeld, a_hasHeldY, a_queueSize, a_queueIsOfX, a_queueValue, a_queueDue, a_subStatus, a_subCode, a_subEnd, a_subDemand, a_subRequests, a_subDelivered, a_subWaiting, a_waitValue, a_history, a_taskWhat, a_taskPart, a_taskValue) (nI i) := by
  obtain ⟨h27, ht, ht2, hps, hs, hk, ha, hb, ho⟩ := hx
  have hS0 := hS
  obtain ⟨a1, a2, a3, a4, a5, a6, a7, a8, a9, a10⟩ := hS
  have hcl : (nI i).toNatClampNeg = i := nI_clamp (by omega)
  have hcs : (nI s).toNatClampNeg = s := nI_clamp (by omega)
  have hin : vp_in (nI i) 27 := vp_in_nI h27 (by decide)
  have his : vp_in (nI s) 12 := vp_in_nI hs (by decide)
  have hps' : a_partStage (nI i).toNatClampNeg = nI s := by rw [hcl]; exact hps
  have ht' : f_time = nI t := ht
  have a1' : a_due (nI i).toNatClampNeg = dI d := by rw [hcl]; exact a1
  have a2' : a_count (nI i).toNatClampNeg = nI c := by rw [hcl]; exact a2
  have a3' : a_held (nI i).toNatClampNeg = h := by rw [hcl]; exact a3
  have a5' : a_hasHeld (nI i).toNatClampNeg = bI f := by rw [hcl]; exact a5
  have hd : d < 1000 := ok.1
  rw [show fi 15 a b t (d, c, h, hy, f, fy, qx, q, ox, oy) = ((0, c, h, hy, f, fy, qx, q, ox, oy), [(3, 9)]) from by simp [fi, hdt]] at H
  refine ⟨hin, nm_r (e' := nI s) hps' ⟨his, br_f (by rw [hcs]; intro z; have z2 := hk.symm.trans z; exact absurd z2 (by decide)) ⟨hin, br_t (by rw [a1', ht', xd_dI hd (by omega) h1t]; exact hdt) ⟨hin, nm_r (e' := upd a_due i (-1)) (by rw [hcl]) ⟨his, nm_r (e' := nI 15) (by rw [hcs]; exact hk) ?_⟩⟩⟩⟩⟩
  refine br_f (by decide) (br_f (by decide) (br_f (by decide) (br_t rfl ?_)))
  exact xw_push hT (by omega) (H _ (xe_eff ⟨pk_us, a2, a3, a4, a5, a6, a7, a8, a9, a10⟩ (fun j hj S hS => xd_frame hS (pk_un hj) rfl rfl rfl rfl rfl rfl rfl (fun r hr => ⟨rfl, rfl⟩)) rfl (xd_rps_push (w := 3) hR)))
theorem xf_14 {post : SX → Prop} {i t s d c : Nat} {a b h hy : Int32} {f fy qx ox oy : Bool} {q : List (Int32 × Nat)} {R : List Tk} (hx : HA f_time a_partStage a_stageKind a_stageA a_stageB i t s 14 a b) (h1t : 1 ≤ t) (hS : RepA a_due a_count a_held a_heldY a_hasHeld a_hasHeldY a_queueSize a_queueIsOfX a_queueValue a_queueDue i (d, c, h, hy, f, fy, qx, q, ox, oy)) (ok : okS 14 b (d, c, h, hy, f, fy, qx, q, ox, oy)) (hT : f_tasks = nI R.length) (hR : rps a_taskWhat a_taskPart a_taskValue R) (hl : R.length + 9 ≤ 128) (hdt : d = t) (H : ∀ u', Eff (f_time, f_sent, f_stageCount, f_tasks, a_sourceEnded, a_stageKind, a_stageA, a_stageB, a_stageParts, a_partStage, a_partUser, a_partX, a_partY, a_phase, a_beganAfter, a_due, a_count, a_held, a_heldY, a_hasHeld, a_hasHeldY, a_queueSize, a_queueIsOfX, a_queueValue, a_queueDue, a_subStatus, a_subCode, a_subEnd, a_subDemand, a_subRequests, a_subDelivered, a_subWaiting, a_waitValue, a_history, a_taskWhat, a_taskPart, a_taskValue) u' i (fi 14 a b t (d, c, h, hy, f, fy, qx, q, ox, oy)).1 (fi 14 a b t (d, c, h, hy, f, fy, qx, q, ox, oy)).2 R → post u') : wpX_fireTimer post (f_time, f_sent, f_stageCount, f_tasks, a_sourceEnded, a_stageKind, a_stageA, a_stageB, a_stageParts, a_partStage, a_partUser, a_partX, a_partY, a_phase, a_beganAfter, a_due, a_count, a_held, a_heldY, a_hasHeld, a_hasHeldY, a_queueSize, a_queueIsOfX, a_queueValue, a_queueDue, a_subStatus, a_subCode, a_subEnd, a_subDemand, a_subRequests, a_subDelivered, a_subWaiting, a_waitValue, a_history, a_taskWhat, a_taskPart, a_taskValue) (nI i) := by
  obtain ⟨h27, ht, ht2, hps, hs, hk, ha, hb, ho⟩ := hx
  have hS0 := hS
  obtain ⟨a1, a2, a3, a4, a5, a6, a7, a8, a9, a10⟩ := hS
  have hcl : (nI i).toNatClampNeg = i := nI_clamp (by omega)
  have hcs : (nI s).toNatClampNeg = s := nI_clamp (by omega)
  have hin : vp_in (nI i) 27 := vp_in_nI h27 (by decide)
  have his : vp_in (nI s) 12 := vp_in_nI hs (by decide)
  have hps' : a_partStage (nI i).toNatClampNeg = nI s := by rw [hcl]; exact hps
  have ht' : f_time = nI t := ht
  have a1' : a_due (nI i).toNatClampNeg = dI d := by rw [hcl]; exact a1
  have a2' : a_count (nI i).toNatClampNeg = nI c := by rw [hcl]; exact a2
  have a3' : a_held (nI i).toNatClampNeg = h := by rw [hcl]; exact a3
  have a5' : a_hasHeld (nI i).toNatClampNeg = bI f := by rw [hcl]; exact a5
  have hd : d < 1000 := ok.1
  rw [show fi 14 a b t (d, c, h, hy, f, fy, qx, q, ox, oy) = ((t + cl b, c, h, hy, false, fy, qx, q, ox, oy), if f = true then [(1, h)] else []) from by simp [fi, hdt]] at H
  refine ⟨hin, nm_r (e' := nI s) hps' ⟨his, br_f (by rw [hcs]; intro z; have z2 := hk.symm.trans z; exact absurd z2 (by decide)) ⟨hin, br_t (by rw [a1', ht', xd_dI hd (by omega) h1t]; exact hdt) ⟨hin, nm_r (e' := upd a_due i (-1)) (by rw [hcl]) ⟨his, nm_r (e' := nI 14) (by rw [hcs]; exact hk) ?_⟩⟩⟩⟩⟩
  have ho1 := ho.2.2.2.2.2.2 (by decide) (by decide)
  have ed : f_time + a_stageB (nI s).toNatClampNeg = dI (t + cl b) := by rw [ht', hcs, xd_dIp (by omega), ← nI_add, ← ho1.2.2]; exact congrArg _ hb
  refine br_f (by decide) (br_f (by decide) (br_t rfl ⟨his, hin, nm_r (e' := upd (upd a_due i (-1)) i (dI (t + cl b))) (by rw [ed, hcl]) ⟨hin, ?_⟩⟩))
  by_cases hf : f = true
  · rw [if_pos hf] at H
    refine br_f (by rw [a5', hf]; decide) ⟨hin, ?_⟩
    rw [a3']
    refine xw_push hT (by omega) ⟨hin, nm_r (e' := upd a_hasHeld i (bI false)) (by rw [hcl]; rfl) ?_⟩
    exact H _ (xe_eff ⟨pk_us, a2, a3, a4, pk_us, a6, a7, a8, a9, a10⟩ (fun j hj S hS => xd_frame hS ((pk_un hj).trans (pk_un hj)) rfl rfl rfl (pk_un hj) rfl rfl rfl (fun r hr => ⟨rfl, rfl⟩)) rfl (xd_rps_push (w := 1) hR))
  · rw [if_neg hf] at H
    refine br_t (by rw [a5', xd_bI0]; simpa using hf) ⟨hin, nm_r (e' := upd a_hasHeld i (bI false)) (by rw [hcl]; rfl) ?_⟩
    exact H _ (xe_eff ⟨pk_us, a2, a3, a4, pk_us, a6, a7, a8, a9, a10⟩ (fun j hj S hS => xd_frame hS ((pk_un hj).trans (pk_un hj)) rfl rfl rfl (pk_un hj) rfl rfl rfl (fun r hr => ⟨rfl, rfl⟩)) hT hR)
theorem xf_rd_s {t : Nat} {q : List (Int32 × Nat)} {j : Nat} {e : Int32 × Nat} (h : q[j]? = some e) : rdy t (q.take (j + 1)) = rdy t (q.take j) + if e.2 = t then 1 else 0 := by
  unfold rdy
  rw [List.take_add_one, h, List.filter_append, List.length_append]
  congr 1
  by_cases hh : e.2 = t
  · simp [hh]
  · simp [hh]
theorem xf_rd_le (t : Nat) (q : List (Int32 × Nat)) : rdy t q ≤ q.length := List.length_filter_le _ _
/-- the counting loop -/
theorem xf_cnt {post : SX → Prop} {i t : Nat} {q : List (Int32 × Nat)} (h27 : i < 27) (ht : f_time = nI t) (ht2 : t ≤ 200) (h1t : 1 ≤ t) (a8 : a_queueSize i = nI q.length) (a9 : q.length ≤ 8) (a10 : ∀ j e, q[j]? = some e → a_queueValue (8 * i + j) = e.1 ∧ a_queueDue (8 * i + j) = dI e.2) (o5 : ∀ e ∈ q, e.2 < 1000)
    (H1 : a_due (nI i).toNatClampNeg = f_time → wpX_push (fun u => match u with | (f_time, f_sent, f_stageCount, f_tasks, a_sourceEnded, a_stageKind, a_stageA, a_stageB, a_stageParts, a_partStage, a_partUser, a_partX, a_partY, a_phase, a_beganAfter, a_due, a_count, a_held, a_heldY, a_hasHeld, a_hasHeldY, a_queueSize, a_queueIsOfX, a_queueValue, a_queueDue, a_subStatus, a_subCode, a_subEnd, a_subDemand, a_subRequests, a_subDelivered, a_subWaiting, a_waitValue, a_history, a_taskWhat, a_taskPart, a_taskValue) => ∀ x4 : Int32, x4 = nI (rdy t q) - 1 → ∃ n71 : Nat, wX_releaseDelayed_71 post (nI i) (nI (8 * i)) (nI (rdy t q)) n71 x4 f_time f_sent f_stageCount f_tasks a_sourceEnded a_stageKind a_stageA a_stageB a_stageParts a_partStage a_partUser a_partX a_partY a_phase a_beganAfter a_due a_count a_held a_heldY a_hasHeld a_hasHeldY a_queueSize a_queueIsOfX a_queueValue a_queueDue a_subStatus a_subCode a_subEnd a_subDemand a_subRequests a_subDelivered a_subWaiting a_waitValue a_history a_taskWhat a_taskPart a_taskValue) (f_time, f_sent, f_stageCount, f_tasks, a_sourceEnded, a_stageKind, a_stageA, a_stageB, a_stageParts, a_partStage, a_partUser, a_partX, a_partY, a_phase, a_beganAfter, a_due, a_count, a_held, a_heldY, a_hasHeld, a_hasHeldY, a_queueSize, a_queueIsOfX, a_queueValue, a_queueDue, a_subStatus, a_subCode, a_subEnd, a_subDemand, a_subRequests, a_subDelivered, a_subWaiting, a_waitValue, a_history, a_taskWhat, a_taskPart, a_taskValue) 2 (nI i) 0)
    (H2 : ¬ a_due (nI i).toNatClampNeg = f_time → ∀ x4 : Int32, x4 = nI (rdy t q) - 1 → ∃ n71 : Nat, wX_releaseDelayed_71 post (nI i) (nI (8 * i)) (nI (rdy t q)) n71 x4 f_time f_sent f_stageCount f_tasks a_sourceEnded a_stageKind a_stageA a_stageB a_stageParts a_partStage a_partUser a_partX a_partY a_phase a_beganAfter a_due a_count a_held a_heldY a_hasHeld a_hasHeldY a_queueSize a_queueIsOfX a_queueValue a_queueDue a_subStatus a_subCode a_subEnd a_subDemand a_subRequests a_subDelivered a_subWaiting a_waitValue a_history a_taskWhat a_taskPart a_taskValue) :
    ∀ (e j : Nat), j + e = q.length → wX_releaseDelayed_10 post (nI i) (nI (8 * i)) f_time f_sent f_stageCount f_tasks a_sourceEnded a_stageKind a_stageA a_stageB a_stageParts a_partStage a_partUser a_partX a_partY a_phase a_beganAfter a_due a_count a_held a_heldY a_hasHeld a_hasHeldY a_queueSize a_queueIsOfX a_queueValue a_queueDue a_subStatus a_subCode a_subEnd a_subDemand a_subRequests a_subDelivered a_subWaiting a_waitValue a_history a_taskWhat a_taskPart a_taskValue (e + 1) (nI (rdy t (q.take j))) (nI j) := by
  have hcl : (nI i).toNatClampNeg = i := nI_clamp (by omega)
  have hin : vp_in (nI i) 27 := vp_in_nI h27 (by decide)
  have a8' : a_queueSize (nI i).toNatClampNeg = nI q.length := by rw [hcl]; exact a8
  intro e
  induction e with
  | zero =>
    intro j hj
    have hj' : j = q.length := by omega
    subst hj'
    rw [List.take_length]
    exact ⟨hin, br_t (by rw [a8']; exact nI_le (by omega) (by omega)) ⟨hin, H1, H2⟩⟩
  | succ e ih =>
    intro j hj
    have hjl : j < q.length := by omega
    obtain ⟨x, hx⟩ : ∃ x, q[j]? = some x := ⟨q[j], List.getElem?_eq_getElem hjl⟩
    have hm : x ∈ q := List.mem_of_getElem? hx
    have e1 : nI (8 * i) + nI j = nI (8 * i + j) := nI_add _ _
    have c1 : (nI (8 * i) + nI j).toNatClampNeg = 8 * i + j := by rw [e1]; exact nI_clamp (by omega)
    have hdv : a_queueDue (nI (8 * i) + nI j).toNatClampNeg = dI x.2 := by rw [c1]; exact (a10 j x hx).2
    refine ⟨hin, br_f (by rw [a8']; exact nI_ge (by omega) (by omega)) ⟨by rw [e1]; exact vp_in_nI (by omega) (by decide), ?_⟩⟩
    have hih := ih (j + 1) (by omega)
    rw [xf_rd_s hx] at hih
    by_cases hh : x.2 = t
    · rw [if_pos hh] at hih
      exact br_t (by rw [hdv, ht, xd_dI (o5 x hm) (by omega) h1t]; exact hh) (nm_r (nI_1 _) (nm_r (nI_1 _) hih))
    · rw [if_neg hh, Nat.add_zero] at hih
      exact br_f (by rw [hdv, ht, xd_dI (o5 x hm) (by omega) h1t]; exact hh) (nm_r (nI_1 _) hih)
/-- the pushing loop -/
theorem xf_psh {post : SX → Prop} {i g : Nat} {q : List (Int32 × Nat)} {R : List Tk} (h27 : i < 27) (a9 : q.length ≤ 8) (hg : g ≤ q.length) (a10 : ∀ j e, q[j]? = some e → a_queueValue (8 * i + j) = e.1 ∧ a_queueDue (8 * i + j) = dI e.2) (hl : R.length + 8 ≤ 128)
    (H : ∀ (tk : Int32) (tw tp tv : Nat → Int32), tk = nI (ots i ((q.take g).map (fun e => (1, e.1))) ++ R).length → rps tw tp tv (ots i ((q.take g).map (fun e => (1, e.1))) ++ R) → wpX_dropFromQueue post (f_time, f_sent, f_stageCount, tk, a_sourceEnded, a_stageKind, a_stageA, a_stageB, a_stageParts, a_partStage, a_partUser, a_partX, a_partY, a_phase, a_beganAfter, a_due, a_count, a_held, a_heldY, a_hasHeld, a_hasHeldY, a_queueSize, a_queueIsOfX, a_queueValue, a_queueDue, a_subStatus, a_subCode, a_subEnd, a_subDemand, a_subRequests, a_subDelivered, a_subWaiting, a_waitValue, a_history, tw, tp, tv) (nI i) (nI g)) :
    ∀ (m : Nat) (tk : Int32) (tw tp tv : Nat → Int32), m ≤ g → tk = nI (ots i (((q.take g).drop m).map (fun e => (1, e.1))) ++ R).length → rps tw tp tv (ots i (((q.take g).drop m).map (fun e => (1, e.1))) ++ R) → wX_releaseDelayed_71 post (nI i) (nI (8 * i)) (nI g) (m + 1) (nI m - 1) f_time f_sent f_stageCount (tk) a_sourceEnded a_stageKind a_stageA a_stageB a_stageParts a_partStage a_partUser a_partX a_partY a_phase a_beganAfter a_due a_count a_held a_heldY a_hasHeld a_hasHeldY a_queueSize a_queueIsOfX a_queueValue a_queueDue a_subStatus a_subCode a_subEnd a_subDemand a_subRequests a_subDelivered a_subWaiting a_waitValue a_history (tw) (tp) (tv) := by
  intro m
  induction m with
  | zero =>
    intro tk tw tp tv hm h1 h2
    refine br_t (by decide) ?_
    exact H tk tw tp tv h1 h2
  | succ m ih =>
    intro tk tw tp tv hm h1 h2
    have hmq : m < q.length := by omega
    obtain ⟨x, hx⟩ : ∃ x, q[m]? = some x := ⟨q[m], List.getElem?_eq_getElem hmq⟩
    have hdr : (q.take g).drop m = x :: (q.take g).drop (m + 1) := by
      have hx2 : (q.take g)[m]? = some x := by rw [List.getElem?_take_of_lt (by omega)]; exact hx
      obtain ⟨hlt, hv⟩ := List.getElem?_eq_some_iff.mp hx2
      rw [List.drop_eq_getElem_cons hlt, hv]
    have e0 : nI (m + 1) - 1 = nI m := nI_pred m
    have e1 : nI (8 * i) + (nI (m + 1) - 1) = nI (8 * i + m) := by rw [e0]; exact nI_add _ _
    have c1 : (nI (8 * i) + (nI (m + 1) - 1)).toNatClampNeg = 8 * i + m := by rw [e1]; exact nI_clamp (by omega)
    have hlen : (ots i (((q.take g).drop (m + 1)).map (fun e => (1, e.1))) ++ R).length < 128 := by
      simp [ots]; omega
    refine br_f (by rw [e0]; exact nI_pos (by omega)) ⟨by rw [e1]; exact vp_in_nI (by omega) (by decide), ?_⟩
    rw [show a_queueValue (nI (8 * i) + (nI (m + 1) - 1)).toNatClampNeg = x.1 from by rw [c1]; exact (a10 m x hx).1]
    refine xw_push h1 hlen (nm_r (e' := nI m - 1) (by rw [e0, Int32.sub_eq_add_neg]) ?_)
    refine ih _ _ _ _ (by omega) ?_ ?_
    · rw [hdr]; rfl
    · rw [hdr]; exact xd_rps_push (w := 1) h2
theorem xf_11 {post : SX → Prop} {i t s d c : Nat} {a b h hy : Int32} {f fy qx ox oy : Bool} {q : List (Int32 × Nat)} {R : List Tk} (hx : HA f_time a_partStage a_stageKind a_stageA a_stageB i t s 11 a b) (h1t : 1 ≤ t) (hS : RepA a_due a_count a_held a_heldY a_hasHeld a_hasHeldY a_queueSize a_queueIsOfX a_queueValue a_queueDue i (d, c, h, hy, f, fy, qx, q, ox, oy)) (ok : okS 11 b (d, c, h, hy, f, fy, qx, q, ox, oy)) (hT : f_tasks = nI R.length) (hR : rps a_taskWhat a_taskPart a_taskValue R) (hl : R.length + 9 ≤ 128) (H : ∀ u', Eff (f_time, f_sent, f_stageCount, f_tasks, a_sourceEnded, a_stageKind, a_stageA, a_stageB, a_stageParts, a_partStage, a_partUser, a_partX, a_partY, a_phase, a_beganAfter, a_due, a_count, a_held, a_heldY, a_hasHeld, a_hasHeldY, a_queueSize, a_queueIsOfX, a_queueValue, a_queueDue, a_subStatus, a_subCode, a_subEnd, a_subDemand, a_subRequests, a_subDelivered, a_subWaiting, a_waitValue, a_history, a_taskWhat, a_taskPart, a_taskValue) u' i (fi 11 a b t (d, c, h, hy, f, fy, qx, q, ox, oy)).1 (fi 11 a b t (d, c, h, hy, f, fy, qx, q, ox, oy)).2 R → post u') : wpX_fireTimer post (f_time, f_sent, f_stageCount, f_tasks, a_sourceEnded, a_stageKind, a_stageA, a_stageB, a_stageParts, a_partStage, a_partUser, a_partX, a_partY, a_phase, a_beganAfter, a_due, a_count, a_held, a_heldY, a_hasHeld, a_hasHeldY, a_queueSize, a_queueIsOfX, a_queueValue, a_queueDue, a_subStatus, a_subCode, a_subEnd, a_subDemand, a_subRequests, a_subDelivered, a_subWaiting, a_waitValue, a_history, a_taskWhat, a_taskPart, a_taskValue) (nI i) := by
  obtain ⟨h27, ht, ht2, hps, hs, hk, ha, hb, ho⟩ := hx
  have hS0 := hS
  obtain ⟨a1, a2, a3, a4, a5, a6, a7, a8, a9, a10⟩ := hS
  have hcl : (nI i).toNatClampNeg = i := nI_clamp (by omega)
  have hcs : (nI s).toNatClampNeg = s := nI_clamp (by omega)
  have hin : vp_in (nI i) 27 := vp_in_nI h27 (by decide)
  have his : vp_in (nI s) 12 := vp_in_nI hs (by decide)
  have hps' : a_partStage (nI i).toNatClampNeg = nI s := by rw [hcl]; exact hps
  have ht' : f_time = nI t := ht
  have a1' : a_due (nI i).toNatClampNeg = dI d := by rw [hcl]; exact a1
  have a2' : a_count (nI i).toNatClampNeg = nI c := by rw [hcl]; exact a2
  have a3' : a_held (nI i).toNatClampNeg = h := by rw [hcl]; exact a3
  have a5' : a_hasHeld (nI i).toNatClampNeg = bI f := by rw [hcl]; exact a5
  have hd : d < 1000 := ok.1
  have o5 := ok.2.2.2.2.1
  have hgl : rdy t q ≤ q.length := xf_rd_le t q
  have efi : fi 11 a b t (d, c, h, hy, f, fy, qx, q, ox, oy) = ((d, c, h, hy, f, fy, qx, q.drop (rdy t q), ox, oy), (q.take (rdy t q)).map (fun e => (1, e.1)) ++ if d = t then [(2, 0)] else []) := rfl
  rw [efi] at H
  refine ⟨hin, nm_r (e' := nI s) hps' ⟨his, br_t (by rw [hcs]; exact hk) ?_⟩⟩
  refine nm_r (e' := nI (8 * i)) (by rw [show (8 : Int32) = nI 8 from rfl, pk_mul, Nat.mul_comm]) ⟨q.length + 1, ?_⟩
  have drp : ∀ (R' : List Tk), ots i ((q.take (rdy t q)).map (fun e => (1, e.1))) ++ R' = ots i ((q.take (rdy t q)).map (fun e => (1, e.1)) ++ if d = t then [(2, 0)] else []) ++ R → R'.length + 8 ≤ 128 → ∀ (tk : Int32) (tw tp tv : Nat → Int32), tk = nI R'.length → rps tw tp tv R' → ∃ n71 : Nat, wX_releaseDelayed_71 (fun u => match u with | (f_time, f_sent, f_stageCount, f_tasks, a_sourceEnded, a_stageKind, a_stageA, a_stageB, a_stageParts, a_partStage, a_partUser, a_partX, a_partY, a_phase, a_beganAfter, a_due, a_count, a_held, a_heldY, a_hasHeld, a_hasHeldY, a_queueSize, a_queueIsOfX, a_queueValue, a_queueDue, a_subStatus, a_subCode, a_subEnd, a_subDemand, a_subRequests, a_subDelivered, a_subWaiting, a_waitValue, a_history, a_taskWhat, a_taskPart, a_taskValue) => post (f_time, f_sent, f_stageCount, f_tasks, a_sourceEnded, a_stageKind, a_stageA, a_stageB, a_stageParts, a_partStage, a_partUser, a_partX, a_partY, a_phase, a_beganAfter, a_due, a_count, a_held, a_heldY, a_hasHeld, a_hasHeldY, a_queueSize, a_queueIsOfX, a_queueValue, a_queueDue, a_subStatus, a_subCode, a_subEnd, a_subDemand, a_subRequests, a_subDelivered, a_subWaiting, a_waitValue, a_history, a_taskWhat, a_taskPart, a_taskValue)) (nI i) (nI (8 * i)) (nI (rdy t q)) n71 (nI (rdy t q) - 1) f_time f_sent f_stageCount (tk) a_sourceEnded a_stageKind a_stageA a_stageB a_stageParts a_partStage a_partUser a_partX a_partY a_phase a_beganAfter a_due a_count a_held a_heldY a_hasHeld a_hasHeldY a_queueSize a_queueIsOfX a_queueValue a_queueDue a_subStatus a_subCode a_subEnd a_subDemand a_subRequests a_subDelivered a_subWaiting a_waitValue a_history (tw) (tp) (tv) := by
    intro R' hR' hl' tk tw tp tv h1 h2
    have hnil : ((q.take (rdy t q)).drop (rdy t q)) = [] := by
      rw [List.drop_eq_nil_iff]; simp; omega
    refine ⟨rdy t q + 1, xf_psh h27 a9 hgl a10 hl' (fun tk tw tp tv g1 g2 => ?_) (rdy t q) tk tw tp tv (Nat.le_refl _) (by rw [hnil]; exact h1) (by rw [hnil]; exact h2)⟩
    refine xh_drop h27 a9 hgl a8 (fun qv' qd' k1 k2 => ?_)
    rw [hR'] at g1 g2
    refine H _ (xe_eff ?_ (fun j hj S hS => xd_frame hS rfl rfl rfl rfl rfl rfl (pk_un hj) rfl (fun r hr => k2 j hj r hr)) g1 g2)
    refine ⟨a1, a2, a3, a4, a5, a6, fun ⟨e, he, h0⟩ => a7 ⟨e, List.mem_of_mem_drop he, h0⟩, ?_, by rw [List.length_drop]; omega, fun j e he => ?_⟩
    · rw [List.length_drop]; exact pk_us
    · rw [List.getElem?_drop] at he
      have hj := xh_q0 he
      have := k1 j (by omega)
      rw [this.1, this.2, show 8 * i + j + rdy t q = 8 * i + (rdy t q + j) from by omega]
      exact a10 _ e he
  refine xf_cnt (post := fun u => match u with | (f_time, f_sent, f_stageCount, f_tasks, a_sourceEnded, a_stageKind, a_stageA, a_stageB, a_stageParts, a_partStage, a_partUser, a_partX, a_partY, a_phase, a_beganAfter, a_due, a_count, a_held, a_heldY, a_hasHeld, a_hasHeldY, a_queueSize, a_queueIsOfX, a_queueValue, a_queueDue, a_subStatus, a_subCode, a_subEnd, a_subDemand, a_subRequests, a_subDelivered, a_subWaiting, a_waitValue, a_history, a_taskWhat, a_taskPart, a_taskValue) => post (f_time, f_sent, f_stageCount, f_tasks, a_sourceEnded, a_stageKind, a_stageA, a_stageB, a_stageParts, a_partStage, a_partUser, a_partX, a_partY, a_phase, a_beganAfter, a_due, a_count, a_held, a_heldY, a_hasHeld, a_hasHeldY, a_queueSize, a_queueIsOfX, a_queueValue, a_queueDue, a_subStatus, a_subCode, a_subEnd, a_subDemand, a_subRequests, a_subDelivered, a_subWaiting, a_waitValue, a_history, a_taskWhat, a_taskPart, a_taskValue)) h27 ht' ht2 h1t a8 a9 a10 o5 (fun hdt => ?_) (fun hdt => ?_) q.length 0 (by omega)
  · rw [a1', ht', xd_dI hd (by omega) h1t] at hdt
    refine xw_push hT (by omega) (nm_e ?_)
    refine drp ((2, i, 0) :: R) ?_ (by simp; omega) _ _ _ _ rfl (xd_rps_push (w := 2) hR)
    rw [if_pos hdt]
    simp [ots]
  · rw [a1', ht', xd_dI hd (by omega) h1t] at hdt
    refine nm_e ?_
    refine drp R ?_ (by omega) _ _ _ _ hT hR
    rw [if_neg hdt]
    simp [ots]
end
