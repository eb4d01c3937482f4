/-! ===== the same at a state u ===== -/
theorem sv_of_ph {u u' : SX} {p q : Nat → Int32} (h : x_ph u' = (p, q)) : x_phase u' = p ∧ x_beganAfter u' = q := by
  have h1 : (x_phase u', x_beganAfter u') = (p, q) := h
  exact ⟨congrArg Prod.fst h1, congrArg Prod.snd h1⟩
theorem sw_next {post : SX → Prop} {id x : Nat} {u : SX} (hx : x < 1000000) (h : Wr post id (x + 1) u) : wX_runTasks_2 post (nI id) (1000000 - x) (nI (x + 1)) (x_time u) (x_sent u) (x_stageCount u) (x_tasks u) (x_sourceEnded u) (x_stageKind u) (x_stageA u) (x_stageB u) (x_stageParts u) (x_partStage u) (x_partUser u) (x_partX u) (x_partY u) (x_phase u) (x_beganAfter u) (x_due u) (x_count u) (x_held u) (x_heldY u) (x_hasHeld u) (x_hasHeldY u) (x_queueSize u) (x_queueIsOfX u) (x_queueValue u) (x_queueDue u) (x_subStatus u) (x_subCode u) (x_subEnd u) (x_subDemand u) (x_subRequests u) (x_subDelivered u) (x_subWaiting u) (x_waitValue u) (x_history u) (x_taskWhat u) (x_taskPart u) (x_taskValue u) := by
  have e : 1000001 - (x + 1) = 1000000 - x := by omega
  unfold Wr at h
  rw [e] at h
  exact h
theorem sw_ev {post : SX → Prop} {id x w i zi t s k xi yi : Nat} {a b v : Int32} {sd : Bool} {P : PSt} {R : List Tk} {u : SX} (hx : x < 1000000) (hi27 : i < 27) (hz27 : zi < 27) (hw : 1 ≤ w) (hw3 : w ≤ 3) (hS : RepS u ((w, i, v) :: R)) (hl : R.length + 2 ≤ 128)
    (hu : HU i (nI zi) (x_st2 u)) (hz : HZ zi t s k a b (x_st2 u)) (hC : HC zi xi yi k (x_st2 u)) (h3 : 3 ≤ k) (hs : i = if sd = true then xi else yi) (hsd : k < 16 → sd = true) (hzi : zi ≠ i) (hph : x_phase u zi = 1)
    (hot : 16 ≤ k → k < 19 → (x_phase u (if sd = true then yi else xi) = 2 ↔ (if sd = true then P.2.2.2.2.2.2.2.2.2 else P.2.2.2.2.2.2.2.2.1) = true))
    (hP : RepP u zi P) (ok : okS k b P)
    (K : ∀ u', EffH u u' zi (hear k b t sd w v P).1 (hear k b t sd w v P).2 ((if bgn k w sd = true then [(0, yi, 0)] else []) ++ R) (if w = 1 then x_phase u else upd (x_phase u) i 2) → Wr post id (x + 1) u') : Wr post id x u := by
  obtain ⟨f_time, f_sent, f_stageCount, f_tasks, a_sourceEnded, a_stageKind, a_stageA, a_stageB, a_stageParts, a_partStage, a_partUser, a_partX, a_partY, a_phase, a_beganAfter, a_due, a_count, a_held, a_heldY, a_hasHeld, a_hasHeldY, a_queueSize, a_queueIsOfX, a_queueValue, a_queueDue, a_subStatus, a_subCode, a_subEnd, a_subDemand, a_subRequests, a_subDelivered, a_subWaiting, a_waitValue, a_history, a_taskWhat, a_taskPart, a_taskValue⟩ := u
  have hSt := xe_stk hS
  have hC' := xg_of_HC hC
  have hph1 : a_phase zi = 1 := hph
  have hot1 : 16 ≤ k → k < 19 → (a_phase (if sd = true then yi else xi) = 2 ↔ (if sd = true then P.2.2.2.2.2.2.2.2.2 else P.2.2.2.2.2.2.2.2.1) = true) := hot
  refine st_pop hx hw hw3 hi27 (by omega) hSt.1 hSt.2 ?_
  refine st_83 hi27 hz27 hw hw3 (xg_of_HU hu) (xg_of_HZ hz) hC' h3 hs hsd ?_ ?_ (xe_rep hP) ok rfl hSt.2.2.2.2 hl (fun u' he => sw_next hx (K u' ?_))
  · by_cases h1 : w = 1
    · rw [if_pos h1]; exact hph1
    · rw [if_neg h1, pk_un hzi]; exact hph1
  · intro g1 g2
    by_cases h1 : w = 1
    · rw [if_pos h1]; exact hot1 g1 g2
    · have hne : (if sd = true then yi else xi) ≠ i := by
        have := (hC'.2 g1).2.2
        rw [hs]
        cases sd
        · rw [if_neg (by decide), if_neg (by decide)]; exact this
        · rw [if_pos rfl, if_pos rfl]; exact fun z => this z.symm
      rw [if_neg h1, pk_un hne]; exact hot1 g1 g2
  · obtain ⟨z1, z2, z3, z4, z5, z6⟩ := he
    have z3' := sv_of_ph (u := u') (z3.trans xe_ph)
    exact ⟨z1.trans (xe_st2.trans xe_st2.symm), z2.trans (xe_sub.trans xe_sub.symm), z3'.1, z3'.2, z4, fun j hj S hS => z5 j hj S (xe_rep' (xe_rep hS)), z6⟩
/-- nothing but popping (and the end of part i) -/
def EffN (u u' : SX) (R : List Tk) (ph : Nat → Int32) : Prop :=
  x_st2 u' = x_st2 u ∧ x_sub u' = x_sub u ∧ x_phase u' = ph ∧ x_beganAfter u' = x_beganAfter u ∧ (∀ j, ∀ S, RepP u j S → RepP u' j S) ∧ RepS u' R
theorem sw_evn {post : SX → Prop} {id x w i zi : Nat} {v : Int32} {R : List Tk} {u : SX} (hx : x < 1000000) (hi27 : i < 27) (hz27 : zi < 27) (hw : 1 ≤ w) (hw3 : w ≤ 3) (hS : RepS u ((w, i, v) :: R)) (hl : R.length + 2 ≤ 128)
    (hu : HU i (nI zi) (x_st2 u)) (hzi : zi ≠ i) (hph : ¬ x_phase u zi = 1)
    (K : ∀ u', EffN u u' R (if w = 1 then x_phase u else upd (x_phase u) i 2) → Wr post id (x + 1) u') : Wr post id x u := by
  obtain ⟨f_time, f_sent, f_stageCount, f_tasks, a_sourceEnded, a_stageKind, a_stageA, a_stageB, a_stageParts, a_partStage, a_partUser, a_partX, a_partY, a_phase, a_beganAfter, a_due, a_count, a_held, a_heldY, a_hasHeld, a_hasHeldY, a_queueSize, a_queueIsOfX, a_queueValue, a_queueDue, a_subStatus, a_subCode, a_subEnd, a_subDemand, a_subRequests, a_subDelivered, a_subWaiting, a_waitValue, a_history, a_taskWhat, a_taskPart, a_taskValue⟩ := u
  have hSt := xe_stk hS
  have hph1 : ¬ a_phase zi = 1 := hph
  refine st_pop hx hw hw3 hi27 (by omega) hSt.1 hSt.2 ?_
  refine st_83n hi27 hz27 (xg_of_HU hu) ?_ (sw_next (u := (f_time, f_sent, f_stageCount, nI R.length, a_sourceEnded, a_stageKind, a_stageA, a_stageB, a_stageParts, a_partStage, a_partUser, a_partX, a_partY, if w = 1 then a_phase else upd a_phase i 2, a_beganAfter, a_due, a_count, a_held, a_heldY, a_hasHeld, a_hasHeldY, a_queueSize, a_queueIsOfX, a_queueValue, a_queueDue, a_subStatus, a_subCode, a_subEnd, a_subDemand, a_subRequests, a_subDelivered, a_subWaiting, a_waitValue, a_history, a_taskWhat, a_taskPart, a_taskValue)) hx (K _ ⟨xe_st2.trans xe_st2.symm, xe_sub.trans xe_sub.symm, rfl, rfl, fun j S hS => xe_rep' (xe_rep hS), xe_stk' rfl hSt.2.2.2.2⟩))
  by_cases h1 : w = 1
  · rw [if_pos h1]; exact hph1
  · rw [if_neg h1, pk_un hzi]; exact hph1
/-- the root says -/
def EffR (u u' : SX) (id : Nat) (s' : Sb) (R : List Tk) (ph : Nat → Int32) : Prop :=
  x_st2 u' = x_st2 u ∧ x_phase u' = ph ∧ x_beganAfter u' = x_beganAfter u ∧ (∀ j, ∀ S, RepP u j S → RepP u' j S) ∧ RepU u' id s' ∧ (∀ j, j ≠ id → ∀ s, RepU u j s → RepU u' j s) ∧ RepS u' R
theorem sv_of_pa {u u' : SX} (h : x_pa u' = x_pa u) (j : Nat) (S : PSt) (hS : RepP u j S) : RepP u' j S := by
  unfold RepP at hS ⊢
  have h1 : x_due u' = x_due u := congrArg (fun z => z.1) h
  have h2 : x_count u' = x_count u := congrArg (fun z => z.2.1) h
  have h3 : x_held u' = x_held u := congrArg (fun z => z.2.2.1) h
  have h4 : x_heldY u' = x_heldY u := congrArg (fun z => z.2.2.2.1) h
  have h5 : x_hasHeld u' = x_hasHeld u := congrArg (fun z => z.2.2.2.2.1) h
  have h6 : x_hasHeldY u' = x_hasHeldY u := congrArg (fun z => z.2.2.2.2.2.1) h
  have h7 : x_queueSize u' = x_queueSize u := congrArg (fun z => z.2.2.2.2.2.2.1) h
  have h8 : x_queueIsOfX u' = x_queueIsOfX u := congrArg (fun z => z.2.2.2.2.2.2.2.1) h
  have h9 : x_queueValue u' = x_queueValue u := congrArg (fun z => z.2.2.2.2.2.2.2.2.1) h
  have h10 : x_queueDue u' = x_queueDue u := congrArg (fun z => z.2.2.2.2.2.2.2.2.2) h
  rw [h1, h2, h3, h4, h5, h6, h7, h8, h9, h10]
  exact hS
theorem sv_of_tk {u u' : SX} (h : x_tk u' = x_tk u) (R : List Tk) (hR : RepS u R) : RepS u' R := by
  unfold RepS at hR ⊢
  have h1 : x_tasks u' = x_tasks u := congrArg (fun z => z.1) h
  have h2 : x_taskWhat u' = x_taskWhat u := congrArg (fun z => z.2.1) h
  have h3 : x_taskPart u' = x_taskPart u := congrArg (fun z => z.2.2.1) h
  have h4 : x_taskValue u' = x_taskValue u := congrArg (fun z => z.2.2.2) h
  rw [h1, h2, h3, h4]
  exact hR
def HT (t : Nat) : St2 → Prop
  | (ti, _) => ti = nI t
theorem sw_evr {post : SX → Prop} {id x w i t : Nat} {v : Int32} {R : List Tk} {u : SX} {s : Sb} (hid : id < 3) (hx : x < 1000000) (hi27 : i < 27) (hw : 1 ≤ w) (hw3 : w ≤ 3) (hS : RepS u ((w, i, v) :: R)) (hl : R.length + 2 ≤ 128)
    (hu : HU i (-1) (x_st2 u)) (ht : HT t (x_st2 u)) (hs : RepU u id s)
    (K : ∀ u', EffR u u' id (sst t w v s) R (if w = 1 then x_phase u else upd (x_phase u) i 2) → Wr post id (x + 1) u') : Wr post id x u := by
  obtain ⟨f_time, f_sent, f_stageCount, f_tasks, a_sourceEnded, a_stageKind, a_stageA, a_stageB, a_stageParts, a_partStage, a_partUser, a_partX, a_partY, a_phase, a_beganAfter, a_due, a_count, a_held, a_heldY, a_hasHeld, a_hasHeldY, a_queueSize, a_queueIsOfX, a_queueValue, a_queueDue, a_subStatus, a_subCode, a_subEnd, a_subDemand, a_subRequests, a_subDelivered, a_subWaiting, a_waitValue, a_history, a_taskWhat, a_taskPart, a_taskValue⟩ := u
  have hSt := xe_stk hS
  have ht' : f_time = nI t := ht
  refine st_pop hx hw hw3 hi27 (by omega) hSt.1 hSt.2 ?_
  refine st_83r (t := t) (s := s) hi27 hid hw hw3 (xg_of_HU hu) ht' (xe_ru hs) (fun u' he => sw_next hx (K u' ?_))
  obtain ⟨z1, z2, z3, z4, z5, z6⟩ := he
  have z2' := sv_of_ph (u := u') (z2.trans xe_ph)
  exact ⟨z1.trans (xe_st2.trans xe_st2.symm), z2'.1, z2'.2, fun j S hS => sv_of_pa z3 j S (xe_rep' (xe_rep hS)), z5, fun j hj s hs => z6 j hj s (xe_ru' (xe_ru hs)), sv_of_tk z4 _ (xe_stk' rfl hSt.2.2.2.2)⟩
theorem sw_bg {post : SX → Prop} {id x i t s k xi yi : Nat} {a b v : Int32} {R : List Tk} {u : SX} (hx : x < 1000000) (hl : R.length + 2 ≤ 128) (hS : RepS u ((0, i, v) :: R)) (hz : HZ i t s k a b (x_st2 u)) (hC : HC i xi yi k (x_st2 u)) (hP : RepP u i clr)
    (K : ∀ u', EffB u u' i (ini k a b t) (begs k i xi yi a) R → Wr post id (x + 1) u') : Wr post id x u := by
  obtain ⟨f_time, f_sent, f_stageCount, f_tasks, a_sourceEnded, a_stageKind, a_stageA, a_stageB, a_stageParts, a_partStage, a_partUser, a_partX, a_partY, a_phase, a_beganAfter, a_due, a_count, a_held, a_heldY, a_hasHeld, a_hasHeldY, a_queueSize, a_queueIsOfX, a_queueValue, a_queueDue, a_subStatus, a_subCode, a_subEnd, a_subDemand, a_subRequests, a_subDelivered, a_subWaiting, a_waitValue, a_history, a_taskWhat, a_taskPart, a_taskValue⟩ := u
  have hSt := xe_stk hS
  have hC' := xg_of_HC hC
  refine st_popB hx hl hSt.1 hSt.2 (xg_of_HZ hz) (xe_rep hP) (fun h => (hC'.1 h).1) (fun h => (hC'.2 h).1) (fun u' he => sw_next hx (K u' ?_))
  obtain ⟨z1, z2, z3, z4, z5, z6, z7⟩ := he
  exact ⟨z1.trans (xe_st2.trans xe_st2.symm), z2.trans (xe_sub.trans xe_sub.symm), z3, z4, z5, fun j hj S hS => z6 j hj S (xe_rep' (xe_rep hS)), z7⟩
theorem sw_end {post : SX → Prop} {id x : Nat} {u : SX} (hx : x ≤ 1000000) (hS : RepS u []) (H : post u) : Wr post id x u := by
  obtain ⟨f_time, f_sent, f_stageCount, f_tasks, a_sourceEnded, a_stageKind, a_stageA, a_stageB, a_stageParts, a_partStage, a_partUser, a_partX, a_partY, a_phase, a_beganAfter, a_due, a_count, a_held, a_heldY, a_hasHeld, a_hasHeldY, a_queueSize, a_queueIsOfX, a_queueValue, a_queueDue, a_subStatus, a_subCode, a_subEnd, a_subDemand, a_subRequests, a_subDelivered, a_subWaiting, a_waitValue, a_history, a_taskWhat, a_taskPart, a_taskValue⟩ := u
  exact st_end hx (xe_stk hS).1 H
theorem sw_run {post : SX → Prop} {id : Nat} {u : SX} (h : Wr post id 0 u) : wpX_runTasks post u (nI id) := by
  obtain ⟨f_time, f_sent, f_stageCount, f_tasks, a_sourceEnded, a_stageKind, a_stageA, a_stageB, a_stageParts, a_partStage, a_partUser, a_partX, a_partY, a_phase, a_beganAfter, a_due, a_count, a_held, a_heldY, a_hasHeld, a_hasHeldY, a_queueSize, a_queueIsOfX, a_queueValue, a_queueDue, a_subStatus, a_subCode, a_subEnd, a_subDemand, a_subRequests, a_subDelivered, a_subWaiting, a_waitValue, a_history, a_taskWhat, a_taskPart, a_taskValue⟩ := u
  exact ⟨1000001, h⟩
theorem sw_fire {post : SX → Prop} {i t s k : Nat} {a b : Int32} {P : PSt} {R : List Tk} {u : SX} (hz : HZ i t s k a b (x_st2 u)) (h1t : 1 ≤ t) (hP : RepP u i P) (ok : okS k b P) (hR : RepS u R) (hl : R.length + 9 ≤ 128) (H : ∀ u', Eff u u' i (fi k a b t P).1 (fi k a b t P).2 R → post u') : wpX_fireTimer post u (nI i) := by
  obtain ⟨f_time, f_sent, f_stageCount, f_tasks, a_sourceEnded, a_stageKind, a_stageA, a_stageB, a_stageParts, a_partStage, a_partUser, a_partX, a_partY, a_phase, a_beganAfter, a_due, a_count, a_held, a_heldY, a_hasHeld, a_hasHeldY, a_queueSize, a_queueIsOfX, a_queueValue, a_queueDue, a_subStatus, a_subCode, a_subEnd, a_subDemand, a_subRequests, a_subDelivered, a_subWaiting, a_waitValue, a_history, a_taskWhat, a_taskPart, a_taskValue⟩ := u
  have hSt := xe_stk hR
  exact xg_fire (xg_of_HZ hz) h1t (xe_rep hP) ok hSt.1 hSt.2 hl H
theorem sw_push {post : SX → Prop} {i w : Nat} {v : Int32} {R : List Tk} {u : SX} (hR : RepS u R) (hl : R.length < 128) (H : ∀ u', EffN u u' ((w, i, v) :: R) (x_phase u) → post u') : wpX_push post u (nI w) (nI i) v := by
  obtain ⟨f_time, f_sent, f_stageCount, f_tasks, a_sourceEnded, a_stageKind, a_stageA, a_stageB, a_stageParts, a_partStage, a_partUser, a_partX, a_partY, a_phase, a_beganAfter, a_due, a_count, a_held, a_heldY, a_hasHeld, a_hasHeldY, a_queueSize, a_queueIsOfX, a_queueValue, a_queueDue, a_subStatus, a_subCode, a_subEnd, a_subDemand, a_subRequests, a_subDelivered, a_subWaiting, a_waitValue, a_history, a_taskWhat, a_taskPart, a_taskValue⟩ := u
  have hSt := xe_stk hR
  exact xw_push hSt.1 hl (H _ ⟨xe_st2.trans xe_st2.symm, xe_sub.trans xe_sub.symm, xe_phase.trans xe_phase.symm, xe_began.trans xe_began.symm, fun j S hS => xe_rep' (xe_rep hS), xe_stk' rfl (xd_rps_push hSt.2)⟩)
