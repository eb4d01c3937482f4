/-! ===== the loops over parts and subscriptions ===== -/
def FO (id : Nat) (u u' : SX) : Prop :=
  x_st2 u' = x_st2 u ∧ (∀ j, 9 * id ≤ j → j < 9 * id + 9 → (∀ S, RepP u j S → RepP u' j S) ∧ x_phase u' j = x_phase u j ∧ x_beganAfter u' j = x_beganAfter u j) ∧ (∀ s, RepU u id s → RepU u' id s) ∧ RepS u' []
theorem xo_of {E : EnvP} {id : Nat} {u u' : SX} (hT : TR E) (hne : id ≠ e_id E) (h : FR E 0 u u') (hS : RepS u' []) : FO id u u' := by
  have h9 := hT.2.2.1
  refine ⟨h.1, fun j h1 h2 => ?_, fun s hs => h.2.2.2 id hne s hs, hS⟩
  have hj : j < 9 * e_id E ∨ 9 * e_id E + e_n E ≤ j := by omega
  exact ⟨fun S hS => h.2.1 j hj S hS, h.2.2.1 j hj⟩
theorem xo_rst {E : EnvP} {u u' : SX} {H : Nat → List Ev} {F : Nat → Nat} {bg : Nat → Bool} (hT : TR E) (h : RST E u H F bg) (hf : FO (e_id E) u u') : RST E u' H F bg := by
  obtain ⟨hI, hC, hS, hD, hC2, hroot, hCW⟩ := h
  obtain ⟨i1, i2, i3, i4, i5, i6, i7, i8, i9, i10⟩ := hI
  obtain ⟨f1, f2, f3, f4⟩ := hf
  have h9 := hT.2.2.1
  have hab : ∀ q, q < e_n E → 9 * e_id E ≤ ab E q ∧ ab E q < 9 * e_id E + 9 := fun q hq => by unfold ab; omega
  refine ⟨⟨by rw [f1]; exact i1, fun q hq => by rw [(f2 _ (hab q hq).1 (hab q hq).2).2.1]; exact i2 q hq, i3, i4, ⟨i5.1, f3 _ i5.2⟩, i6, i7, i8, fun q hq hb => by rw [(f2 _ (hab q hq).1 (hab q hq).2).2.2]; exact i9 q hq hb, by rw [ca_sent f1]; exact i10⟩, fun q hq => ?_, f4, hD, hC2, hroot, hCW⟩
  have hc := hC q hq
  have hr := (f2 _ (hab q hq).1 (hab q hq).2).1
  exact ⟨fun hb => ⟨(hc.1 hb).1, fun hf => ⟨hr _ ((hc.1 hb).2 hf).1, ((hc.1 hb).2 hf).2⟩⟩, fun hb => hr _ (hc.2 hb)⟩
theorem xo_inner {post : SX → Prop} {J : Int32 → Int32 → Int32 → Int32 → Int32 → (Nat → Int32) → (Nat → Int32) → (Nat → Int32) → (Nat → Int32) → (Nat → Int32) → (Nat → Int32) → (Nat → Int32) → (Nat → Int32) → (Nat → Int32) → (Nat → Int32) → (Nat → Int32) → (Nat → Int32) → (Nat → Int32) → (Nat → Int32) → (Nat → Int32) → (Nat → Int32) → (Nat → Int32) → (Nat → Int32) → (Nat → Int32) → (Nat → Int32) → (Nat → Int32) → (Nat → Int32) → (Nat → Int32) → (Nat → Int32) → (Nat → Int64) → (Nat → Int32) → (Nat → Int32) → (Nat → Int32) → (Nat → Int32) → (Nat → Int64) → (Nat → Int32) → (Nat → Int32) → (Nat → Int32) → Prop} {id : Nat} (hid : id < 3) (P : Nat → SX → Prop)
    (hgo : ∀ m u, m < 9 → P m u → x_subStatus u id = 0 → x_phase u (9 * id + m) = 1 → ∀ pst : SX → Prop, (∀ u', P (m + 1) u' → pst u') → wpX_fireTimer (fun u1 => match u1 with | (f_time, f_sent, f_stageCount, f_tasks, a_sourceEnded, a_stageKind, a_stageA, a_stageB, a_stageParts, a_partStage, a_partUser, a_partX, a_partY, a_phase, a_beganAfter, a_due, a_count, a_held, a_heldY, a_hasHeld, a_hasHeldY, a_queueSize, a_queueIsOfX, a_queueValue, a_queueDue, a_subStatus, a_subCode, a_subEnd, a_subDemand, a_subRequests, a_subDelivered, a_subWaiting, a_waitValue, a_history, a_taskWhat, a_taskPart, a_taskValue) => wpX_runTasks pst (f_time, f_sent, f_stageCount, f_tasks, a_sourceEnded, a_stageKind, a_stageA, a_stageB, a_stageParts, a_partStage, a_partUser, a_partX, a_partY, a_phase, a_beganAfter, a_due, a_count, a_held, a_heldY, a_hasHeld, a_hasHeldY, a_queueSize, a_queueIsOfX, a_queueValue, a_queueDue, a_subStatus, a_subCode, a_subEnd, a_subDemand, a_subRequests, a_subDelivered, a_subWaiting, a_waitValue, a_history, a_taskWhat, a_taskPart, a_taskValue) (nI id)) u (nI (9 * id + m)))
    (hno : ∀ m u, m < 9 → P m u → ¬ (x_subStatus u id = 0 ∧ x_phase u (9 * id + m) = 1) → P (m + 1) u) :
    ∀ (e m : Nat) (u : SX), m + e = 9 → P m u → (∀ u', P 9 u' → J (nI (id + 1)) (x_time u') (x_sent u') (x_stageCount u') (x_tasks u') (x_sourceEnded u') (x_stageKind u') (x_stageA u') (x_stageB u') (x_stageParts u') (x_partStage u') (x_partUser u') (x_partX u') (x_partY u') (x_phase u') (x_beganAfter u') (x_due u') (x_count u') (x_held u') (x_heldY u') (x_hasHeld u') (x_hasHeldY u') (x_queueSize u') (x_queueIsOfX u') (x_queueValue u') (x_queueDue u') (x_subStatus u') (x_subCode u') (x_subEnd u') (x_subDemand u') (x_subRequests u') (x_subDelivered u') (x_subWaiting u') (x_waitValue u') (x_history u') (x_taskWhat u') (x_taskPart u') (x_taskValue u')) → wX_runTimers_9 post J (nI id) (e + 1) (nI m) (x_time u) (x_sent u) (x_stageCount u) (x_tasks u) (x_sourceEnded u) (x_stageKind u) (x_stageA u) (x_stageB u) (x_stageParts u) (x_partStage u) (x_partUser u) (x_partX u) (x_partY u) (x_phase u) (x_beganAfter u) (x_due u) (x_count u) (x_held u) (x_heldY u) (x_hasHeld u) (x_hasHeldY u) (x_queueSize u) (x_queueIsOfX u) (x_queueValue u) (x_queueDue u) (x_subStatus u) (x_subCode u) (x_subEnd u) (x_subDemand u) (x_subRequests u) (x_subDelivered u) (x_subWaiting u) (x_waitValue u) (x_history u) (x_taskWhat u) (x_taskPart u) (x_taskValue u) := by
  have hcl : (nI id).toNatClampNeg = id := nI_clamp (by omega)
  have hin : vp_in (nI id) 3 := vp_in_nI hid (by decide)
  intro e
  induction e with
  | zero =>
    intro m u hm hP K
    have : m = 9 := by omega
    subst this
    exact br_t (by decide) (nm_r (nI_1 id) (K u hP))
  | succ e ih =>
    intro m u hm hP K
    have e3 : nI id * 9 + nI m = nI (9 * id + m) := by rw [show (9 : Int32) = nI 9 from rfl, pk_mul, nI_add, Nat.mul_comm]
    have hc3 : (nI (9 * id + m)).toNatClampNeg = 9 * id + m := nI_clamp (by omega)
    refine br_f (nI_ge (b := 9) (by omega) (by decide)) (nm_r e3 ⟨hin, ?_⟩)
    by_cases hs : x_subStatus u id = 0
    · refine br_t (by rw [hcl]; exact hs) ⟨vp_in_nI (by omega) (by decide), ?_⟩
      by_cases hp : x_phase u (9 * id + m) = 1
      · refine br_t (by rw [hc3]; exact hp) ?_
        have := hgo m u (by omega) hP hs hp (fun u2 => match u2 with | (f_time, f_sent, f_stageCount, f_tasks, a_sourceEnded, a_stageKind, a_stageA, a_stageB, a_stageParts, a_partStage, a_partUser, a_partX, a_partY, a_phase, a_beganAfter, a_due, a_count, a_held, a_heldY, a_hasHeld, a_hasHeldY, a_queueSize, a_queueIsOfX, a_queueValue, a_queueDue, a_subStatus, a_subCode, a_subEnd, a_subDemand, a_subRequests, a_subDelivered, a_subWaiting, a_waitValue, a_history, a_taskWhat, a_taskPart, a_taskValue) => ∀ x : Int32, x = nI m + 1 → wX_runTimers_9 post J (nI id) (e + 1) x f_time f_sent f_stageCount f_tasks a_sourceEnded a_stageKind a_stageA a_stageB a_stageParts a_partStage a_partUser a_partX a_partY a_phase a_beganAfter a_due a_count a_held a_heldY a_hasHeld a_hasHeldY a_queueSize a_queueIsOfX a_queueValue a_queueDue a_subStatus a_subCode a_subEnd a_subDemand a_subRequests a_subDelivered a_subWaiting a_waitValue a_history a_taskWhat a_taskPart a_taskValue) (fun u' hP' => by
          have h2 := ih (m + 1) u' (by omega) hP' K
          obtain ⟨f_time, f_sent, f_stageCount, f_tasks, a_sourceEnded, a_stageKind, a_stageA, a_stageB, a_stageParts, a_partStage, a_partUser, a_partX, a_partY, a_phase, a_beganAfter, a_due, a_count, a_held, a_heldY, a_hasHeld, a_hasHeldY, a_queueSize, a_queueIsOfX, a_queueValue, a_queueDue, a_subStatus, a_subCode, a_subEnd, a_subDemand, a_subRequests, a_subDelivered, a_subWaiting, a_waitValue, a_history, a_taskWhat, a_taskPart, a_taskValue⟩ := u'
          exact nm_r (nI_1 m) h2)
        obtain ⟨f_time, f_sent, f_stageCount, f_tasks, a_sourceEnded, a_stageKind, a_stageA, a_stageB, a_stageParts, a_partStage, a_partUser, a_partX, a_partY, a_phase, a_beganAfter, a_due, a_count, a_held, a_heldY, a_hasHeld, a_hasHeldY, a_queueSize, a_queueIsOfX, a_queueValue, a_queueDue, a_subStatus, a_subCode, a_subEnd, a_subDemand, a_subRequests, a_subDelivered, a_subWaiting, a_waitValue, a_history, a_taskWhat, a_taskPart, a_taskValue⟩ := u
        exact this
      · exact br_f (by rw [hc3]; exact hp) (nm_r (nI_1 m) (ih (m + 1) u (by omega) (hno m u (by omega) hP (fun z => hp z.2)) K))
    · exact br_f (by rw [hcl]; exact hs) (nm_r (nI_1 m) (ih (m + 1) u (by omega) (hno m u (by omega) hP (fun z => hs z.1)) K))
theorem xo_outer {post : SX → Prop} (Q : Nat → SX → Prop)
    (hin : ∀ id u, id < 3 → Q id u → ∀ J : Int32 → Int32 → Int32 → Int32 → Int32 → (Nat → Int32) → (Nat → Int32) → (Nat → Int32) → (Nat → Int32) → (Nat → Int32) → (Nat → Int32) → (Nat → Int32) → (Nat → Int32) → (Nat → Int32) → (Nat → Int32) → (Nat → Int32) → (Nat → Int32) → (Nat → Int32) → (Nat → Int32) → (Nat → Int32) → (Nat → Int32) → (Nat → Int32) → (Nat → Int32) → (Nat → Int32) → (Nat → Int32) → (Nat → Int32) → (Nat → Int32) → (Nat → Int32) → (Nat → Int32) → (Nat → Int64) → (Nat → Int32) → (Nat → Int32) → (Nat → Int32) → (Nat → Int32) → (Nat → Int64) → (Nat → Int32) → (Nat → Int32) → (Nat → Int32) → Prop, (∀ u', Q (id + 1) u' → J (nI (id + 1)) (x_time u') (x_sent u') (x_stageCount u') (x_tasks u') (x_sourceEnded u') (x_stageKind u') (x_stageA u') (x_stageB u') (x_stageParts u') (x_partStage u') (x_partUser u') (x_partX u') (x_partY u') (x_phase u') (x_beganAfter u') (x_due u') (x_count u') (x_held u') (x_heldY u') (x_hasHeld u') (x_hasHeldY u') (x_queueSize u') (x_queueIsOfX u') (x_queueValue u') (x_queueDue u') (x_subStatus u') (x_subCode u') (x_subEnd u') (x_subDemand u') (x_subRequests u') (x_subDelivered u') (x_subWaiting u') (x_waitValue u') (x_history u') (x_taskWhat u') (x_taskPart u') (x_taskValue u')) → wX_runTimers_9 post J (nI id) 10 0 (x_time u) (x_sent u) (x_stageCount u) (x_tasks u) (x_sourceEnded u) (x_stageKind u) (x_stageA u) (x_stageB u) (x_stageParts u) (x_partStage u) (x_partUser u) (x_partX u) (x_partY u) (x_phase u) (x_beganAfter u) (x_due u) (x_count u) (x_held u) (x_heldY u) (x_hasHeld u) (x_hasHeldY u) (x_queueSize u) (x_queueIsOfX u) (x_queueValue u) (x_queueDue u) (x_subStatus u) (x_subCode u) (x_subEnd u) (x_subDemand u) (x_subRequests u) (x_subDelivered u) (x_subWaiting u) (x_waitValue u) (x_history u) (x_taskWhat u) (x_taskPart u) (x_taskValue u)) (u : SX) (h : Q 0 u) (K : ∀ u', Q 3 u' → post u') : wpX_runTimers post u := by
  have key : ∀ (e id : Nat) (u : SX), id + e = 3 → Q id u → wX_runTimers_2 post (e + 1) (nI id) (x_time u) (x_sent u) (x_stageCount u) (x_tasks u) (x_sourceEnded u) (x_stageKind u) (x_stageA u) (x_stageB u) (x_stageParts u) (x_partStage u) (x_partUser u) (x_partX u) (x_partY u) (x_phase u) (x_beganAfter u) (x_due u) (x_count u) (x_held u) (x_heldY u) (x_hasHeld u) (x_hasHeldY u) (x_queueSize u) (x_queueIsOfX u) (x_queueValue u) (x_queueDue u) (x_subStatus u) (x_subCode u) (x_subEnd u) (x_subDemand u) (x_subRequests u) (x_subDelivered u) (x_subWaiting u) (x_waitValue u) (x_history u) (x_taskWhat u) (x_taskPart u) (x_taskValue u) := by
    intro e
    induction e with
    | zero =>
      intro id u hi hQ
      have : id = 3 := by omega
      subst this
      have h2 := K u hQ
      obtain ⟨f_time, f_sent, f_stageCount, f_tasks, a_sourceEnded, a_stageKind, a_stageA, a_stageB, a_stageParts, a_partStage, a_partUser, a_partX, a_partY, a_phase, a_beganAfter, a_due, a_count, a_held, a_heldY, a_hasHeld, a_hasHeldY, a_queueSize, a_queueIsOfX, a_queueValue, a_queueDue, a_subStatus, a_subCode, a_subEnd, a_subDemand, a_subRequests, a_subDelivered, a_subWaiting, a_waitValue, a_history, a_taskWhat, a_taskPart, a_taskValue⟩ := u
      exact br_t (by decide) h2
    | succ e ih =>
      intro id u hi hQ
      refine br_f (nI_ge (b := 3) (by omega) (by decide)) ⟨10, ?_⟩
      exact hin id u (by omega) hQ _ (fun u' hQ' => ih (id + 1) u' (by omega) hQ')
  have h0 := key 3 0 u rfl h
  obtain ⟨f_time, f_sent, f_stageCount, f_tasks, a_sourceEnded, a_stageKind, a_stageA, a_stageB, a_stageParts, a_partStage, a_partUser, a_partX, a_partY, a_phase, a_beganAfter, a_due, a_count, a_held, a_heldY, a_hasHeld, a_hasHeldY, a_queueSize, a_queueIsOfX, a_queueValue, a_queueDue, a_subStatus, a_subCode, a_subEnd, a_subDemand, a_subRequests, a_subDelivered, a_subWaiting, a_waitValue, a_history, a_taskWhat, a_taskPart, a_taskValue⟩ := u
  exact ⟨4, h0⟩
