/-! ===== one step of runTasks ===== -/
def Wr (post : SX → Prop) (id x : Nat) (u : SX) : Prop := wX_runTasks_2 post (nI id) (1000001 - x) (nI x) (x_time u) (x_sent u) (x_stageCount u) (x_tasks u) (x_sourceEnded u) (x_stageKind u) (x_stageA u) (x_stageB u) (x_stageParts u) (x_partStage u) (x_partUser u) (x_partX u) (x_partY u) (x_phase u) (x_beganAfter u) (x_due u) (x_count u) (x_held u) (x_heldY u) (x_hasHeld u) (x_hasHeldY u) (x_queueSize u) (x_queueIsOfX u) (x_queueValue u) (x_queueDue u) (x_subStatus u) (x_subCode u) (x_subEnd u) (x_subDemand u) (x_subRequests u) (x_subDelivered u) (x_subWaiting u) (x_waitValue u) (x_history u) (x_taskWhat u) (x_taskPart u) (x_taskValue u)
def EffH (u u' : SX) (i : Nat) (S' : PSt) (o : Otp) (R : List Tk) (ph : Nat → Int32) : Prop :=
  x_st2 u' = x_st2 u ∧ x_sub u' = x_sub u ∧ x_phase u' = ph ∧ x_beganAfter u' = x_beganAfter u ∧ RepP u' i S' ∧ (∀ j, j ≠ i → ∀ S, RepP u j S → RepP u' j S) ∧ RepS u' (ots i o ++ R)
section
variable {f_time : Int32} {f_sent : Int32} {f_stageCount : Int32} {f_tasks : Int32} {a_sourceEnded : (Nat → Int32)} {a_stageKind : (Nat → Int32)} {a_stageA : (Nat → Int32)} {a_stageB : (Nat → Int32)} {a_stageParts : (Nat → Int32)} {a_partStage : (Nat → Int32)} {a_partUser : (Nat → Int32)} {a_partX : (Nat → Int32)} {a_partY : (Nat → Int32)} {a_phase : (Nat → Int32)} {a_beganAfter : (Nat → Int32)} {a_due : (Nat → Int32)} {a_count : (Nat → Int32)} {a_held : (Nat → Int32)} {a_heldY : (Nat → Int32)} {a_hasHeld : (Nat → Int32)} {a_hasHeldY : (Nat → Int32)} {a_queueSize : (Nat → Int32)} {a_queueIsOfX : (Nat → Int32)} {a_queueValue : (Nat → Int32)} {a_queueDue : (Nat → Int32)} {a_subStatus : (Nat → Int32)} {a_subCode : (Nat → Int32)} {a_subEnd : (Nat → Int32)} {a_subDemand : (Nat → Int64)} {a_subRequests : (Nat → Int32)} {a_subDelivered : (Nat → Int32)} {a_subWaiting : (Nat → Int32)} {a_waitValue : (Nat → Int32)} {a_history : (Nat → Int64)} {a_taskWhat : (Nat → Int32)} {a_taskPart : (Nat → Int32)} {a_taskValue : (Nat → Int32)}
theorem st_83 {post : SX → Prop} {J : Int32 → Int32 → Int32 → Int32 → Int32 → (Nat → Int32) → (Nat → Int32) → (Nat → Int32) → (Nat → Int32) → (Nat → Int32) → (Nat → Int32) → (Nat → Int32) → (Nat → Int32) → (Nat → Int32) → (Nat → Int32) → (Nat → Int32) → (Nat → Int32) → (Nat → Int32) → (Nat → Int32) → (Nat → Int32) → (Nat → Int32) → (Nat → Int32) → (Nat → Int32) → (Nat → Int32) → (Nat → Int32) → (Nat → Int32) → (Nat → Int32) → (Nat → Int32) → (Nat → Int32) → (Nat → Int64) → (Nat → Int32) → (Nat → Int32) → (Nat → Int32) → (Nat → Int32) → (Nat → Int64) → (Nat → Int32) → (Nat → Int32) → (Nat → Int32) → Prop} {id x w i zi t s k xi yi : Nat} {a b v : Int32} {sd : Bool} {P : PSt} {R : List Tk} (hi27 : i < 27) (hz27 : zi < 27) (hw : 1 ≤ w) (hw3 : w ≤ 3)
    (hu : a_partUser i = nI zi) (hx : HA f_time a_partStage a_stageKind a_stageA a_stageB zi t s k a b) (hC : (3 ≤ k → a_partX zi = nI xi ∧ xi < 27) ∧ (16 ≤ k → a_partY zi = nI yi ∧ yi < 27 ∧ xi ≠ yi)) (h3 : 3 ≤ k) (hs : i = if sd = true then xi else yi) (hsd : k < 16 → sd = true) (hph : a_phase zi = 1)
    (hot : 16 ≤ k → k < 19 → (a_phase (if sd = true then yi else xi) = 2 ↔ (if sd = true then P.2.2.2.2.2.2.2.2.2 else P.2.2.2.2.2.2.2.2.1) = true))
    (hP : RepA a_due a_count a_held a_heldY a_hasHeld a_hasHeldY a_queueSize a_queueIsOfX a_queueValue a_queueDue zi P) (ok : okS k b P) (hT : f_tasks = nI R.length) (hR : rps a_taskWhat a_taskPart a_taskValue R) (hl : R.length + 2 ≤ 128)
    (K : ∀ u', Eff (f_time, f_sent, f_stageCount, f_tasks, a_sourceEnded, a_stageKind, a_stageA, a_stageB, a_stageParts, a_partStage, a_partUser, a_partX, a_partY, a_phase, a_beganAfter, a_due, a_count, a_held, a_heldY, a_hasHeld, a_hasHeldY, a_queueSize, a_queueIsOfX, a_queueValue, a_queueDue, a_subStatus, a_subCode, a_subEnd, a_subDemand, a_subRequests, a_subDelivered, a_subWaiting, a_waitValue, a_history, a_taskWhat, a_taskPart, a_taskValue) u' zi (hear k b t sd w v P).1 (hear k b t sd w v P).2 ((if bgn k w sd = true then [(0, yi, 0)] else []) ++ R) → J (nI (x + 1)) (x_time u') (x_sent u') (x_stageCount u') (x_tasks u') (x_sourceEnded u') (x_stageKind u') (x_stageA u') (x_stageB u') (x_stageParts u') (x_partStage u') (x_partUser u') (x_partX u') (x_partY u') (x_phase u') (x_beganAfter u') (x_due u') (x_count u') (x_held u') (x_heldY u') (x_hasHeld u') (x_hasHeldY u') (x_queueSize u') (x_queueIsOfX u') (x_queueValue u') (x_queueDue u') (x_subStatus u') (x_subCode u') (x_subEnd u') (x_subDemand u') (x_subRequests u') (x_subDelivered u') (x_subWaiting u') (x_waitValue u') (x_history u') (x_taskWhat u') (x_taskPart u') (x_taskValue u')) : wX_runTasks_83 post J (nI id) (nI x) (nI w) (nI i) v f_time f_sent f_stageCount f_tasks a_sourceEnded a_stageKind a_stageA a_stageB a_stageParts a_partStage a_partUser a_partX a_partY a_phase a_beganAfter a_due a_count a_held a_heldY a_hasHeld a_hasHeldY a_queueSize a_queueIsOfX a_queueValue a_queueDue a_subStatus a_subCode a_subEnd a_subDemand a_subRequests a_subDelivered a_subWaiting a_waitValue a_history a_taskWhat a_taskPart a_taskValue := by
  have hci : (nI i).toNatClampNeg = i := nI_clamp (by omega)
  have hcz : (nI zi).toNatClampNeg = zi := nI_clamp (by omega)
  have hiz : vp_in (nI zi) 27 := vp_in_nI hz27 (by decide)
  have hin : vp_in (nI i) 27 := vp_in_nI hi27 (by decide)
  have hs12 : s < 12 := hx.2.2.2.2.1
  have hps : a_partStage (nI zi).toNatClampNeg = nI s := by rw [hcz]; exact hx.2.2.2.1
  have hcs : (nI s).toNatClampNeg = s := nI_clamp (by omega)
  have hk20 : k ≤ 20 := hx.2.2.2.2.2.2.2.2.1
  have hkk : a_stageKind (a_partStage (nI zi).toNatClampNeg).toNatClampNeg = nI k := by rw [hps, hcs]; exact hx.2.2.2.2.2.1
  have hne : ¬ nI zi = -1 := by
    intro e
    have : (-1 : Int32) < 0 := by decide
    rw [← e] at this
    exact absurd this (nI_pos (by omega))
  have hJ : 16 ≤ k → a_partX zi = nI xi ∧ a_partY zi = nI yi ∧ xi < 27 ∧ yi < 27 ∧ xi ≠ yi ∧ i = if sd = true then xi else yi := fun h16 => ⟨(hC.1 h3).1, (hC.2 h16).1, (hC.1 h3).2, (hC.2 h16).2.1, (hC.2 h16).2.2, hs⟩
  refine ⟨hin, nm_r (e' := nI zi) (by rw [hci]; exact hu) (br_f hne ⟨hiz, br_t (by rw [hcz]; exact hph) ?_⟩)⟩
  by_cases hw1 : w = 1
  · subst hw1
    have eh : hear k b t sd 1 v P = hi k b t sd v P := rfl
    have eb : bgn k 1 sd = false := by simp [bgn]
    rw [eh, eb] at K
    refine br_t rfl ⟨hiz, by rw [hps]; exact vp_in_nI hs12 (by decide), ?_⟩
    by_cases h16 : k < 16
    · have hsd1 := hsd h16
      subst hsd1
      refine br_t (by rw [hkk]; exact nI_lt (b := 16) h16 (by decide)) (br_t rfl ?_)
      refine xg_item hx h3 h16 hP ok hT hR hl (fun u' he => ?_)
      have := K u' he
      obtain ⟨f_time, f_sent, f_stageCount, f_tasks, a_sourceEnded, a_stageKind, a_stageA, a_stageB, a_stageParts, a_partStage, a_partUser, a_partX, a_partY, a_phase, a_beganAfter, a_due, a_count, a_held, a_heldY, a_hasHeld, a_hasHeldY, a_queueSize, a_queueIsOfX, a_queueValue, a_queueDue, a_subStatus, a_subCode, a_subEnd, a_subDemand, a_subRequests, a_subDelivered, a_subWaiting, a_waitValue, a_history, a_taskWhat, a_taskPart, a_taskValue⟩ := u'
      exact nm_r (nI_1 x) this
    · refine br_f (by rw [hkk]; exact nI_nlt (b := 16) (by omega) (by omega)) ?_
      obtain ⟨hX, hY, hx27, hy27, hxy, hs'⟩ := hJ (by omega)
      refine xg_join hx (by omega) hP ok hT hR hl hX hY hx27 hy27 hxy hs' (hot (by omega)) (fun u' he => ?_)
      have := K u' he
      obtain ⟨f_time, f_sent, f_stageCount, f_tasks, a_sourceEnded, a_stageKind, a_stageA, a_stageB, a_stageParts, a_partStage, a_partUser, a_partX, a_partY, a_phase, a_beganAfter, a_due, a_count, a_held, a_heldY, a_hasHeld, a_hasHeldY, a_queueSize, a_queueIsOfX, a_queueValue, a_queueDue, a_subStatus, a_subCode, a_subEnd, a_subDemand, a_subRequests, a_subDelivered, a_subWaiting, a_waitValue, a_history, a_taskWhat, a_taskPart, a_taskValue⟩ := u'
      exact nm_r (nI_1 x) this
  · have hw1' : ¬ nI w = 1 := by rw [show (1 : Int32) = nI 1 from rfl, nI_eq (by omega) (by decide)]; exact hw1
    refine br_f hw1' (br_f hw1' ?_)
    by_cases hw2 : w = 2
    · subst hw2
      have eh : hear k b t sd 2 v P = hc k b t sd P := rfl
      rw [eh] at K
      refine br_t rfl ?_
      refine xg_comp hx h3 hP ok hT hR hl hJ hot (fun u' he => ?_)
      have := K u' he
      obtain ⟨f_time, f_sent, f_stageCount, f_tasks, a_sourceEnded, a_stageKind, a_stageA, a_stageB, a_stageParts, a_partStage, a_partUser, a_partX, a_partY, a_phase, a_beganAfter, a_due, a_count, a_held, a_heldY, a_hasHeld, a_hasHeldY, a_queueSize, a_queueIsOfX, a_queueValue, a_queueDue, a_subStatus, a_subCode, a_subEnd, a_subDemand, a_subRequests, a_subDelivered, a_subWaiting, a_waitValue, a_history, a_taskWhat, a_taskPart, a_taskValue⟩ := u'
      exact nm_r (nI_1 x) this
    · have hw3' : w = 3 := by omega
      subst hw3'
      have eh : hear k b t sd 3 v P = he k sd v P := rfl
      rw [eh] at K
      refine br_f (by decide) ?_
      refine xg_err hx hP hT hR hl hJ (fun u' he => ?_)
      have := K u' he
      obtain ⟨f_time, f_sent, f_stageCount, f_tasks, a_sourceEnded, a_stageKind, a_stageA, a_stageB, a_stageParts, a_partStage, a_partUser, a_partX, a_partY, a_phase, a_beganAfter, a_due, a_count, a_held, a_heldY, a_hasHeld, a_hasHeldY, a_queueSize, a_queueIsOfX, a_queueValue, a_queueDue, a_subStatus, a_subCode, a_subEnd, a_subDemand, a_subRequests, a_subDelivered, a_subWaiting, a_waitValue, a_history, a_taskWhat, a_taskPart, a_taskValue⟩ := u'
      exact nm_r (nI_1 x) this
/-- the user does not run: nothing is heard -/
theorem st_83n {post : SX → Prop} {J : Int32 → Int32 → Int32 → Int32 → Int32 → (Nat → Int32) → (Nat → Int32) → (Nat → Int32) → (Nat → Int32) → (Nat → Int32) → (Nat → Int32) → (Nat → Int32) → (Nat → Int32) → (Nat → Int32) → (Nat → Int32) → (Nat → Int32) → (Nat → Int32) → (Nat → Int32) → (Nat → Int32) → (Nat → Int32) → (Nat → Int32) → (Nat → Int32) → (Nat → Int32) → (Nat → Int32) → (Nat → Int32) → (Nat → Int32) → (Nat → Int32) → (Nat → Int32) → (Nat → Int32) → (Nat → Int64) → (Nat → Int32) → (Nat → Int32) → (Nat → Int32) → (Nat → Int32) → (Nat → Int64) → (Nat → Int32) → (Nat → Int32) → (Nat → Int32) → Prop} {id x w i zi : Nat} {v : Int32} (hi27 : i < 27) (hz27 : zi < 27) (hu : a_partUser i = nI zi) (hph : ¬ a_phase zi = 1)
    (K : J (nI (x + 1)) f_time f_sent f_stageCount f_tasks a_sourceEnded a_stageKind a_stageA a_stageB a_stageParts a_partStage a_partUser a_partX a_partY a_phase a_beganAfter a_due a_count a_held a_heldY a_hasHeld a_hasHeldY a_queueSize a_queueIsOfX a_queueValue a_queueDue a_subStatus a_subCode a_subEnd a_subDemand a_subRequests a_subDelivered a_subWaiting a_waitValue a_history a_taskWhat a_taskPart a_taskValue) : wX_runTasks_83 post J (nI id) (nI x) (nI w) (nI i) v f_time f_sent f_stageCount f_tasks a_sourceEnded a_stageKind a_stageA a_stageB a_stageParts a_partStage a_partUser a_partX a_partY a_phase a_beganAfter a_due a_count a_held a_heldY a_hasHeld a_hasHeldY a_queueSize a_queueIsOfX a_queueValue a_queueDue a_subStatus a_subCode a_subEnd a_subDemand a_subRequests a_subDelivered a_subWaiting a_waitValue a_history a_taskWhat a_taskPart a_taskValue := by
  have hci : (nI i).toNatClampNeg = i := nI_clamp (by omega)
  have hcz : (nI zi).toNatClampNeg = zi := nI_clamp (by omega)
  have hne : ¬ nI zi = -1 := by
    intro e
    have : (-1 : Int32) < 0 := by decide
    rw [← e] at this
    exact absurd this (nI_pos (by omega))
  exact ⟨vp_in_nI hi27 (by decide), nm_r (e' := nI zi) (by rw [hci]; exact hu) (br_f hne ⟨vp_in_nI hz27 (by decide), br_f (by rw [hcz]; exact hph) (nm_r (nI_1 x) K)⟩)⟩
/-- the root: the subscription hears -/
theorem st_83r {post : SX → Prop} {J : Int32 → Int32 → Int32 → Int32 → Int32 → (Nat → Int32) → (Nat → Int32) → (Nat → Int32) → (Nat → Int32) → (Nat → Int32) → (Nat → Int32) → (Nat → Int32) → (Nat → Int32) → (Nat → Int32) → (Nat → Int32) → (Nat → Int32) → (Nat → Int32) → (Nat → Int32) → (Nat → Int32) → (Nat → Int32) → (Nat → Int32) → (Nat → Int32) → (Nat → Int32) → (Nat → Int32) → (Nat → Int32) → (Nat → Int32) → (Nat → Int32) → (Nat → Int32) → (Nat → Int32) → (Nat → Int64) → (Nat → Int32) → (Nat → Int32) → (Nat → Int32) → (Nat → Int32) → (Nat → Int64) → (Nat → Int32) → (Nat → Int32) → (Nat → Int32) → Prop} {id x w i t : Nat} {v : Int32} {s : Sb} (hi27 : i < 27) (hid : id < 3) (hw : 1 ≤ w) (hw3 : w ≤ 3) (hu : a_partUser i = -1) (ht : f_time = nI t) (hS : RepB a_subStatus a_subCode a_subEnd a_subDemand a_subDelivered a_subWaiting a_waitValue a_history id s)
    (K : ∀ u', EffS (f_time, f_sent, f_stageCount, f_tasks, a_sourceEnded, a_stageKind, a_stageA, a_stageB, a_stageParts, a_partStage, a_partUser, a_partX, a_partY, a_phase, a_beganAfter, a_due, a_count, a_held, a_heldY, a_hasHeld, a_hasHeldY, a_queueSize, a_queueIsOfX, a_queueValue, a_queueDue, a_subStatus, a_subCode, a_subEnd, a_subDemand, a_subRequests, a_subDelivered, a_subWaiting, a_waitValue, a_history, a_taskWhat, a_taskPart, a_taskValue) u' id (sst t w v s) → J (nI (x + 1)) (x_time u') (x_sent u') (x_stageCount u') (x_tasks u') (x_sourceEnded u') (x_stageKind u') (x_stageA u') (x_stageB u') (x_stageParts u') (x_partStage u') (x_partUser u') (x_partX u') (x_partY u') (x_phase u') (x_beganAfter u') (x_due u') (x_count u') (x_held u') (x_heldY u') (x_hasHeld u') (x_hasHeldY u') (x_queueSize u') (x_queueIsOfX u') (x_queueValue u') (x_queueDue u') (x_subStatus u') (x_subCode u') (x_subEnd u') (x_subDemand u') (x_subRequests u') (x_subDelivered u') (x_subWaiting u') (x_waitValue u') (x_history u') (x_taskWhat u') (x_taskPart u') (x_taskValue u')) : wX_runTasks_83 post J (nI id) (nI x) (nI w) (nI i) v f_time f_sent f_stageCount f_tasks a_sourceEnded a_stageKind a_stageA a_stageB a_stageParts a_partStage a_partUser a_partX a_partY a_phase a_beganAfter a_due a_count a_held a_heldY a_hasHeld a_hasHeldY a_queueSize a_queueIsOfX a_queueValue a_queueDue a_subStatus a_subCode a_subEnd a_subDemand a_subRequests a_subDelivered a_subWaiting a_waitValue a_history a_taskWhat a_taskPart a_taskValue := by
  have hci : (nI i).toNatClampNeg = i := nI_clamp (by omega)
  refine ⟨vp_in_nI hi27 (by decide), nm_r (e' := -1) (by rw [hci]; exact hu) (br_t rfl ?_)⟩
  refine xs_reach hid ht hw hw3 hS (fun u' he => ?_)
  have := K u' he
  obtain ⟨f_time, f_sent, f_stageCount, f_tasks, a_sourceEnded, a_stageKind, a_stageA, a_stageB, a_stageParts, a_partStage, a_partUser, a_partX, a_partY, a_phase, a_beganAfter, a_due, a_count, a_held, a_heldY, a_hasHeld, a_hasHeldY, a_queueSize, a_queueIsOfX, a_queueValue, a_queueDue, a_subStatus, a_subCode, a_subEnd, a_subDemand, a_subRequests, a_subDelivered, a_subWaiting, a_waitValue, a_history, a_taskWhat, a_taskPart, a_taskValue⟩ := u'
  exact nm_r (nI_1 x) this
/-- popping an event -/
theorem st_pop {post : SX → Prop} {id x w i : Nat} {v : Int32} {R : List Tk} (hx : x < 1000000) (hw : 1 ≤ w) (hw3 : w ≤ 3) (hi27 : i < 27) (hl : R.length < 128) (hT : f_tasks = nI ((w, i, v) :: R).length) (hR : rps a_taskWhat a_taskPart a_taskValue ((w, i, v) :: R))
    (K : wX_runTasks_83 post (wX_runTasks_2 post (nI id) (1000000 - x)) (nI id) (nI x) (nI w) (nI i) v f_time f_sent f_stageCount (nI R.length) a_sourceEnded a_stageKind a_stageA a_stageB a_stageParts a_partStage a_partUser a_partX a_partY (if w = 1 then a_phase else upd a_phase i 2) a_beganAfter a_due a_count a_held a_heldY a_hasHeld a_hasHeldY a_queueSize a_queueIsOfX a_queueValue a_queueDue a_subStatus a_subCode a_subEnd a_subDemand a_subRequests a_subDelivered a_subWaiting a_waitValue a_history a_taskWhat a_taskPart a_taskValue) : wX_runTasks_2 post (nI id) (1000001 - x) (nI x) f_time f_sent f_stageCount f_tasks a_sourceEnded a_stageKind a_stageA a_stageB a_stageParts a_partStage a_partUser a_partX a_partY a_phase a_beganAfter a_due a_count a_held a_heldY a_hasHeld a_hasHeldY a_queueSize a_queueIsOfX a_queueValue a_queueDue a_subStatus a_subCode a_subEnd a_subDemand a_subRequests a_subDelivered a_subWaiting a_waitValue a_history a_taskWhat a_taskPart a_taskValue := by
  obtain ⟨r1, r2, r3, r4⟩ := hR
  have hci : (nI i).toNatClampNeg = i := nI_clamp (by omega)
  have hcR : (nI R.length).toNatClampNeg = R.length := nI_clamp (by omega)
  have hin : vp_in (nI R.length) 128 := vp_in_nI hl (by decide)
  rw [show 1000001 - x = (1000000 - x) + 1 from by omega]
  refine br_f (by rw [show (1000000 : Int32) = nI 1000000 from rfl]; exact nI_ge hx (by decide)) (br_f (by rw [hT]; exact nI_nle (by simp) (by simp; omega)) (nm_r (e' := nI R.length) (by rw [hT]; exact nI_pred _) ⟨hin, nm_r (e' := nI w) (by rw [hcR]; exact r1) ⟨hin, nm_r (e' := nI i) (by rw [hcR]; exact r2) ⟨hin, nm_r (e' := v) (by rw [hcR]; exact r3) (br_f (nI_ne0 (by omega) (by omega)) ?_)⟩⟩⟩))
  by_cases h1 : w = 1
  · rw [if_pos h1] at K
    exact br_t (by rw [h1]; rfl) K
  · rw [if_neg h1] at K
    exact br_f (by rw [show (1 : Int32) = nI 1 from rfl, nI_eq (by omega) (by decide)]; exact h1) ⟨vp_in_nI hi27 (by decide), nm_r (e' := upd a_phase i 2) (by rw [hci]) K⟩
theorem st_popB {post : SX → Prop} {id x i t s k xi yi : Nat} {a b v : Int32} {R : List Tk} (hx : x < 1000000) (hl : R.length + 2 ≤ 128) (hT : f_tasks = nI ((0, i, v) :: R).length) (hR : rps a_taskWhat a_taskPart a_taskValue ((0, i, v) :: R))
    (hA : HA f_time a_partStage a_stageKind a_stageA a_stageB i t s k a b) (hS : RepA a_due a_count a_held a_heldY a_hasHeld a_hasHeldY a_queueSize a_queueIsOfX a_queueValue a_queueDue i clr) (hX : 3 ≤ k → a_partX i = nI xi) (hY : 16 ≤ k → a_partY i = nI yi)
    (K : ∀ u', EffB (f_time, f_sent, f_stageCount, nI R.length, a_sourceEnded, a_stageKind, a_stageA, a_stageB, a_stageParts, a_partStage, a_partUser, a_partX, a_partY, a_phase, a_beganAfter, a_due, a_count, a_held, a_heldY, a_hasHeld, a_hasHeldY, a_queueSize, a_queueIsOfX, a_queueValue, a_queueDue, a_subStatus, a_subCode, a_subEnd, a_subDemand, a_subRequests, a_subDelivered, a_subWaiting, a_waitValue, a_history, a_taskWhat, a_taskPart, a_taskValue) u' i (ini k a b t) (begs k i xi yi a) R → wX_runTasks_2 post (nI id) (1000000 - x) (nI (x + 1)) (x_time u') (x_sent u') (x_stageCount u') (x_tasks u') (x_sourceEnded u') (x_stageKind u') (x_stageA u') (x_stageB u') (x_stageParts u') (x_partStage u') (x_partUser u') (x_partX u') (x_partY u') (x_phase u') (x_beganAfter u') (x_due u') (x_count u') (x_held u') (x_heldY u') (x_hasHeld u') (x_hasHeldY u') (x_queueSize u') (x_queueIsOfX u') (x_queueValue u') (x_queueDue u') (x_subStatus u') (x_subCode u') (x_subEnd u') (x_subDemand u') (x_subRequests u') (x_subDelivered u') (x_subWaiting u') (x_waitValue u') (x_history u') (x_taskWhat u') (x_taskPart u') (x_taskValue u')) : wX_runTasks_2 post (nI id) (1000001 - x) (nI x) f_time f_sent f_stageCount f_tasks a_sourceEnded a_stageKind a_stageA a_stageB a_stageParts a_partStage a_partUser a_partX a_partY a_phase a_beganAfter a_due a_count a_held a_heldY a_hasHeld a_hasHeldY a_queueSize a_queueIsOfX a_queueValue a_queueDue a_subStatus a_subCode a_subEnd a_subDemand a_subRequests a_subDelivered a_subWaiting a_waitValue a_history a_taskWhat a_taskPart a_taskValue := by
  obtain ⟨r1, r2, r3, r4⟩ := hR
  have hcR : (nI R.length).toNatClampNeg = R.length := nI_clamp (by omega)
  have hin : vp_in (nI R.length) 128 := vp_in_nI (by omega) (by decide)
  rw [show 1000001 - x = (1000000 - x) + 1 from by omega]
  refine br_f (by rw [show (1000000 : Int32) = nI 1000000 from rfl]; exact nI_ge hx (by decide)) (br_f (by rw [hT]; exact nI_nle (by simp) (by simp; omega)) (nm_r (e' := nI R.length) (by rw [hT]; exact nI_pred _) ⟨hin, nm_r (e' := nI 0) (by rw [hcR]; exact r1) ⟨hin, nm_r (e' := nI i) (by rw [hcR]; exact r2) ⟨hin, nm_r (e' := v) (by rw [hcR]; exact r3) (br_t rfl ?_)⟩⟩⟩))
  refine xg_beg hA hS rfl r4 hl hX hY (fun u' he => ?_)
  have := K u' he
  obtain ⟨f_time, f_sent, f_stageCount, f_tasks, a_sourceEnded, a_stageKind, a_stageA, a_stageB, a_stageParts, a_partStage, a_partUser, a_partX, a_partY, a_phase, a_beganAfter, a_due, a_count, a_held, a_heldY, a_hasHeld, a_hasHeldY, a_queueSize, a_queueIsOfX, a_queueValue, a_queueDue, a_subStatus, a_subCode, a_subEnd, a_subDemand, a_subRequests, a_subDelivered, a_subWaiting, a_waitValue, a_history, a_taskWhat, a_taskPart, a_taskValue⟩ := u'
  exact nm_r (nI_1 x) this
theorem st_end {post : SX → Prop} {id x : Nat} (hx : x ≤ 1000000) (hT : f_tasks = nI 0) (H : post (f_time, f_sent, f_stageCount, f_tasks, a_sourceEnded, a_stageKind, a_stageA, a_stageB, a_stageParts, a_partStage, a_partUser, a_partX, a_partY, a_phase, a_beganAfter, a_due, a_count, a_held, a_heldY, a_hasHeld, a_hasHeldY, a_queueSize, a_queueIsOfX, a_queueValue, a_queueDue, a_subStatus, a_subCode, a_subEnd, a_subDemand, a_subRequests, a_subDelivered, a_subWaiting, a_waitValue, a_history, a_taskWhat, a_taskPart, a_taskValue)) : wX_runTasks_2 post (nI id) (1000001 - x) (nI x) f_time f_sent f_stageCount f_tasks a_sourceEnded a_stageKind a_stageA a_stageB a_stageParts a_partStage a_partUser a_partX a_partY a_phase a_beganAfter a_due a_count a_held a_heldY a_hasHeld a_hasHeldY a_queueSize a_queueIsOfX a_queueValue a_queueDue a_subStatus a_subCode a_subEnd a_subDemand a_subRequests a_subDelivered a_subWaiting a_waitValue a_history a_taskWhat a_taskPart a_taskValue := by
  rw [show 1000001 - x = (1000000 - x) + 1 from by omega]
  by_cases h : x < 1000000
  · exact br_f (by rw [show (1000000 : Int32) = nI 1000000 from rfl]; exact nI_ge h (by decide)) (br_t (by rw [hT]; decide) H)
  · exact br_t (by rw [show (1000000 : Int32) = nI 1000000 from rfl]; exact nI_le (by omega) (by omega)) H
end
