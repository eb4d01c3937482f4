/-! ===== handlers at a state u; one step of runTasks ===== -/
abbrev St2 : Type := Int32 × Int32 × Int32 × (Nat → Int32) × (Nat → Int32) × (Nat → Int32) × (Nat → Int32) × (Nat → Int32) × (Nat → Int32) × (Nat → Int32) × (Nat → Int32) × (Nat → Int32) × (Nat → Int32)
/-- part i is of stage s: kind k, operands a b; the time is t -/
def HZ (i t s k : Nat) (a b : Int32) : St2 → Prop
  | (ti, _, _, _, sk, sa, sb, _, ps, _, _, _, _) => HA ti ps sk sa sb i t s k a b
/-- part i's children and user -/
def HC (i xi yi k : Nat) : St2 → Prop
  | (_, _, _, _, _, _, _, _, _, _, px, py, _) => (3 ≤ k → px i = nI xi ∧ xi < 27) ∧ (16 ≤ k → py i = nI yi ∧ yi < 27 ∧ xi ≠ yi)
def HU (i : Nat) (z : Int32) : St2 → Prop
  | (_, _, _, _, _, _, _, _, _, pu, _, _, _) => pu i = z
def bgn (k w : Nat) (sd : Bool) : Bool := sd && ((k == 19 && w == 2) || (k == 20 && w == 3))
section
variable {f_time : Int32} {f_sent : Int32} {f_stageCount : Int32} {f_tasks : Int32} {a_sourceEnded : (Nat → Int32)} {a_stageKind : (Nat → Int32)} {a_stageA : (Nat → Int32)} {a_stageB : (Nat → Int32)} {a_stageParts : (Nat → Int32)} {a_partStage : (Nat → Int32)} {a_partUser : (Nat → Int32)} {a_partX : (Nat → Int32)} {a_partY : (Nat → Int32)} {a_phase : (Nat → Int32)} {a_beganAfter : (Nat → Int32)} {a_due : (Nat → Int32)} {a_count : (Nat → Int32)} {a_held : (Nat → Int32)} {a_heldY : (Nat → Int32)} {a_hasHeld : (Nat → Int32)} {a_hasHeldY : (Nat → Int32)} {a_queueSize : (Nat → Int32)} {a_queueIsOfX : (Nat → Int32)} {a_queueValue : (Nat → Int32)} {a_queueDue : (Nat → Int32)} {a_subStatus : (Nat → Int32)} {a_subCode : (Nat → Int32)} {a_subEnd : (Nat → Int32)} {a_subDemand : (Nat → Int64)} {a_subRequests : (Nat → Int32)} {a_subDelivered : (Nat → Int32)} {a_subWaiting : (Nat → Int32)} {a_waitValue : (Nat → Int32)} {a_history : (Nat → Int64)} {a_taskWhat : (Nat → Int32)} {a_taskPart : (Nat → Int32)} {a_taskValue : (Nat → Int32)}
theorem xg_of_HZ {i t s k : Nat} {a b : Int32} (h : HZ i t s k a b (x_st2 (f_time, f_sent, f_stageCount, f_tasks, a_sourceEnded, a_stageKind, a_stageA, a_stageB, a_stageParts, a_partStage, a_partUser, a_partX, a_partY, a_phase, a_beganAfter, a_due, a_count, a_held, a_heldY, a_hasHeld, a_hasHeldY, a_queueSize, a_queueIsOfX, a_queueValue, a_queueDue, a_subStatus, a_subCode, a_subEnd, a_subDemand, a_subRequests, a_subDelivered, a_subWaiting, a_waitValue, a_history, a_taskWhat, a_taskPart, a_taskValue))) : HA f_time a_partStage a_stageKind a_stageA a_stageB i t s k a b := h
theorem xg_of_HC {i xi yi k : Nat} (h : HC i xi yi k (x_st2 (f_time, f_sent, f_stageCount, f_tasks, a_sourceEnded, a_stageKind, a_stageA, a_stageB, a_stageParts, a_partStage, a_partUser, a_partX, a_partY, a_phase, a_beganAfter, a_due, a_count, a_held, a_heldY, a_hasHeld, a_hasHeldY, a_queueSize, a_queueIsOfX, a_queueValue, a_queueDue, a_subStatus, a_subCode, a_subEnd, a_subDemand, a_subRequests, a_subDelivered, a_subWaiting, a_waitValue, a_history, a_taskWhat, a_taskPart, a_taskValue))) : (3 ≤ k → a_partX i = nI xi ∧ xi < 27) ∧ (16 ≤ k → a_partY i = nI yi ∧ yi < 27 ∧ xi ≠ yi) := h
theorem xg_of_HU {i : Nat} {z : Int32} (h : HU i z (x_st2 (f_time, f_sent, f_stageCount, f_tasks, a_sourceEnded, a_stageKind, a_stageA, a_stageB, a_stageParts, a_partStage, a_partUser, a_partX, a_partY, a_phase, a_beganAfter, a_due, a_count, a_held, a_heldY, a_hasHeld, a_hasHeldY, a_queueSize, a_queueIsOfX, a_queueValue, a_queueDue, a_subStatus, a_subCode, a_subEnd, a_subDemand, a_subRequests, a_subDelivered, a_subWaiting, a_waitValue, a_history, a_taskWhat, a_taskPart, a_taskValue))) : a_partUser i = z := h
theorem xg_item {post : SX → Prop} {i t s k : Nat} {a b v : Int32} {P : PSt} {R : List Tk} (hx : HA f_time a_partStage a_stageKind a_stageA a_stageB i t s k a b) (h3 : 3 ≤ k) (h16 : k < 16) (hS : RepA a_due a_count a_held a_heldY a_hasHeld a_hasHeldY a_queueSize a_queueIsOfX a_queueValue a_queueDue i P) (ok : okS k b P) (hT : f_tasks = nI R.length) (hR : rps a_taskWhat a_taskPart a_taskValue R) (hl : R.length + 2 ≤ 128) (H : ∀ u', Eff (f_time, f_sent, f_stageCount, f_tasks, a_sourceEnded, a_stageKind, a_stageA, a_stageB, a_stageParts, a_partStage, a_partUser, a_partX, a_partY, a_phase, a_beganAfter, a_due, a_count, a_held, a_heldY, a_hasHeld, a_hasHeldY, a_queueSize, a_queueIsOfX, a_queueValue, a_queueDue, a_subStatus, a_subCode, a_subEnd, a_subDemand, a_subRequests, a_subDelivered, a_subWaiting, a_waitValue, a_history, a_taskWhat, a_taskPart, a_taskValue) u' i (hi k b t true v P).1 (hi k b t true v P).2 R → post u') : wpX_hearItem post (f_time, f_sent, f_stageCount, f_tasks, a_sourceEnded, a_stageKind, a_stageA, a_stageB, a_stageParts, a_partStage, a_partUser, a_partX, a_partY, a_phase, a_beganAfter, a_due, a_count, a_held, a_heldY, a_hasHeld, a_hasHeldY, a_queueSize, a_queueIsOfX, a_queueValue, a_queueDue, a_subStatus, a_subCode, a_subEnd, a_subDemand, a_subRequests, a_subDelivered, a_subWaiting, a_waitValue, a_history, a_taskWhat, a_taskPart, a_taskValue) (nI i) v := by
  obtain ⟨d, c, h, hy, f, fy, qx, q, ox, oy⟩ := P
  have hk20 := hx.2.2.2.2.2.2.2.2.1
  rcases rn_k hk20 with e | e | e | e | e | e | e | e | e | e | e | e | e | e | e | e | e | e | e | e | e <;> (first | omega | subst e)
  · exact xh_i3 hx hS ok hT hR hl H
  · exact xh_i4 hx hS ok hT hR hl H
  · exact xh_i5 hx hS ok hT hR hl H
  · exact xh_i6 hx hS ok hT hR hl H
  · exact xh_i7 hx hS ok hT hR hl H
  · exact xh_i8 hx hS ok hT hR hl H
  · exact xh_i9 hx hS ok hT hR hl H
  · exact xh_i10 hx hS ok hT hR hl H
  · exact xh_i11 hx hS ok hT hR hl H
  · exact xh_i12 hx hS ok hT hR hl H
  · exact xh_i13 hx hS ok hT hR hl H
  · exact xh_i14 hx hS ok hT hR hl H
  · exact xh_i15 hx hS ok hT hR hl H
theorem xg_join {post : SX → Prop} {i t s k xi yi fr : Nat} {a b v : Int32} {sd : Bool} {P : PSt} {R : List Tk} (hx : HA f_time a_partStage a_stageKind a_stageA a_stageB i t s k a b) (h16 : 16 ≤ k) (hS : RepA a_due a_count a_held a_heldY a_hasHeld a_hasHeldY a_queueSize a_queueIsOfX a_queueValue a_queueDue i P) (ok : okS k b P) (hT : f_tasks = nI R.length) (hR : rps a_taskWhat a_taskPart a_taskValue R) (hl : R.length + 2 ≤ 128) (hX : a_partX i = nI xi) (hY : a_partY i = nI yi) (hx27 : xi < 27) (hy27 : yi < 27) (hne : xi ≠ yi) (hfr : fr = if sd = true then xi else yi) (hph : k < 19 → (a_phase (if sd = true then yi else xi) = 2 ↔ (if sd = true then P.2.2.2.2.2.2.2.2.2 else P.2.2.2.2.2.2.2.2.1) = true)) (H : ∀ u', Eff (f_time, f_sent, f_stageCount, f_tasks, a_sourceEnded, a_stageKind, a_stageA, a_stageB, a_stageParts, a_partStage, a_partUser, a_partX, a_partY, a_phase, a_beganAfter, a_due, a_count, a_held, a_heldY, a_hasHeld, a_hasHeldY, a_queueSize, a_queueIsOfX, a_queueValue, a_queueDue, a_subStatus, a_subCode, a_subEnd, a_subDemand, a_subRequests, a_subDelivered, a_subWaiting, a_waitValue, a_history, a_taskWhat, a_taskPart, a_taskValue) u' i (hi k b t sd v P).1 (hi k b t sd v P).2 R → post u') : wpX_hearJoinedItem post (f_time, f_sent, f_stageCount, f_tasks, a_sourceEnded, a_stageKind, a_stageA, a_stageB, a_stageParts, a_partStage, a_partUser, a_partX, a_partY, a_phase, a_beganAfter, a_due, a_count, a_held, a_heldY, a_hasHeld, a_hasHeldY, a_queueSize, a_queueIsOfX, a_queueValue, a_queueDue, a_subStatus, a_subCode, a_subEnd, a_subDemand, a_subRequests, a_subDelivered, a_subWaiting, a_waitValue, a_history, a_taskWhat, a_taskPart, a_taskValue) (nI i) (nI fr) v := by
  obtain ⟨d, c, h, hy, f, fy, qx, q, ox, oy⟩ := P
  have hk20 := hx.2.2.2.2.2.2.2.2.1
  rcases rn_k hk20 with e | e | e | e | e | e | e | e | e | e | e | e | e | e | e | e | e | e | e | e | e <;> (first | omega | subst e)
  · exact xh_j16 hx hS hT hR hl hX hY hx27 hy27 hne hfr H
  · exact xh_j17 hx hS ok hT hR hl hX hY hx27 hy27 hne hfr (hph (by decide)) H
  · exact xh_j18 hx hS hT hR hl hX hY hx27 hy27 hne hfr H
  · exact xh_j19 hx hS hT hR hl hX hY hx27 hy27 hne hfr H
  · exact xh_j20 hx hS hT hR hl hX hY hx27 hy27 hne hfr H
theorem xg_comp {post : SX → Prop} {i t s k xi yi fr : Nat} {a b : Int32} {sd : Bool} {P : PSt} {R : List Tk} (hx : HA f_time a_partStage a_stageKind a_stageA a_stageB i t s k a b) (h3 : 3 ≤ k) (hS : RepA a_due a_count a_held a_heldY a_hasHeld a_hasHeldY a_queueSize a_queueIsOfX a_queueValue a_queueDue i P) (ok : okS k b P) (hT : f_tasks = nI R.length) (hR : rps a_taskWhat a_taskPart a_taskValue R) (hl : R.length + 2 ≤ 128) (hJ : 16 ≤ k → a_partX i = nI xi ∧ a_partY i = nI yi ∧ xi < 27 ∧ yi < 27 ∧ xi ≠ yi ∧ fr = if sd = true then xi else yi) (hph : 16 ≤ k → k < 19 → (a_phase (if sd = true then yi else xi) = 2 ↔ (if sd = true then P.2.2.2.2.2.2.2.2.2 else P.2.2.2.2.2.2.2.2.1) = true)) (H : ∀ u', Eff (f_time, f_sent, f_stageCount, f_tasks, a_sourceEnded, a_stageKind, a_stageA, a_stageB, a_stageParts, a_partStage, a_partUser, a_partX, a_partY, a_phase, a_beganAfter, a_due, a_count, a_held, a_heldY, a_hasHeld, a_hasHeldY, a_queueSize, a_queueIsOfX, a_queueValue, a_queueDue, a_subStatus, a_subCode, a_subEnd, a_subDemand, a_subRequests, a_subDelivered, a_subWaiting, a_waitValue, a_history, a_taskWhat, a_taskPart, a_taskValue) u' i (hc k b t sd P).1 (hc k b t sd P).2 ((if bgn k 2 sd = true then [(0, yi, 0)] else []) ++ R) → post u') : wpX_hearComplete post (f_time, f_sent, f_stageCount, f_tasks, a_sourceEnded, a_stageKind, a_stageA, a_stageB, a_stageParts, a_partStage, a_partUser, a_partX, a_partY, a_phase, a_beganAfter, a_due, a_count, a_held, a_heldY, a_hasHeld, a_hasHeldY, a_queueSize, a_queueIsOfX, a_queueValue, a_queueDue, a_subStatus, a_subCode, a_subEnd, a_subDemand, a_subRequests, a_subDelivered, a_subWaiting, a_waitValue, a_history, a_taskWhat, a_taskPart, a_taskValue) (nI i) (nI fr) := by
  obtain ⟨d, c, h, hy, f, fy, qx, q, ox, oy⟩ := P
  have hk20 := hx.2.2.2.2.2.2.2.2.1
  rcases rn_k hk20 with e | e | e | e | e | e | e | e | e | e | e | e | e | e | e | e | e | e | e | e | e <;> (first | omega | subst e)
  · rw [if_neg (show ¬ bgn 3 2 sd = true from by cases sd <;> decide), List.nil_append] at H
    exact xh_c3 hx hS ok hT hR hl H
  · rw [if_neg (show ¬ bgn 4 2 sd = true from by cases sd <;> decide), List.nil_append] at H
    exact xh_c4 hx hS ok hT hR hl H
  · rw [if_neg (show ¬ bgn 5 2 sd = true from by cases sd <;> decide), List.nil_append] at H
    exact xh_c5 hx hS ok hT hR hl H
  · rw [if_neg (show ¬ bgn 6 2 sd = true from by cases sd <;> decide), List.nil_append] at H
    exact xh_c6 hx hS ok hT hR hl H
  · rw [if_neg (show ¬ bgn 7 2 sd = true from by cases sd <;> decide), List.nil_append] at H
    exact xh_c7 hx hS ok hT hR hl H
  · rw [if_neg (show ¬ bgn 8 2 sd = true from by cases sd <;> decide), List.nil_append] at H
    exact xh_c8 hx hS ok hT hR hl H
  · rw [if_neg (show ¬ bgn 9 2 sd = true from by cases sd <;> decide), List.nil_append] at H
    exact xh_c9 hx hS ok hT hR hl H
  · rw [if_neg (show ¬ bgn 10 2 sd = true from by cases sd <;> decide), List.nil_append] at H
    exact xh_c10 hx hS ok hT hR hl H
  · rw [if_neg (show ¬ bgn 11 2 sd = true from by cases sd <;> decide), List.nil_append] at H
    exact xh_c11 hx hS ok hT hR hl H
  · rw [if_neg (show ¬ bgn 12 2 sd = true from by cases sd <;> decide), List.nil_append] at H
    exact xh_c12 hx hS ok hT hR hl H
  · rw [if_neg (show ¬ bgn 13 2 sd = true from by cases sd <;> decide), List.nil_append] at H
    exact xh_c13 hx hS ok hT hR hl H
  · rw [if_neg (show ¬ bgn 14 2 sd = true from by cases sd <;> decide), List.nil_append] at H
    exact xh_c14 hx hS ok hT hR hl H
  · rw [if_neg (show ¬ bgn 15 2 sd = true from by cases sd <;> decide), List.nil_append] at H
    exact xh_c15 hx hS ok hT hR hl H
  · obtain ⟨hX, hY, hx27, hy27, hne, hfr⟩ := hJ (by decide)
    rw [if_neg (show ¬ bgn 16 2 sd = true from by cases sd <;> decide), List.nil_append] at H
    exact xh_c16 hx hS ok hT hR hl hX hY hx27 hy27 hne hfr (hph (by decide) (by decide)) H
  · obtain ⟨hX, hY, hx27, hy27, hne, hfr⟩ := hJ (by decide)
    rw [if_neg (show ¬ bgn 17 2 sd = true from by cases sd <;> decide), List.nil_append] at H
    exact xh_c17 hx hS ok hT hR hl hX hY hx27 hy27 hne hfr (hph (by decide) (by decide)) H
  · obtain ⟨hX, hY, hx27, hy27, hne, hfr⟩ := hJ (by decide)
    rw [if_neg (show ¬ bgn 18 2 sd = true from by cases sd <;> decide), List.nil_append] at H
    exact xh_c18 hx hS ok hT hR hl hX hY hx27 hy27 hne hfr (hph (by decide) (by decide)) H
  · obtain ⟨hX, hY, hx27, hy27, hne, hfr⟩ := hJ (by decide)
    cases sd
    · exact xh_c19y hx hS ok hT hR hl hX hY hx27 hy27 hne hfr H
    · exact xh_c19x hx hS ok hT hR hl hX hY hx27 hy27 hne hfr H
  · rw [if_neg (show ¬ bgn 20 2 sd = true from by cases sd <;> decide), List.nil_append] at H
    exact xh_c20 hx hS ok hT hR hl H
theorem xg_err {post : SX → Prop} {i t s k xi yi fr : Nat} {a b v : Int32} {sd : Bool} {P : PSt} {R : List Tk} (hx : HA f_time a_partStage a_stageKind a_stageA a_stageB i t s k a b) (hS : RepA a_due a_count a_held a_heldY a_hasHeld a_hasHeldY a_queueSize a_queueIsOfX a_queueValue a_queueDue i P) (hT : f_tasks = nI R.length) (hR : rps a_taskWhat a_taskPart a_taskValue R) (hl : R.length + 2 ≤ 128) (hJ : 16 ≤ k → a_partX i = nI xi ∧ a_partY i = nI yi ∧ xi < 27 ∧ yi < 27 ∧ xi ≠ yi ∧ fr = if sd = true then xi else yi) (H : ∀ u', Eff (f_time, f_sent, f_stageCount, f_tasks, a_sourceEnded, a_stageKind, a_stageA, a_stageB, a_stageParts, a_partStage, a_partUser, a_partX, a_partY, a_phase, a_beganAfter, a_due, a_count, a_held, a_heldY, a_hasHeld, a_hasHeldY, a_queueSize, a_queueIsOfX, a_queueValue, a_queueDue, a_subStatus, a_subCode, a_subEnd, a_subDemand, a_subRequests, a_subDelivered, a_subWaiting, a_waitValue, a_history, a_taskWhat, a_taskPart, a_taskValue) u' i (he k sd v P).1 (he k sd v P).2 ((if bgn k 3 sd = true then [(0, yi, 0)] else []) ++ R) → post u') : wpX_hearError post (f_time, f_sent, f_stageCount, f_tasks, a_sourceEnded, a_stageKind, a_stageA, a_stageB, a_stageParts, a_partStage, a_partUser, a_partX, a_partY, a_phase, a_beganAfter, a_due, a_count, a_held, a_heldY, a_hasHeld, a_hasHeldY, a_queueSize, a_queueIsOfX, a_queueValue, a_queueDue, a_subStatus, a_subCode, a_subEnd, a_subDemand, a_subRequests, a_subDelivered, a_subWaiting, a_waitValue, a_history, a_taskWhat, a_taskPart, a_taskValue) (nI i) (nI fr) v := by
  obtain ⟨d, c, h, hy, f, fy, qx, q, ox, oy⟩ := P
  by_cases h20 : k = 20
  · subst h20
    obtain ⟨hX, hY, hx27, hy27, hne, hfr⟩ := hJ (by decide)
    cases sd
    · exact xh_e20y hx hS hT hR hl hX hY hx27 hy27 hne hfr H
    · exact xh_e20x hx hS hT hR hl hX hY hx27 hy27 hne hfr H
  · rw [if_neg (show ¬ bgn k 3 sd = true from by simp [bgn, h20]), List.nil_append] at H
    exact xh_e hx h20 hS hT hR hl H
theorem xg_beg {post : SX → Prop} {i t s k xi yi : Nat} {a b : Int32} {R : List Tk} (hx : HA f_time a_partStage a_stageKind a_stageA a_stageB i t s k a b) (hS : RepA a_due a_count a_held a_heldY a_hasHeld a_hasHeldY a_queueSize a_queueIsOfX a_queueValue a_queueDue i clr) (hT : f_tasks = nI R.length) (hR : rps a_taskWhat a_taskPart a_taskValue R) (hl : R.length + 2 ≤ 128) (hX : 3 ≤ k → a_partX i = nI xi) (hY : 16 ≤ k → a_partY i = nI yi) (H : ∀ u', EffB (f_time, f_sent, f_stageCount, f_tasks, a_sourceEnded, a_stageKind, a_stageA, a_stageB, a_stageParts, a_partStage, a_partUser, a_partX, a_partY, a_phase, a_beganAfter, a_due, a_count, a_held, a_heldY, a_hasHeld, a_hasHeldY, a_queueSize, a_queueIsOfX, a_queueValue, a_queueDue, a_subStatus, a_subCode, a_subEnd, a_subDemand, a_subRequests, a_subDelivered, a_subWaiting, a_waitValue, a_history, a_taskWhat, a_taskPart, a_taskValue) u' i (ini k a b t) (begs k i xi yi a) R → post u') : wpX_beginPart post (f_time, f_sent, f_stageCount, f_tasks, a_sourceEnded, a_stageKind, a_stageA, a_stageB, a_stageParts, a_partStage, a_partUser, a_partX, a_partY, a_phase, a_beganAfter, a_due, a_count, a_held, a_heldY, a_hasHeld, a_hasHeldY, a_queueSize, a_queueIsOfX, a_queueValue, a_queueDue, a_subStatus, a_subCode, a_subEnd, a_subDemand, a_subRequests, a_subDelivered, a_subWaiting, a_waitValue, a_history, a_taskWhat, a_taskPart, a_taskValue) (nI i) := by
  have hk20 := hx.2.2.2.2.2.2.2.2.1
  rcases rn_k hk20 with e | e | e | e | e | e | e | e | e | e | e | e | e | e | e | e | e | e | e | e | e <;> (first | omega | subst e)
  · exact xb_0 hx hS hT hR hl hX hY H
  · exact xb_1 hx hS hT hR hl hX hY H
  · exact xb_2 hx hS hT hR hl hX hY H
  · exact xb_3 hx hS hT hR hl hX hY H
  · exact xb_4 hx hS hT hR hl hX hY H
  · exact xb_5 hx hS hT hR hl hX hY H
  · exact xb_6 hx hS hT hR hl hX hY H
  · exact xb_7 hx hS hT hR hl hX hY H
  · exact xb_8 hx hS hT hR hl hX hY H
  · exact xb_9 hx hS hT hR hl hX hY H
  · exact xb_10 hx hS hT hR hl hX hY H
  · exact xb_11 hx hS hT hR hl hX hY H
  · exact xb_12 hx hS hT hR hl hX hY H
  · exact xb_13 hx hS hT hR hl hX hY H
  · exact xb_14 hx hS hT hR hl hX hY H
  · exact xb_15 hx hS hT hR hl hX hY H
  · exact xb_16 hx hS hT hR hl hX hY H
  · exact xb_17 hx hS hT hR hl hX hY H
  · exact xb_18 hx hS hT hR hl hX hY H
  · exact xb_19 hx hS hT hR hl hX hY H
  · exact xb_20 hx hS hT hR hl hX hY H
theorem xg_fire {post : SX → Prop} {i t s k : Nat} {a b : Int32} {P : PSt} {R : List Tk} (hx : HA f_time a_partStage a_stageKind a_stageA a_stageB i t s k a b) (h1t : 1 ≤ t) (hS : RepA a_due a_count a_held a_heldY a_hasHeld a_hasHeldY a_queueSize a_queueIsOfX a_queueValue a_queueDue i P) (ok : okS k b P) (hT : f_tasks = nI R.length) (hR : rps a_taskWhat a_taskPart a_taskValue R) (hl : R.length + 9 ≤ 128) (H : ∀ u', Eff (f_time, f_sent, f_stageCount, f_tasks, a_sourceEnded, a_stageKind, a_stageA, a_stageB, a_stageParts, a_partStage, a_partUser, a_partX, a_partY, a_phase, a_beganAfter, a_due, a_count, a_held, a_heldY, a_hasHeld, a_hasHeldY, a_queueSize, a_queueIsOfX, a_queueValue, a_queueDue, a_subStatus, a_subCode, a_subEnd, a_subDemand, a_subRequests, a_subDelivered, a_subWaiting, a_waitValue, a_history, a_taskWhat, a_taskPart, a_taskValue) u' i (fi k a b t P).1 (fi k a b t P).2 R → post u') : wpX_fireTimer post (f_time, f_sent, f_stageCount, f_tasks, a_sourceEnded, a_stageKind, a_stageA, a_stageB, a_stageParts, a_partStage, a_partUser, a_partX, a_partY, a_phase, a_beganAfter, a_due, a_count, a_held, a_heldY, a_hasHeld, a_hasHeldY, a_queueSize, a_queueIsOfX, a_queueValue, a_queueDue, a_subStatus, a_subCode, a_subEnd, a_subDemand, a_subRequests, a_subDelivered, a_subWaiting, a_waitValue, a_history, a_taskWhat, a_taskPart, a_taskValue) (nI i) := by
  obtain ⟨d, c, h, hy, f, fy, qx, q, ox, oy⟩ := P
  by_cases h11 : k = 11
  · subst h11
    exact xf_11 hx h1t hS ok hT hR hl H
  · by_cases hdt : d = t
    · have hk : tmd1 k = true := by
        rcases Bool.eq_false_or_eq_true (tmd1 k) with z | z
        · exact z
        · exfalso
          have hd0 : d = 0 := ok.2.2.2.2.2.1 z
          omega
      simp only [tmd1, tmd, Bool.or_eq_true, beq_iff_eq] at hk
      rcases hk with e | ((e | e) | e) | e
      · subst e; exact xf_1 hx h1t hS ok hT hR hl hdt H
      · exact absurd e h11
      · subst e; exact xf_12 hx h1t hS ok hT hR hl hdt H
      · subst e; exact xf_14 hx h1t hS ok hT hR hl hdt H
      · subst e; exact xf_15 hx h1t hS ok hT hR hl hdt H
    · exact xf_no hx h1t hS ok hT hR hl h11 hdt H
end
