/-! ===== restart, the constructors ===== -/
section
variable {f_time : Int32} {f_sent : Int32} {f_stageCount : Int32} {f_tasks : Int32} {a_sourceEnded : (Nat → Int32)} {a_stageKind : (Nat → Int32)} {a_stageA : (Nat → Int32)} {a_stageB : (Nat → Int32)} {a_stageParts : (Nat → Int32)} {a_partStage : (Nat → Int32)} {a_partUser : (Nat → Int32)} {a_partX : (Nat → Int32)} {a_partY : (Nat → Int32)} {a_phase : (Nat → Int32)} {a_beganAfter : (Nat → Int32)} {a_due : (Nat → Int32)} {a_count : (Nat → Int32)} {a_held : (Nat → Int32)} {a_heldY : (Nat → Int32)} {a_hasHeld : (Nat → Int32)} {a_hasHeldY : (Nat → Int32)} {a_queueSize : (Nat → Int32)} {a_queueIsOfX : (Nat → Int32)} {a_queueValue : (Nat → Int32)} {a_queueDue : (Nat → Int32)} {a_subStatus : (Nat → Int32)} {a_subCode : (Nat → Int32)} {a_subEnd : (Nat → Int32)} {a_subDemand : (Nat → Int64)} {a_subRequests : (Nat → Int32)} {a_subDelivered : (Nat → Int32)} {a_subWaiting : (Nat → Int32)} {a_waitValue : (Nat → Int32)} {a_history : (Nat → Int64)} {a_taskWhat : (Nat → Int32)} {a_taskPart : (Nat → Int32)} {a_taskValue : (Nat → Int32)}
theorem xfr_32 {post : SX → Prop} (H : ∀ (ss sc se sr sv sw : Nat → Int32) (sd : Nat → Int64), (∀ j, j < 3 → ss j = -1 ∧ sc j = 0 ∧ se j = 0 ∧ sd j = 0 ∧ sr j = 0 ∧ sv j = 0 ∧ sw j = 0) → post (f_time, f_sent, f_stageCount, f_tasks, a_sourceEnded, a_stageKind, a_stageA, a_stageB, a_stageParts, a_partStage, a_partUser, a_partX, a_partY, a_phase, a_beganAfter, a_due, a_count, a_held, a_heldY, a_hasHeld, a_hasHeldY, a_queueSize, a_queueIsOfX, a_queueValue, a_queueDue, ss, sc, se, sd, sr, sv, sw, a_waitValue, a_history, a_taskWhat, a_taskPart, a_taskValue)) :
    ∀ (e id : Nat) (ss sc se sr sv sw : Nat → Int32) (sd : Nat → Int64), id + e = 3 → (∀ j, j < id → ss j = -1 ∧ sc j = 0 ∧ se j = 0 ∧ sd j = 0 ∧ sr j = 0 ∧ sv j = 0 ∧ sw j = 0) → wX_forgetRuns_32 post (e + 1) (nI id) f_time f_sent f_stageCount f_tasks a_sourceEnded a_stageKind a_stageA a_stageB a_stageParts a_partStage a_partUser a_partX a_partY a_phase a_beganAfter a_due a_count a_held a_heldY a_hasHeld a_hasHeldY a_queueSize a_queueIsOfX a_queueValue a_queueDue (ss) (sc) (se) (sd) (sr) (sv) (sw) a_waitValue a_history a_taskWhat a_taskPart a_taskValue := by
  intro e
  induction e with
  | zero =>
    intro id ss sc se sr sv sw sd hi h
    have : id = 3 := by omega
    subst this
    exact br_t (by decide) (H ss sc se sr sv sw sd h)
  | succ e ih =>
    intro id ss sc se sr sv sw sd hi h
    have hcl : (nI id).toNatClampNeg = id := nI_clamp (by omega)
    have hin : vp_in (nI id) 3 := vp_in_nI (by omega) (by decide)
    refine br_f (nI_ge (b := 3) (by omega) (by decide)) ⟨hin, nm_r (e' := upd ss id (-1)) (by rw [hcl]) ⟨hin, nm_r (e' := upd sc id 0) (by rw [hcl]) ⟨hin, nm_r (e' := upd se id 0) (by rw [hcl]) ⟨hin, nm_r (e' := vp_updL sd id 0) (by rw [hcl]) ⟨hin, nm_r (e' := upd sr id 0) (by rw [hcl]) ⟨hin, nm_r (e' := upd sv id 0) (by rw [hcl]) ⟨hin, nm_r (e' := upd sw id 0) (by rw [hcl]) (nm_r (nI_1 id) ?_)⟩⟩⟩⟩⟩⟩⟩
    refine ih (id + 1) _ _ _ _ _ _ _ (by omega) (fun j hj => ?_)
    by_cases e1 : j = id
    · subst e1
      exact ⟨pk_us, pk_us, pk_us, pk_uLs, pk_us, pk_us, pk_us⟩
    · rw [pk_un e1, pk_un e1, pk_un e1, pk_uLn e1, pk_un e1, pk_un e1, pk_un e1]
      exact h j (by omega)
theorem xfr_12 {post : SX → Prop} (H : ∀ so : Nat → Int32, (∀ s, s < 3 → so s = 0) → ∃ n32, wX_forgetRuns_32 post n32 0 f_time f_sent f_stageCount f_tasks (so) a_stageKind a_stageA a_stageB a_stageParts a_partStage a_partUser a_partX a_partY a_phase a_beganAfter a_due a_count a_held a_heldY a_hasHeld a_hasHeldY a_queueSize a_queueIsOfX a_queueValue a_queueDue a_subStatus a_subCode a_subEnd a_subDemand a_subRequests a_subDelivered a_subWaiting a_waitValue a_history a_taskWhat a_taskPart a_taskValue) :
    ∀ (e i : Nat) (so : Nat → Int32), i + e = 3 → (∀ s, s < i → so s = 0) → wX_forgetRuns_12 post f_time f_sent f_stageCount f_tasks (e + 1) (nI i) (so) a_stageKind a_stageA a_stageB a_stageParts a_partStage a_partUser a_partX a_partY a_phase a_beganAfter a_due a_count a_held a_heldY a_hasHeld a_hasHeldY a_queueSize a_queueIsOfX a_queueValue a_queueDue a_subStatus a_subCode a_subEnd a_subDemand a_subRequests a_subDelivered a_subWaiting a_waitValue a_history a_taskWhat a_taskPart a_taskValue := by
  intro e
  induction e with
  | zero =>
    intro i so hi h
    have : i = 3 := by omega
    subst this
    exact br_t (by decide) (H so h)
  | succ e ih =>
    intro i so hi h
    have hcl : (nI i).toNatClampNeg = i := nI_clamp (by omega)
    have hin : vp_in (nI i) 3 := vp_in_nI (by omega) (by decide)
    refine br_f (nI_ge (b := 3) (by omega) (by decide)) ⟨hin, nm_r (e' := upd so i 0) (by rw [hcl]; rfl) (nm_r (nI_1 i) ?_)⟩
    refine ih (i + 1) _ (by omega) (fun s hs => ?_)
    by_cases e1 : s = i
    · subst e1; exact pk_us
    · rw [pk_un e1]; exact h s (by omega)
end
theorem xg_forget {post : SX → Prop} {u : SX} (H : ∀ u', x_time u' = 0 → x_sent u' = 0 → (∀ (ns : Nat) (K A B : Nat → Nat) (oa ob : Nat → Int32), TXt ns K A B oa ob (x_st2 u) → TXt ns K A B oa ob (x_st2 u')) → (∀ R, RepS u R → RepS u' R) → (∀ s, s < 3 → x_sourceEnded u' s = 0) → (∀ j hh, j < 3 → (∀ i, i < 16 → x_history u (16 * j + i) = hh i) → RepU u' j (-1, 0, 0, 0, 0, [], hh)) → (∀ j, j < 3 → x_subRequests u' j = 0) → post u') : wpX_forgetRuns post u := by
  obtain ⟨f_time, f_sent, f_stageCount, f_tasks, a_sourceEnded, a_stageKind, a_stageA, a_stageB, a_stageParts, a_partStage, a_partUser, a_partX, a_partY, a_phase, a_beganAfter, a_due, a_count, a_held, a_heldY, a_hasHeld, a_hasHeldY, a_queueSize, a_queueIsOfX, a_queueValue, a_queueDue, a_subStatus, a_subCode, a_subEnd, a_subDemand, a_subRequests, a_subDelivered, a_subWaiting, a_waitValue, a_history, a_taskWhat, a_taskPart, a_taskValue⟩ := u
  refine ⟨4, xfr_12 (f_time := 0) (f_sent := 0) (fun so hso => ⟨4, xfr_32 (f_time := 0) (f_sent := 0) (a_sourceEnded := so) (fun ss sc se sr sv sw sd h => ?_) 3 0 _ _ _ _ _ _ _ rfl (fun j hj => by omega)⟩) 3 0 _ rfl (fun s hs => by omega)⟩
  refine H (0, 0, f_stageCount, f_tasks, so, a_stageKind, a_stageA, a_stageB, a_stageParts, a_partStage, a_partUser, a_partX, a_partY, a_phase, a_beganAfter, a_due, a_count, a_held, a_heldY, a_hasHeld, a_hasHeldY, a_queueSize, a_queueIsOfX, a_queueValue, a_queueDue, ss, sc, se, sd, sr, sv, sw, a_waitValue, a_history, a_taskWhat, a_taskPart, a_taskValue) rfl rfl (fun ns K A B oa ob hT => ?_) (fun R hR => xe_stk' (xe_stk hR).1 (xe_stk hR).2) hso (fun j hh hj hi => ?_) (fun j hj => (h j hj).2.2.2.2.1)
  · rw [xe_st2] at hT ⊢
    exact hT
  · obtain ⟨h1, h2, h3, h4, h5, h6, h7⟩ := h j hj
    exact xe_ru' ⟨h1, h2, h3, by decide, h4, h6, h7, Nat.zero_le _, fun i e he => absurd he (by simp), hi⟩
section
variable {f_stages : Int32} {f_heard : Int32} {f_now : Int32} {f_calls : Int64} {f_parts : Int32} {f_start : Int64} {f_at : Int32} {f_nextX : Int32} {f_nextY : Int32} {f_x : Int32} {f_y : Int32} {a_kind : (Nat → Int32)} {a_opA : (Nat → Int32)} {a_opB : (Nat → Int32)} {a_heardBy : (Nat → Int32)} {a_what : (Nat → Int32)} {a_said : (Nat → Int32)} {a_when : (Nat → Int64)} {a_over : (Nat → Int32)} {a_part : (Nat → Int32)} {a_first : (Nat → Int32)} {a_second : (Nat → Int32)} {a_user : (Nat → Int32)} {a_goStage : (Nat → Int32)} {a_goStep : (Nat → Int32)} {a_done : (Nat → Int32)} {a_val : (Nat → Int32)} {a_mom : (Nat → Int64)} {a_cnt : (Nat → Int32)} {a_end : (Nat → Int32)} {a_endMom : (Nat → Int64)} {a_begun : (Nat → Int32)} {a_status : (Nat → Int32)} {a_stageOf : (Nat → Int32)} {a_began : (Nat → Int64)} {a_taken : (Nat → Int32)} {a_demand : (Nat → Int64)} {a_asked : (Nat → Int32)} {a_code : (Nat → Int32)} {a_waits : (Nat → Int32)} {a_waiting : (Nat → Int32)} {a_came : (Nat → Int32)} {a_given : (Nat → Int32)} {a_got : (Nat → Int64)}
theorem yfr_17 {post : SY → Prop} (H : ∀ (ov ss tk aq sc wt cm gv : Nat → Int32) (sd : Nat → Int64), (∀ j, j < 3 → ov j = 0 ∧ ss j = -1 ∧ tk j = 0 ∧ sd j = 0 ∧ aq j = 0 ∧ sc j = 0 ∧ wt j = 0 ∧ cm j = -1 ∧ gv j = 0) → post (f_stages, f_heard, f_now, f_calls, f_parts, f_start, f_at, f_nextX, f_nextY, f_x, f_y, a_kind, a_opA, a_opB, a_heardBy, a_what, a_said, a_when, ov, a_part, a_first, a_second, a_user, a_goStage, a_goStep, a_done, a_val, a_mom, a_cnt, a_end, a_endMom, a_begun, ss, a_stageOf, a_began, tk, sd, aq, sc, wt, a_waiting, cm, gv, a_got)) :
    ∀ (e id : Nat) (ov ss tk aq sc wt cm gv : Nat → Int32) (sd : Nat → Int64), id + e = 3 → (∀ j, j < id → ov j = 0 ∧ ss j = -1 ∧ tk j = 0 ∧ sd j = 0 ∧ aq j = 0 ∧ sc j = 0 ∧ wt j = 0 ∧ cm j = -1 ∧ gv j = 0) → wY_restart_17 post (e + 1) (nI id) f_stages f_heard f_now f_calls f_parts f_start f_at f_nextX f_nextY f_x f_y a_kind a_opA a_opB a_heardBy a_what a_said a_when (ov) a_part a_first a_second a_user a_goStage a_goStep a_done a_val a_mom a_cnt a_end a_endMom a_begun (ss) a_stageOf a_began (tk) (sd) (aq) (sc) (wt) a_waiting (cm) (gv) a_got := by
  intro e
  induction e with
  | zero =>
    intro id ov ss tk aq sc wt cm gv sd hi h
    have : id = 3 := by omega
    subst this
    exact br_t (by decide) (H ov ss tk aq sc wt cm gv sd h)
  | succ e ih =>
    intro id ov ss tk aq sc wt cm gv sd hi h
    have hcl : (nI id).toNatClampNeg = id := nI_clamp (by omega)
    have hin : vp_in (nI id) 3 := vp_in_nI (by omega) (by decide)
    refine br_f (nI_ge (b := 3) (by omega) (by decide)) ⟨hin, nm_r (e' := upd ov id 0) (by rw [hcl]; rfl) ⟨hin, nm_r (e' := upd ss id (-1)) (by rw [hcl]) ⟨hin, nm_r (e' := upd tk id 0) (by rw [hcl]) ⟨hin, nm_r (e' := vp_updL sd id 0) (by rw [hcl]) ⟨hin, nm_r (e' := upd aq id 0) (by rw [hcl]) ⟨hin, nm_r (e' := upd sc id 0) (by rw [hcl]) ⟨hin, nm_r (e' := upd wt id 0) (by rw [hcl]) ⟨hin, nm_r (e' := upd cm id (-1)) (by rw [hcl]) ⟨hin, nm_r (e' := upd gv id 0) (by rw [hcl]) (nm_r (nI_1 id) ?_)⟩⟩⟩⟩⟩⟩⟩⟩⟩
    refine ih (id + 1) _ _ _ _ _ _ _ _ _ (by omega) (fun j hj => ?_)
    by_cases e1 : j = id
    · subst e1
      exact ⟨pk_us, pk_us, pk_us, pk_uLs, pk_us, pk_us, pk_us, pk_us, pk_us⟩
    · rw [pk_un e1, pk_un e1, pk_un e1, pk_uLn e1, pk_un e1, pk_un e1, pk_un e1, pk_un e1, pk_un e1]
      exact h j (by omega)
end
theorem yg_restart {post : SY → Prop} {v : SY} (H : ∀ v', y_tab v' = y_tab v → y_heard v' = 0 → y_now v' = 0 → y_calls v' = 0 → (∀ s, s < 3 → y_over v' s = 0) → (∀ j hh, j < 3 → (∀ i, i < 16 → y_got v (16 * j + i) = hh i) → RepW v' j (-1, 0, 0, 0, 0, [], hh)) → (∀ j, j < 3 → y_asked v' j = 0) → post v') : wpY_restart post v := by
  obtain ⟨f_stages, f_heard, f_now, f_calls, f_parts, f_start, f_at, f_nextX, f_nextY, f_x, f_y, a_kind, a_opA, a_opB, a_heardBy, a_what, a_said, a_when, a_over, a_part, a_first, a_second, a_user, a_goStage, a_goStep, a_done, a_val, a_mom, a_cnt, a_end, a_endMom, a_begun, a_status, a_stageOf, a_began, a_taken, a_demand, a_asked, a_code, a_waits, a_waiting, a_came, a_given, a_got⟩ := v
  refine ⟨4, yfr_17 (f_heard := 0) (f_now := 0) (f_calls := 0) (fun ov ss tk aq sc wt cm gv sd h => ?_) 3 0 _ _ _ _ _ _ _ _ _ rfl (fun j hj => by omega)⟩
  refine H (f_stages, 0, 0, 0, f_parts, f_start, f_at, f_nextX, f_nextY, f_x, f_y, a_kind, a_opA, a_opB, a_heardBy, a_what, a_said, a_when, ov, a_part, a_first, a_second, a_user, a_goStage, a_goStep, a_done, a_val, a_mom, a_cnt, a_end, a_endMom, a_begun, ss, a_stageOf, a_began, tk, sd, aq, sc, wt, a_waiting, cm, gv, a_got) (ye_tab.trans ye_tab.symm) ye_heard ye_now ye_calls (fun s hs => (h s hs).1) (fun j hh hj hi => ?_) (fun j hj => (h j hj).2.2.2.2.1)
  obtain ⟨h1, h2, h3, h4, h5, h6, h7, h8, h9⟩ := h j hj
  exact ye_rw' ⟨h2, fun _ => h6, h4, h9, h7, Nat.zero_le _, fun i e he => absurd he (by simp), hi, fun y => absurd y (by decide)⟩
theorem rl_fresh {k ns : Nat} {K A B : Nat → Nat} {oa ob : Nat → Int32} {u : SX} {v : SY} (hT : TXt ns K A B oa ob (x_st2 u)) (hTY : TYt ns K A B oa ob (y_kind v) (y_opA v) (y_opB v)) (hst : y_stages v = nI ns) (h1 : x_time u = 0) (h2 : x_sent u = 0) (h3 : RepS u []) (h4 : ∀ s, s < 3 → x_sourceEnded u s = 0) (h5 : y_heard v = 0) (h6 : y_now v = 0) (h7 : y_calls v = 0) (h8 : ∀ s, s < 3 → y_over v s = 0) (h9 : ∀ j, j < 3 → ∃ hh, RepU u j (-1, 0, 0, 0, 0, [], hh) ∧ RepW v j (-1, 0, 0, 0, 0, [], hh)) (h10 : ∀ j, j < 3 → x_subRequests u j = 0) (h11 : ∀ j, j < 3 → y_asked v j = 0) : i_Rel k u v := by
  obtain ⟨f, hf⟩ := ch3 h9
  refine ⟨ns, K, A, B, oa, ob, 0, 0, [], fun j => (-1, 0, 0, 0, 0, [], f j), Nat.zero_le _, ⟨hT, h1, h2, h3⟩, ⟨hTY, hst, h6, h5, fun h g hg => absurd hg (by simp), h7⟩, ⟨by decide, by decide, List.Pairwise.nil, ⟨fun w hw => absurd hw (by simp [whs]), fun w hw => absurd hw (by simp [whs])⟩⟩, fun s hs => ⟨false, h4 s hs, h8 s hs⟩, fun j hj => ?_⟩
  exact ⟨(hf j hj).1, (hf j hj).2, (h10 j hj).trans (h11 j hj).symm, ⟨0, by decide, h11 j hj⟩, fun h => absurd (show (-1 : Int32) = 0 from h) (by decide)⟩
theorem ru_h {u : SX} {j : Nat} {s : Sb} (h : RepU u j s) : ∀ i, i < 16 → x_history u (16 * j + i) = s.2.2.2.2.2.2 i := by
  obtain ⟨st, co, en, dm, dv, ws, hh⟩ := s
  exact h.2.2.2.2.2.2.2.2.2
theorem rw_h {v : SY} {j : Nat} {s : Sb} (h : RepW v j s) : ∀ i, i < 16 → y_got v (16 * j + i) = s.2.2.2.2.2.2 i := by
  obtain ⟨st, co, en, dm, dv, ws, hh⟩ := s
  exact h.2.2.2.2.2.2.2.1
theorem rd_restart {k : Nat} {u : SX} {v : SY} (I : i_Rel k u v) : wpX_restart (fun u' => wpY_restart (fun v' => i_Rel (k + 4) u' v') v) u := by
  obtain ⟨ns, K, A, B, oa, ob, cc, t, LG, S, hck, hX, hY, hC, hSE, hJ⟩ := I
  obtain ⟨f_time, f_sent, f_stageCount, f_tasks, a_sourceEnded, a_stageKind, a_stageA, a_stageB, a_stageParts, a_partStage, a_partUser, a_partX, a_partY, a_phase, a_beganAfter, a_due, a_count, a_held, a_heldY, a_hasHeld, a_hasHeldY, a_queueSize, a_queueIsOfX, a_queueValue, a_queueDue, a_subStatus, a_subCode, a_subEnd, a_subDemand, a_subRequests, a_subDelivered, a_subWaiting, a_waitValue, a_history, a_taskWhat, a_taskPart, a_taskValue⟩ := u
  unfold wpX_restart
  refine xg_forget (fun u' a1 a2 a3 a4 a5 a6 a7 => ?_)
  have hy : wpY_restart (fun v' => i_Rel (k + 4) u' v') v := by
    refine yg_restart (fun v' b1 b2 b3 b4 b5 b6 b7 => ?_)
    obtain ⟨t1, t2, t3, t4⟩ := yt_eq b1
    exact rl_fresh (a3 _ _ _ _ _ _ hX.1) (by rw [t2, t3, t4]; exact hY.1) (t1.trans hY.2.1) a1 a2 (a4 _ hX.2.2.2) a5 b2 b3 b4 b5 (fun j hj => ⟨(S j).2.2.2.2.2.2, a6 j _ hj (ru_h (hJ j hj).1), b6 j _ hj (rw_h (hJ j hj).2.1)⟩) a7 b7
  obtain ⟨f_time, f_sent, f_stageCount, f_tasks, a_sourceEnded, a_stageKind, a_stageA, a_stageB, a_stageParts, a_partStage, a_partUser, a_partX, a_partY, a_phase, a_beganAfter, a_due, a_count, a_held, a_heldY, a_hasHeld, a_hasHeldY, a_queueSize, a_queueIsOfX, a_queueValue, a_queueDue, a_subStatus, a_subCode, a_subEnd, a_subDemand, a_subRequests, a_subDelivered, a_subWaiting, a_waitValue, a_history, a_taskWhat, a_taskPart, a_taskValue⟩ := u'
  exact hy
theorem rd_init : wpX_init (fun u => wpY_init (fun v => i_Rel 0 u v)) := by
  unfold wpX_init
  refine xg_forget (fun u' a1 a2 a3 a4 a5 a6 a7 => ?_)
  have hy : wpY_init (fun v => i_Rel 0 u' v) := by
    unfold wpY_init
    refine yg_restart (fun v' b1 b2 b3 b4 b5 b6 b7 => ?_)
    obtain ⟨t1, t2, t3, t4⟩ := yt_eq b1
    have hTB : TB (fun _ => 0) (fun _ => 0) (fun _ => 0) 0 := ⟨by decide, fun s hs => absurd hs (by omega)⟩
    have hr : i_Rel 0 u' v' := rl_fresh (ns := 0) (K := fun _ => 0) (A := fun _ => 0) (B := fun _ => 0) (oa := fun _ => 0) (ob := fun _ => 0) (a3 _ _ _ _ _ _ ⟨hTB, rfl, fun σ hσ => absurd hσ (by omega)⟩) ⟨hTB, fun σ hσ => absurd hσ (by omega)⟩ (t1.trans rfl) a1 a2 (a4 [] ⟨rfl, True.intro⟩) a5 b2 b3 b4 b5 (fun j hj => ⟨fun _ => 0, a6 j _ hj (fun _ _ => rfl), b6 j _ hj (fun _ _ => rfl)⟩) a7 b7
    obtain ⟨f_stages, f_heard, f_now, f_calls, f_parts, f_start, f_at, f_nextX, f_nextY, f_x, f_y, a_kind, a_opA, a_opB, a_heardBy, a_what, a_said, a_when, a_over, a_part, a_first, a_second, a_user, a_goStage, a_goStep, a_done, a_val, a_mom, a_cnt, a_end, a_endMom, a_begun, a_status, a_stageOf, a_began, a_taken, a_demand, a_asked, a_code, a_waits, a_waiting, a_came, a_given, a_got⟩ := v'
    exact hr
  obtain ⟨f_time, f_sent, f_stageCount, f_tasks, a_sourceEnded, a_stageKind, a_stageA, a_stageB, a_stageParts, a_partStage, a_partUser, a_partX, a_partY, a_phase, a_beganAfter, a_due, a_count, a_held, a_heldY, a_hasHeld, a_hasHeldY, a_queueSize, a_queueIsOfX, a_queueValue, a_queueDue, a_subStatus, a_subCode, a_subEnd, a_subDemand, a_subRequests, a_subDelivered, a_subWaiting, a_waitValue, a_history, a_taskWhat, a_taskPart, a_taskValue⟩ := u'
  exact hy
