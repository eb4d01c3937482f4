/-! ===== subscribe ===== -/
section
variable {f_time : Int32} {f_sent : Int32} {f_stageCount : Int32} {f_tasks : Int32} {a_sourceEnded : (Nat → Int32)} {a_stageKind : (Nat → Int32)} {a_stageA : (Nat → Int32)} {a_stageB : (Nat → Int32)} {a_stageParts : (Nat → Int32)} {a_partStage : (Nat → Int32)} {a_partUser : (Nat → Int32)} {a_partX : (Nat → Int32)} {a_partY : (Nat → Int32)} {a_phase : (Nat → Int32)} {a_beganAfter : (Nat → Int32)} {a_due : (Nat → Int32)} {a_count : (Nat → Int32)} {a_held : (Nat → Int32)} {a_heldY : (Nat → Int32)} {a_hasHeld : (Nat → Int32)} {a_hasHeldY : (Nat → Int32)} {a_queueSize : (Nat → Int32)} {a_queueIsOfX : (Nat → Int32)} {a_queueValue : (Nat → Int32)} {a_queueDue : (Nat → Int32)} {a_subStatus : (Nat → Int32)} {a_subCode : (Nat → Int32)} {a_subEnd : (Nat → Int32)} {a_subDemand : (Nat → Int64)} {a_subRequests : (Nat → Int32)} {a_subDelivered : (Nat → Int32)} {a_subWaiting : (Nat → Int32)} {a_waitValue : (Nat → Int32)} {a_history : (Nat → Int64)} {a_taskWhat : (Nat → Int32)} {a_taskPart : (Nat → Int32)} {a_taskValue : (Nat → Int32)}
theorem xg_sub {post : Int32 → SX → Prop} {id ns s t cc : Nat} {K A B sg us : Nat → Nat} {oa ob : Nat → Int32} {LG : List Lg} {hh : Nat → Int64} (hid : id < 3) (hX : RXg ns K A B oa ob t LG (f_time, f_sent, f_stageCount, f_tasks, a_sourceEnded, a_stageKind, a_stageA, a_stageB, a_stageParts, a_partStage, a_partUser, a_partX, a_partY, a_phase, a_beganAfter, a_due, a_count, a_held, a_heldY, a_hasHeld, a_hasHeldY, a_queueSize, a_queueIsOfX, a_queueValue, a_queueDue, a_subStatus, a_subCode, a_subEnd, a_subDemand, a_subRequests, a_subDelivered, a_subWaiting, a_waitValue, a_history, a_taskWhat, a_taskPart, a_taskValue)) (hs : s < ns) (h9 : sz K A B s ≤ 9) (hLY : LYf K A B sg us 13 0 s) (ht2 : t ≤ 200) (hcc : cc < 2900000000) (hLG : ∀ g ∈ LG, g.2.2.2 / 256 % 4294967296 ≤ cc + 1) (hhi : ∀ j, j < 16 → a_history (16 * id + j) = hh j)
    (KK : ∀ u' H F bg, AR (eU (mkE id (sz K A B s) t (mo t 1 (cc + 1)) 0 K A B sg us oa ob (fun _ => t) (fun _ => LG) LG (0, 0, 0, 0, 0, [], hh)) t (mo t 1 (cc + 1)) (fun _ => t) (fun _ => LG) LG) (mo t 1 (cc + 1)) (cc + 1) u' H F bg → (∀ j, j < 3 → j ≠ id → FO2 j ns (f_time, f_sent, f_stageCount, f_tasks, a_sourceEnded, a_stageKind, a_stageA, a_stageB, a_stageParts, a_partStage, a_partUser, a_partX, a_partY, a_phase, a_beganAfter, a_due, a_count, a_held, a_heldY, a_hasHeld, a_hasHeldY, a_queueSize, a_queueIsOfX, a_queueValue, a_queueDue, a_subStatus, a_subCode, a_subEnd, a_subDemand, a_subRequests, a_subDelivered, a_subWaiting, a_waitValue, a_history, a_taskWhat, a_taskPart, a_taskValue) u') → RXg ns K A B oa ob t LG u' → x_sourceEnded u' = a_sourceEnded → x_subRequests u' = upd a_subRequests id 0 → post (nI (sz K A B s)) u') : wpX_subscribe post (f_time, f_sent, f_stageCount, f_tasks, a_sourceEnded, a_stageKind, a_stageA, a_stageB, a_stageParts, a_partStage, a_partUser, a_partX, a_partY, a_phase, a_beganAfter, a_due, a_count, a_held, a_heldY, a_hasHeld, a_hasHeldY, a_queueSize, a_queueIsOfX, a_queueValue, a_queueDue, a_subStatus, a_subCode, a_subEnd, a_subDemand, a_subRequests, a_subDelivered, a_subWaiting, a_waitValue, a_history, a_taskWhat, a_taskPart, a_taskValue) (nI id) (nI s) := by
  have hcl : (nI id).toNatClampNeg = id := nI_clamp (by omega)
  have hin : vp_in (nI id) 3 := vp_in_nI hid (by decide)
  obtain ⟨hT, htm, hse, hS0⟩ := hX
  have hS := xe_stk hS0
  have hT1 := hT
  rw [xe_st2] at hT1
  have hTB := hT1.1
  have h12 := hTB.1
  have hsc : f_stageCount = nI ns := hT1.2.1
  have hTA := sb_TA hT1
  have hpos := tr_pos hTB hs
  have hok := tr_ok hTB 13 0 s hs hLY
  have hr : sg (sz K A B s - 1) = s := by
    have := tr_root hLY
    rw [Nat.zero_add] at this
    exact this
  have hcs : (nI s).toNatClampNeg = s := nI_clamp (by omega)
  have hps := (hTA s hs).2.2.2
  unfold wpX_subscribe
  refine xq_isId hid (br_f (by decide) (xf_stage (ns := ns) (by omega) hsc (fun _ => br_f (by decide) ⟨vp_in_nI (by omega) (by decide), nm_r (e' := nI (sz K A B s)) (by rw [hcs]; exact hps) (br_t (nI_le (b := 9) h9 (by decide)) (nm_r (e' := nI (9 * id)) (by rw [show (9 : Int32) = nI 9 from rfl, pk_mul, Nat.mul_comm]) (nm_r (e' := nI (9 * id + (sz K A B s - 1))) ?_ ?_)))⟩) (fun h => absurd ⟨by rw [cl_nI (by omega)]; exact hs, by rw [cl_nI (by omega)]⟩ h)))
  · rw [nI_add, show (1 : Int32) = nI 1 from rfl, pk_sub (by omega)]
    congr 1
    omega
  · refine ⟨hin, nm_r (e' := upd a_subStatus id 0) (by rw [hcl]) ⟨hin, nm_r (e' := upd a_subCode id 0) (by rw [hcl]) ⟨hin, nm_r (e' := upd a_subEnd id 0) (by rw [hcl]) ⟨hin, nm_r (e' := vp_updL a_subDemand id 0) (by rw [hcl]) ⟨hin, nm_r (e' := upd a_subRequests id 0) (by rw [hcl]) ⟨hin, nm_r (e' := upd a_subDelivered id 0) (by rw [hcl]) ⟨hin, nm_r (e' := upd a_subWaiting id 0) (by rw [hcl]) ?_⟩⟩⟩⟩⟩⟩⟩
    refine xl_clr hid (fun ph pu du co he1 hY1 hH1 hHY1 qs hclr => ?_)
    refine xl_lay hid hTB hs h9 hok hr hTA (fun k hk => (hclr.1 k hk).2.1) (fun ps pu2 px py hLI => ?_)
    refine sb_run (cc := cc) (LG := LG) (hh := hh) hid (by rw [xe_st2]; exact hT1) hs h9 hok hr htm ht2 hse (by omega) hLG (fun k hk => (hclr.1 k hk).1) (fun k hk => ?_) ⟨_, _, _, _, hLI⟩ ⟨pk_us, pk_us, pk_us, by decide, pk_uLs, pk_us, pk_us, Nat.zero_le _, fun j e he2 => absurd he2 (by simp), hhi⟩ hS.1 (fun u' H F bg hA hF => ?_)
    · obtain ⟨c1, c2, c3, c4, c5, c6, c7, c8, c9⟩ := hclr.1 k hk
      exact ⟨c3, c4, c5, c6, c7, c8, fun ⟨e, he2, _⟩ => absurd he2 (by simp), c9, Nat.zero_le _, fun j e he2 => absurd he2 (by simp)⟩
    · have hst := hF.1
      have hx := xr_st2 hst
      have h2 := KK u' H F bg hA (fun j hj hne => ?_) ⟨by rw [hst, xe_st2]; exact hT1, hx.1.trans htm, hx.2.1.trans hse, hA.1.2.2.1⟩ (hx.2.2.1.trans xe_so) (hx.2.2.2.trans xe_sr)
      · obtain ⟨f_time, f_sent, f_stageCount, f_tasks, a_sourceEnded, a_stageKind, a_stageA, a_stageB, a_stageParts, a_partStage, a_partUser, a_partX, a_partY, a_phase, a_beganAfter, a_due, a_count, a_held, a_heldY, a_hasHeld, a_hasHeldY, a_queueSize, a_queueIsOfX, a_queueValue, a_queueDue, a_subStatus, a_subCode, a_subEnd, a_subDemand, a_subRequests, a_subDelivered, a_subWaiting, a_waitValue, a_history, a_taskWhat, a_taskPart, a_taskValue⟩ := u'
        exact h2
      · have hlay := hLI.2.2.2.2
        have hclo := hclr.2
        refine ⟨?_, fun i h1 h2 => ?_, fun s' hs' => ?_, hA.1.2.2.1⟩
        · rw [hst, xe_st2, xe_st2]
          refine ⟨rfl, rfl, fun _ _ => ⟨rfl, rfl, rfl⟩, fun i h1 h2 => ?_⟩
          have l := hlay i (by omega)
          have c := hclo i (by omega)
          exact ⟨l.1, l.2.1.trans c.2.1, l.2.2.1, l.2.2.2⟩
        · have c := hclo i (by omega)
          obtain ⟨c1, c2, c3, c4, c5, c6, c7, c8, c9⟩ := c
          have hout : i < 9 * id ∨ 9 * id + sz K A B s ≤ i := by omega
          have p := hF.2.2.1 i hout
          refine ⟨fun S' hS' => hF.2.1 i hout S' (xe_rep' (xd_frame (xe_rep hS') c3 c4 c5 c6 c7 c8 c9 rfl (fun _ _ => ⟨rfl, rfl⟩))), p.1.trans c1, p.2⟩
        · exact hF.2.2.2 j hne s' (xe_ru' (xs_frame (xe_ru hs') (pk_un hne) (pk_un hne) (pk_un hne) (pk_uLn hne) (pk_un hne) (pk_un hne) (fun _ _ => rfl) (fun _ _ => rfl)))
end
section
variable {f_stages : Int32} {f_heard : Int32} {f_now : Int32} {f_calls : Int64} {f_parts : Int32} {f_start : Int64} {f_at : Int32} {f_nextX : Int32} {f_nextY : Int32} {f_x : Int32} {f_y : Int32} {a_kind : (Nat → Int32)} {a_opA : (Nat → Int32)} {a_opB : (Nat → Int32)} {a_heardBy : (Nat → Int32)} {a_what : (Nat → Int32)} {a_said : (Nat → Int32)} {a_when : (Nat → Int64)} {a_over : (Nat → Int32)} {a_part : (Nat → Int32)} {a_first : (Nat → Int32)} {a_second : (Nat → Int32)} {a_user : (Nat → Int32)} {a_goStage : (Nat → Int32)} {a_goStep : (Nat → Int32)} {a_done : (Nat → Int32)} {a_val : (Nat → Int32)} {a_mom : (Nat → Int64)} {a_cnt : (Nat → Int32)} {a_end : (Nat → Int32)} {a_endMom : (Nat → Int64)} {a_begun : (Nat → Int32)} {a_status : (Nat → Int32)} {a_stageOf : (Nat → Int32)} {a_began : (Nat → Int64)} {a_taken : (Nat → Int32)} {a_demand : (Nat → Int64)} {a_asked : (Nat → Int32)} {a_code : (Nat → Int32)} {a_waits : (Nat → Int32)} {a_waiting : (Nat → Int32)} {a_came : (Nat → Int32)} {a_given : (Nat → Int32)} {a_got : (Nat → Int64)}
theorem yg_sub {post : Int32 → SY → Prop} {id ns s t cc : Nat} {K A B sg us : Nat → Nat} {oa ob : Nat → Int32} {LG : List Lg} {hh : Nat → Int64} (hid : id < 3) (hY : RYg ns K A B oa ob cc t LG (f_stages, f_heard, f_now, f_calls, f_parts, f_start, f_at, f_nextX, f_nextY, f_x, f_y, a_kind, a_opA, a_opB, a_heardBy, a_what, a_said, a_when, a_over, a_part, a_first, a_second, a_user, a_goStage, a_goStep, a_done, a_val, a_mom, a_cnt, a_end, a_endMom, a_begun, a_status, a_stageOf, a_began, a_taken, a_demand, a_asked, a_code, a_waits, a_waiting, a_came, a_given, a_got)) (hs : s < ns) (h9 : sz K A B s ≤ 9) (hLY : LYf K A B sg us 13 0 s) (ht2 : t ≤ 200) (hcc : cc < 2900000000) (hhi : ∀ j, j < 16 → a_got (16 * id + j) = hh j)
    (KK : ∀ v2, y_tab v2 = y_tab (f_stages, f_heard, f_now, f_calls, f_parts, f_start, f_at, f_nextX, f_nextY, f_x, f_y, a_kind, a_opA, a_opB, a_heardBy, a_what, a_said, a_when, a_over, a_part, a_first, a_second, a_user, a_goStage, a_goStep, a_done, a_val, a_mom, a_cnt, a_end, a_endMom, a_begun, a_status, a_stageOf, a_began, a_taken, a_demand, a_asked, a_code, a_waits, a_waiting, a_came, a_given, a_got) → y_log v2 = y_log (f_stages, f_heard, f_now, f_calls, f_parts, f_start, f_at, f_nextX, f_nextY, f_x, f_y, a_kind, a_opA, a_opB, a_heardBy, a_what, a_said, a_when, a_over, a_part, a_first, a_second, a_user, a_goStage, a_goStep, a_done, a_val, a_mom, a_cnt, a_end, a_endMom, a_begun, a_status, a_stageOf, a_began, a_taken, a_demand, a_asked, a_code, a_waits, a_waiting, a_came, a_given, a_got) → y_heard v2 = f_heard → y_over v2 = a_over → y_now v2 = f_now → y_calls v2 = lN (cc + 1) → RepW v2 id (0, 0, 0, 0, 0, [], hh) → (∀ j, j ≠ id → ∀ s', RepW (f_stages, f_heard, f_now, f_calls, f_parts, f_start, f_at, f_nextX, f_nextY, f_x, f_y, a_kind, a_opA, a_opB, a_heardBy, a_what, a_said, a_when, a_over, a_part, a_first, a_second, a_user, a_goStage, a_goStep, a_done, a_val, a_mom, a_cnt, a_end, a_endMom, a_begun, a_status, a_stageOf, a_began, a_taken, a_demand, a_asked, a_code, a_waits, a_waiting, a_came, a_given, a_got) j s' → RepW v2 j s') → (∀ j, j ≠ id → y_taken v2 j = a_taken j ∧ y_stageOf v2 j = a_stageOf j ∧ y_began v2 j = a_began j ∧ y_asked v2 j = a_asked j) → y_taken v2 id = nI 0 → y_stageOf v2 id = nI s → y_began v2 id = lN (mo t 1 (cc + 1)) → y_asked v2 id = 0 → ∀ pst : SY → Prop, (∀ v', post (nI (sz K A B s)) v' → pst v') → wpY_go pst v2) : wpY_subscribe post (f_stages, f_heard, f_now, f_calls, f_parts, f_start, f_at, f_nextX, f_nextY, f_x, f_y, a_kind, a_opA, a_opB, a_heardBy, a_what, a_said, a_when, a_over, a_part, a_first, a_second, a_user, a_goStage, a_goStep, a_done, a_val, a_mom, a_cnt, a_end, a_endMom, a_begun, a_status, a_stageOf, a_began, a_taken, a_demand, a_asked, a_code, a_waits, a_waiting, a_came, a_given, a_got) (nI id) (nI s) := by
  have hcl : (nI id).toNatClampNeg = id := nI_clamp (by omega)
  have hin : vp_in (nI id) 3 := vp_in_nI hid (by decide)
  obtain ⟨⟨hTB, htb⟩, hst, hnw, hhe, hYL, hca⟩ := hY
  have h12 := hTB.1
  have hst' : f_stages = nI ns := hst
  have hnw' : f_now = nI t := hnw
  have hca' : f_calls = lN cc := hca
  refine br_f (nI_pos (by omega)) (br_f (rc_2 hid).2 (yf_known (ns := ns) (by omega) hst' (fun _ => br_f (by decide) ?_) (fun h => absurd ⟨by rw [cl_nI (by omega)]; exact hs, by rw [cl_nI (by omega)]⟩ h)))
  refine yv_whole hTB (fun σ hσ => ⟨(htb σ hσ).1, fun k => ?_, fun k => ?_⟩) hs hLY (fun y => by omega) (fun _ pa fi1 se uu gs gt dn r1 => br_f (by decide) ?_)
  · show a_opA σ = nI (A σ)
    have := (htb σ hσ).2.1
    exact this.trans ((htb σ hσ).2.2.2.2.1 k)
  · show a_opB σ = nI (B σ)
    have := (htb σ hσ).2.2.1
    exact this.trans ((htb σ hσ).2.2.2.2.2 k)
  refine ⟨hin, nm_r (e' := upd a_status id 0) (by rw [hcl]) ⟨hin, nm_r (e' := upd a_taken id 0) (by rw [hcl]) ⟨hin, nm_r (e' := vp_updL a_demand id 0) (by rw [hcl]) ⟨hin, nm_r (e' := upd a_asked id 0) (by rw [hcl]) ⟨hin, nm_r (e' := upd a_code id 0) (by rw [hcl]) ⟨hin, nm_r (e' := upd a_waits id 0) (by rw [hcl]) ⟨hin, nm_r (e' := upd a_came id (-1)) (by rw [hcl]) ⟨hin, nm_r (e' := upd a_given id 0) (by rw [hcl]) ?_⟩⟩⟩⟩⟩⟩⟩⟩
  refine nm_r (e' := lN (cc + 1)) (by rw [hca', lN_1]) ⟨hin, nm_r (e' := upd a_stageOf id (nI s)) (by rw [hcl]) ?_⟩
  refine yr_moment (f_calls := lN (cc + 1)) hnw' ht2 rfl (by omega) ⟨hin, nm_r (e' := vp_updL a_began id (lN (mo t 1 (cc + 1)))) (by rw [hcl]) ?_⟩
  refine KK (f_stages, f_heard, f_now, lN (cc + 1), nI (sz K A B s), f_start, f_at, f_nextX, f_nextY, f_x, f_y, a_kind, a_opA, a_opB, a_heardBy, a_what, a_said, a_when, a_over, pa, fi1, se, uu, gs, gt, dn, a_val, a_mom, a_cnt, a_end, a_endMom, a_begun, upd a_status id 0, upd a_stageOf id (nI s), vp_updL a_began id (lN (mo t 1 (cc + 1))), upd a_taken id 0, vp_updL a_demand id 0, upd a_asked id 0, upd a_code id 0, upd a_waits id 0, a_waiting, upd a_came id (-1), upd a_given id 0, a_got) (ye_tab.trans ye_tab.symm) (ye_log.trans ye_log.symm) ye_heard ye_over ye_now ye_calls (ye_rw' ⟨pk_us, fun _ => pk_us, pk_uLs, pk_us, pk_us, Nat.zero_le _, fun j e he => absurd he (by simp), hhi, fun _ => by rw [pk_us, if_pos rfl]⟩) (fun j hj s' hs' => ye_rw' (rv_frame (ye_rw hs') (pk_un hj) (pk_un hj) (pk_uLn hj) (pk_un hj) (pk_un hj) (pk_un hj) (fun _ _ => rfl) (fun _ _ => rfl))) (fun j hj => ⟨?_, ?_, ?_, ?_⟩) ?_ ?_ ?_ ?_ _ (fun v' h => ?_)
  · show upd a_taken id 0 j = a_taken j
    exact pk_un hj
  · show upd a_stageOf id (nI s) j = a_stageOf j
    exact pk_un hj
  · show vp_updL a_began id (lN (mo t 1 (cc + 1))) j = a_began j
    exact pk_uLn hj
  · show upd a_asked id 0 j = a_asked j
    exact pk_un hj
  · show upd a_taken id 0 id = nI 0
    exact pk_us
  · show upd a_stageOf id (nI s) id = nI s
    exact pk_us
  · show vp_updL a_began id (lN (mo t 1 (cc + 1))) id = lN (mo t 1 (cc + 1))
    exact pk_uLs
  · show upd a_asked id 0 id = 0
    exact pk_us
  · obtain ⟨f_stages, f_heard, f_now, f_calls, f_parts, f_start, f_at, f_nextX, f_nextY, f_x, f_y, a_kind, a_opA, a_opB, a_heardBy, a_what, a_said, a_when, a_over, a_part, a_first, a_second, a_user, a_goStage, a_goStep, a_done, a_val, a_mom, a_cnt, a_end, a_endMom, a_begun, a_status, a_stageOf, a_began, a_taken, a_demand, a_asked, a_code, a_waits, a_waiting, a_came, a_given, a_got⟩ := v'
    exact h
end
theorem rd_subscribe {k : Nat} {u : SX} {v : SY} (hk : k < 2000000000) (I : i_Rel k u v) (v1 v2 : Int32) : wpX_subscribe (fun r u' => wpY_subscribe (fun r' v' => r' = r ∧ i_Rel (k + 4) u' v') v v1 v2) u v1 v2 := by
  have I0 := i_up I
  obtain ⟨ns, K, A, B, oa, ob, cc, t, LG, S, hck, hX, hY, hC, hSE, hJ⟩ := I
  have hTB := hY.1.1
  have h12 := hTB.1
  have ht := hC.1
  have hcc : cc < 2900000000 := by omega
  rcases rc_id v1 with h | ⟨h, h3, h2, h2'⟩ | ⟨id, hid, rfl⟩
  · have hy : wpY_subscribe (fun r' v' => r' = -3 ∧ i_Rel (k + 4) u v') v v1 v2 := by
      obtain ⟨f_stages, f_heard, f_now, f_calls, f_parts, f_start, f_at, f_nextX, f_nextY, f_x, f_y, a_kind, a_opA, a_opB, a_heardBy, a_what, a_said, a_when, a_over, a_part, a_first, a_second, a_user, a_goStage, a_goStep, a_done, a_val, a_mom, a_cnt, a_end, a_endMom, a_begun, a_status, a_stageOf, a_began, a_taken, a_demand, a_asked, a_code, a_waits, a_waiting, a_came, a_given, a_got⟩ := v
      exact br_t h ⟨rfl, I0⟩
    obtain ⟨f_time, f_sent, f_stageCount, f_tasks, a_sourceEnded, a_stageKind, a_stageA, a_stageB, a_stageParts, a_partStage, a_partUser, a_partX, a_partY, a_phase, a_beganAfter, a_due, a_count, a_held, a_heldY, a_hasHeld, a_hasHeldY, a_queueSize, a_queueIsOfX, a_queueValue, a_queueDue, a_subStatus, a_subCode, a_subEnd, a_subDemand, a_subRequests, a_subDelivered, a_subWaiting, a_waitValue, a_history, a_taskWhat, a_taskPart, a_taskValue⟩ := u
    unfold wpX_subscribe
    exact xq_isId0 (Or.inl h) (br_t rfl hy)
  · have hy : wpY_subscribe (fun r' v' => r' = -3 ∧ i_Rel (k + 4) u v') v v1 v2 := by
      obtain ⟨f_stages, f_heard, f_now, f_calls, f_parts, f_start, f_at, f_nextX, f_nextY, f_x, f_y, a_kind, a_opA, a_opB, a_heardBy, a_what, a_said, a_when, a_over, a_part, a_first, a_second, a_user, a_goStage, a_goStep, a_done, a_val, a_mom, a_cnt, a_end, a_endMom, a_begun, a_status, a_stageOf, a_began, a_taken, a_demand, a_asked, a_code, a_waits, a_waiting, a_came, a_given, a_got⟩ := v
      exact br_f h (br_t h2 ⟨rfl, I0⟩)
    obtain ⟨f_time, f_sent, f_stageCount, f_tasks, a_sourceEnded, a_stageKind, a_stageA, a_stageB, a_stageParts, a_partStage, a_partUser, a_partX, a_partY, a_phase, a_beganAfter, a_due, a_count, a_held, a_heldY, a_hasHeld, a_hasHeldY, a_queueSize, a_queueIsOfX, a_queueValue, a_queueDue, a_subStatus, a_subCode, a_subEnd, a_subDemand, a_subRequests, a_subDelivered, a_subWaiting, a_waitValue, a_history, a_taskWhat, a_taskPart, a_taskValue⟩ := u
    unfold wpX_subscribe
    exact xq_isId0 (Or.inr ⟨h, h3⟩) (br_t rfl hy)
  · by_cases hq : cl v2 < ns ∧ v2 = nI (cl v2)
    · obtain ⟨hs, e2⟩ := hq
      generalize cl v2 = s at hs e2
      subst e2
      have hbig := tr_big' hTB hs
      obtain ⟨sg, us, hLY⟩ := tr_exists hTB 13 s hs (by omega) 0
      by_cases h9 : sz K A B s ≤ 9
      · obtain ⟨hx, hyy, hq1, hq2, hact⟩ := hJ id hid
        cases hS : S id with
        | mk st rr =>
        obtain ⟨co, en, dm, dv, ws, hh⟩ := rr
        rw [hS] at hx hyy
        have hhx : ∀ j, j < 16 → x_history u (16 * id + j) = hh j := hx.2.2.2.2.2.2.2.2.2
        have hhy : ∀ j, j < 16 → y_got v (16 * id + j) = hh j := hyy.2.2.2.2.2.2.2.1
        suffices hmain : ∀ u' H F bg, AR (eU (mkE id (sz K A B s) t (mo t 1 (cc + 1)) 0 K A B sg us oa ob (fun _ => t) (fun _ => LG) LG (0, 0, 0, 0, 0, [], hh)) t (mo t 1 (cc + 1)) (fun _ => t) (fun _ => LG) LG) (mo t 1 (cc + 1)) (cc + 1) u' H F bg → (∀ j, j < 3 → j ≠ id → FO2 j ns u u') → RXg ns K A B oa ob t LG u' → x_sourceEnded u' = x_sourceEnded u → x_subRequests u' = upd (x_subRequests u) id 0 → wpY_subscribe (fun r' v' => r' = nI (sz K A B s) ∧ i_Rel (k + 4) u' v') v (nI id) (nI s) by
          obtain ⟨f_time, f_sent, f_stageCount, f_tasks, a_sourceEnded, a_stageKind, a_stageA, a_stageB, a_stageParts, a_partStage, a_partUser, a_partX, a_partY, a_phase, a_beganAfter, a_due, a_count, a_held, a_heldY, a_hasHeld, a_hasHeldY, a_queueSize, a_queueIsOfX, a_queueValue, a_queueDue, a_subStatus, a_subCode, a_subEnd, a_subDemand, a_subRequests, a_subDelivered, a_subWaiting, a_waitValue, a_history, a_taskWhat, a_taskPart, a_taskValue⟩ := u
          exact xg_sub hid hX hs h9 hLY ht hcc (fun g hg => (cq_all (by omega) hC.2.2.2 g.2.2.2 (List.mem_map.mpr ⟨g, hg, rfl⟩)).2.1) hhx hmain
        intro u' H F bg hA hF hX' hso hsr
        suffices hgo : ∀ w, y_tab w = y_tab v → y_log w = y_log v → y_heard w = y_heard v → y_over w = y_over v → y_now w = y_now v → y_calls w = lN (cc + 1) → RepW w id (0, 0, 0, 0, 0, [], hh) → (∀ j, j ≠ id → ∀ s', RepW v j s' → RepW w j s') → (∀ j, j ≠ id → y_taken w j = y_taken v j ∧ y_stageOf w j = y_stageOf v j ∧ y_began w j = y_began v j ∧ y_asked w j = y_asked v j) → y_taken w id = nI 0 → y_stageOf w id = nI s → y_began w id = lN (mo t 1 (cc + 1)) → y_asked w id = 0 → ∀ pst : SY → Prop, (∀ v', (nI (sz K A B s) = nI (sz K A B s) ∧ i_Rel (k + 4) u' v') → pst v') → wpY_go pst w by
          obtain ⟨f_stages, f_heard, f_now, f_calls, f_parts, f_start, f_at, f_nextX, f_nextY, f_x, f_y, a_kind, a_opA, a_opB, a_heardBy, a_what, a_said, a_when, a_over, a_part, a_first, a_second, a_user, a_goStage, a_goStep, a_done, a_val, a_mom, a_cnt, a_end, a_endMom, a_begun, a_status, a_stageOf, a_began, a_taken, a_demand, a_asked, a_code, a_waits, a_waiting, a_came, a_given, a_got⟩ := v
          exact yg_sub (K := K) (A := A) (B := B) (oa := oa) (ob := ob) (LG := LG) (sg := sg) (us := us) hid hY hs h9 hLY ht hcc hhy hgo
        intro w w1 w2 w3 w4 w5 w6 w7 w8 w9 w10 w11 w12 w13 pst hp
        obtain ⟨t1, t2, t3, t4⟩ := yt_eq w1
        obtain ⟨l1, l2, l3, l4⟩ := yl_eq w2
        have hTw : TYt ns K A B oa ob (y_kind w) (y_opA w) (y_opB w) := by rw [t2, t3, t4]; exact hY.1
        refine rl_go (k := k + 4) (ns := ns) (cc := cc + 1) (t := t) (K := K) (A := A) (B := B) (oa := oa) (ob := ob) (LG := LG) (u := u') (fup S id (0, 0, 0, 0, 0, [], hh)) (by omega) (by omega) hX' ⟨hTw, t1.trans hY.2.1, w5.trans hY.2.2.1, w3.trans hY.2.2.2.1, by rw [l1, l2, l3, l4]; exact hY.2.2.2.2.1, w6⟩ ⟨ht, hC.2.1, hC.2.2.1, cq_mono (Nat.le_succ _) (Nat.le_refl _) hC.2.2.2⟩ (fun s' hs' => by rw [hso, w4]; exact hSE s' hs') (fun j hj => ?_) (fun j hj => ?_) (fun j hj => ?_) (fun v' hI _ => hp v' ⟨rfl, hI⟩)
        · by_cases e : j = id
          · subst e; rw [fu_s]; exact w7
          · rw [fu_n e]; exact w8 j e _ (hJ j hj).2.1
        · rw [hsr]
          by_cases e : j = id
          · subst e
            rw [pk_us, w13]
            exact ⟨rfl, 0, by decide, rfl⟩
          · rw [pk_un e, (w9 j e).2.2.2]
            exact ⟨(hJ j hj).2.2.1, (hJ j hj).2.2.2.1⟩
        · by_cases e : j = id
          · subst e
            rw [fu_s]
            exact ⟨fun _ => rj_new hj hcc hTw hs h9 hLY hC.2.2.2 hA w10 w11 w12, fun y => absurd rfl y⟩
          · rw [fu_n e]
            refine ⟨fun h0 => rj_keep hj (hJ j hj) h0 hcc (hF j hj e) ⟨t2, t3, t4, (w9 j e).1, (w9 j e).2.1, (w9 j e).2.2.1⟩, fun _ => (hF j hj e).2.2.1 _ (hJ j hj).1⟩
      · have hy : wpY_subscribe (fun r' v' => r' = -2 ∧ i_Rel (k + 4) u v') v (nI id) (nI s) := by
          have hst := hY.2.1
          have htb := hY.1.2
          have hfr : ∀ w, y_sub w = y_sub v → y_tab w = y_tab v → y_log w = y_log v → y_heard w = y_heard v → y_calls w = y_calls v → y_over w = y_over v → y_now w = y_now v → i_Rel (k + 4) u w := fun w a b c d e f g => rl_frame a b c d e f g I0
          obtain ⟨f_stages, f_heard, f_now, f_calls, f_parts, f_start, f_at, f_nextX, f_nextY, f_x, f_y, a_kind, a_opA, a_opB, a_heardBy, a_what, a_said, a_when, a_over, a_part, a_first, a_second, a_user, a_goStage, a_goStep, a_done, a_val, a_mom, a_cnt, a_end, a_endMom, a_begun, a_status, a_stageOf, a_began, a_taken, a_demand, a_asked, a_code, a_waits, a_waiting, a_came, a_given, a_got⟩ := v
          have hst' : f_stages = nI ns := hst
          refine br_f (nI_pos (by omega)) (br_f (rc_2 hid).2 (yf_known (ns := ns) (by omega) hst' (fun _ => br_f (by decide) ?_) (fun h => absurd ⟨by rw [cl_nI (by omega)]; exact hs, by rw [cl_nI (by omega)]⟩ h)))
          refine yv_whole hTB (fun σ hσ => ⟨(htb σ hσ).1, fun q => ?_, fun q => ?_⟩) hs hLY (fun y pp pa fi1 se uu gs gt dn => br_t rfl ⟨rfl, ?_⟩) (fun y => absurd y h9)
          · show a_opA σ = nI (A σ)
            have := (htb σ hσ).2.1
            exact this.trans ((htb σ hσ).2.2.2.2.1 q)
          · show a_opB σ = nI (B σ)
            have := (htb σ hσ).2.2.1
            exact this.trans ((htb σ hσ).2.2.2.2.2 q)
          · exact hfr (f_stages, f_heard, f_now, f_calls, pp, f_start, f_at, f_nextX, f_nextY, f_x, f_y, a_kind, a_opA, a_opB, a_heardBy, a_what, a_said, a_when, a_over, pa, fi1, se, uu, gs, gt, dn, a_val, a_mom, a_cnt, a_end, a_endMom, a_begun, a_status, a_stageOf, a_began, a_taken, a_demand, a_asked, a_code, a_waits, a_waiting, a_came, a_given, a_got) (ye_sub.trans ye_sub.symm) (ye_tab.trans ye_tab.symm) (ye_log.trans ye_log.symm) (ye_heard.trans ye_heard.symm) (ye_calls.trans ye_calls.symm) (ye_over.trans ye_over.symm) (ye_now.trans ye_now.symm)
        have hsc := hX.1
        obtain ⟨f_time, f_sent, f_stageCount, f_tasks, a_sourceEnded, a_stageKind, a_stageA, a_stageB, a_stageParts, a_partStage, a_partUser, a_partX, a_partY, a_phase, a_beganAfter, a_due, a_count, a_held, a_heldY, a_hasHeld, a_hasHeldY, a_queueSize, a_queueIsOfX, a_queueValue, a_queueDue, a_subStatus, a_subCode, a_subEnd, a_subDemand, a_subRequests, a_subDelivered, a_subWaiting, a_waitValue, a_history, a_taskWhat, a_taskPart, a_taskValue⟩ := u
        have hTx := hsc
        rw [xe_st2] at hTx
        have hsc' : f_stageCount = nI ns := hTx.2.1
        have hps := (sb_TA hTx s hs).2.2.2
        have hcs : (nI s).toNatClampNeg = s := nI_clamp (by omega)
        unfold wpX_subscribe
        exact xq_isId hid (br_f (by decide) (xf_stage (ns := ns) (by omega) hsc' (fun _ => br_f (by decide) ⟨vp_in_nI (by omega) (by decide), nm_r (e' := nI (sz K A B s)) (by rw [hcs]; exact hps) (br_f (nI_ge (a := 9) (by omega) (by omega)) hy)⟩) (fun h => absurd ⟨by rw [cl_nI (by omega)]; exact hs, by rw [cl_nI (by omega)]⟩ h)))
    · have hy : wpY_subscribe (fun r' v' => r' = -3 ∧ i_Rel (k + 4) u v') v (nI id) v2 := by
        have hst := hY.2.1
        obtain ⟨f_stages, f_heard, f_now, f_calls, f_parts, f_start, f_at, f_nextX, f_nextY, f_x, f_y, a_kind, a_opA, a_opB, a_heardBy, a_what, a_said, a_when, a_over, a_part, a_first, a_second, a_user, a_goStage, a_goStep, a_done, a_val, a_mom, a_cnt, a_end, a_endMom, a_begun, a_status, a_stageOf, a_began, a_taken, a_demand, a_asked, a_code, a_waits, a_waiting, a_came, a_given, a_got⟩ := v
        have hst' : f_stages = nI ns := hst
        exact br_f (nI_pos (by omega)) (br_f (rc_2 hid).2 (yf_known (ns := ns) (by omega) hst' (fun y => absurd y hq) (fun _ => br_t rfl ⟨rfl, I0⟩)))
      have hsc := hX.1
      obtain ⟨f_time, f_sent, f_stageCount, f_tasks, a_sourceEnded, a_stageKind, a_stageA, a_stageB, a_stageParts, a_partStage, a_partUser, a_partX, a_partY, a_phase, a_beganAfter, a_due, a_count, a_held, a_heldY, a_hasHeld, a_hasHeldY, a_queueSize, a_queueIsOfX, a_queueValue, a_queueDue, a_subStatus, a_subCode, a_subEnd, a_subDemand, a_subRequests, a_subDelivered, a_subWaiting, a_waitValue, a_history, a_taskWhat, a_taskPart, a_taskValue⟩ := u
      have hsc' : f_stageCount = nI ns := hsc.2.1
      unfold wpX_subscribe
      exact xq_isId hid (br_f (by decide) (xf_stage (ns := ns) (by omega) hsc' (fun y => absurd y hq) (fun _ => br_t rfl hy)))
