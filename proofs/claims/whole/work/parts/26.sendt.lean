/-! ===== a call's tick ===== -/
theorem ts_num {t c b : Nat} (hc : c < 4294967295) (hb : b < 256) : (mo t 1 c + b) / 1099511627776 % 2 = 1 ∧ (mo t 1 c + b) / 256 % 4294967296 = c := by
  unfold mo
  constructor
  · have : t * 2199023255552 + 1 * 1099511627776 + c * 256 + b = (t * 2 + 1) * 1099511627776 + (c * 256 + b) := by omega
    rw [this, Nat.add_comm, Nat.add_mul_div_right _ _ (by decide), Nat.div_eq_of_lt (by omega)]
    omega
  · have : t * 2199023255552 + 1 * 1099511627776 + c * 256 + b = (t * 8589934592 + 4294967296 + c) * 256 + b := by omega
    rw [this, Nat.add_comm, Nat.add_mul_div_right _ _ (by decide), Nat.div_eq_of_lt hb, Nat.zero_add]
    have e1 : t * 8589934592 = t * 2 * 4294967296 := by rw [Nat.mul_assoc]
    have e2 : t * 8589934592 + 4294967296 + c = c + (t * 2 + 1) * 4294967296 := by
      rw [e1, Nat.add_mul, Nat.one_mul]
      generalize t * 2 * 4294967296 = z
      omega
    rw [e2, Nat.add_mul_mod_self_right]
    exact Nat.mod_eq_of_lt (by omega)
theorem ts_hrs {t c b w : Nat} (hc : c < 4294967295) (hb : b < 256) (hw : w / 256 % 4294967296 ≤ c) : hrs (mo t 1 c + b) w = false := by
  have h := ts_num (t := t) hc hb
  unfold hrs
  rw [if_pos h.1, h.2]
  exact decide_eq_false (by omega)
theorem ts_win {t c b r : Nat} (hr : r < 9) (hc : c < 4000000000) (hb : b < 256) : tm t r ≤ mo t 1 c + b ∧ mo t 1 c + b < tm (t + 1) r := by
  unfold tm mo
  rw [Nat.add_mul]
  omega
theorem ts_ck {t c b r : Nat} (hr : r < 9) (hc : c < 4000000000) (hb : b < 256) : ckm r (mo t 1 c + b) = t := by
  have e := tim_mo (t := t) (ph := 1) (nu := c) (b := b) (by decide) (by omega) hb
  have h := ts_win (t := t) hr hc hb
  unfold ckm
  rw [e, if_neg (by omega)]
theorem ts_rn {E : EnvP} {H : Nat → List Ev} {F : Nat → Nat} {q M : Nat} {L : List Lg} {r : Nat} (hrq : r ≠ q) : Rn (eM E M (e_c E) (fup (e_lg E) q L)) H F r = Rn E H F r := by
  show RR (e_kd E r) (e_oa E r) (e_ob E r) r (F r) (fup (e_lg E) q L r) (e_c E r) (H (e_xc E r)) (H (e_yc E r)) = RR (e_kd E r) (e_oa E r) (e_ob E r) r (F r) (e_lg E r) (e_c E r) (H (e_xc E r)) (H (e_yc E r))
  rw [fu_n hrq]
theorem ts_skip {E : EnvP} {u : SX} {H : Nat → List Ev} {F : Nat → Nat} {bg : Nat → Bool} {q t c : Nat} {Lo : List Lg} {g : Lg} (hT : TR E) (hR : RST E u H F bg) (hq : q < e_n E) (hc : c < 4000000000) (hlq : e_lg E q = Lo) (hg : g.2.2.2 = mo t 1 c) (hMM : e_M E ≤ mo t 1 c + (q + 1)) (hcl : ∀ r, r < e_n E → e_c E r = t)
    (hno : bg q = true → fin (H q) = false → e_kd E q = 0 → ¬ (g.1 = cl (e_oa E q) ∧ hrs (F q) g.2.2.2 = true)) : RST (eM E (mo t 1 c + (q + 1)) (e_c E) (fup (e_lg E) q (Lo ++ [g]))) u H F bg := by
  obtain ⟨hI, hC, hS, hD, hC2, hroot, hCW⟩ := hR
  have h9 := hT.2.2.1
  refine ⟨tk_iv hI hMM, fun r hr => ?_, hS, hD, hC2, hroot, fun r hr => ?_⟩
  · have h := hC r hr
    refine ⟨fun hb => ?_, h.2⟩
    have h1 := h.1 hb
    have e : Rn (eM E (mo t 1 c + (q + 1)) (e_c E) (fup (e_lg E) q (Lo ++ [g]))) H F r = Rn E H F r := by
      by_cases hrq : r = q
      · subst hrq
        show RR (e_kd E r) (e_oa E r) (e_ob E r) r (F r) (fup (e_lg E) r (Lo ++ [g]) r) (e_c E r) (H (e_xc E r)) (H (e_yc E r)) = RR (e_kd E r) (e_oa E r) (e_ob E r) r (F r) (e_lg E r) (e_c E r) (H (e_xc E r)) (H (e_yc E r))
        rw [fu_s, hlq]
        by_cases hk : e_kd E r = 0
        · have hO : src (cl (e_oa E r)) r (F r) Lo = H r := by
            have := h1.1
            unfold Rn RR at this
            rw [if_pos hk, hlq] at this
            exact this
          unfold RR
          rw [if_pos hk, if_pos hk, rn_src_app]
          rcases Bool.eq_false_or_eq_true (fin (src (cl (e_oa E r)) r (F r) Lo)) with z | z
          · rw [if_pos z]
          · rw [if_neg (by rw [z]; decide), if_neg (hno hb (by rw [← hO]; exact z) hk), List.append_nil]
        · exact rn_lg hk
      · exact ts_rn hrq
    rw [e]
    exact h1
  · show tm (e_c E r) r ≤ mo t 1 c + (q + 1) ∧ mo t 1 c + (q + 1) < tm (e_c E r + 1) r
    have hr' : r < e_n E := hr
    rw [hcl r hr']
    exact ts_win (by omega) hc (by omega)
theorem ts_go {E : EnvP} {post : SX → Prop} {u : SX} {H : Nat → List Ev} {F : Nat → Nat} {bg : Nat → Bool} {q t c : Nat} {Lo : List Lg} {g : Lg} (hT : TR E) (hR : RST E u H F bg) (hq : q < e_n E) (hc : c < 4000000000) (hlq : e_lg E q = Lo) (hg : g.2.2.2 = mo t 1 c) (hMM : e_M E < mo t 1 c + (q + 1)) (hcl : ∀ r, r < e_n E → e_c E r = t) (het : e_t E = t) (ht2 : t ≤ 200)
    (hlg : ∀ r, r < e_n E → ∀ g' ∈ e_lg E r, g' ∈ e_LG E) (hgL : ∀ g' ∈ Lo ++ [g], g' ∈ e_LG E) (hLG : ∀ g' ∈ e_LG E, g'.2.2.2 / 256 % 4294967296 ≤ c)
    (hph : x_phase u (ab E q) = 1) (hk : e_kd E q = 0) (hs : g.1 = cl (e_oa E q)) (hh : hrs (F q) g.2.2.2 = true) (hwo : wfo [(g.2.1 + 1, g.2.2.1)])
    (K : ∀ u' H' F' bg', RST (eM E (mo t 1 c + (q + 1)) (e_c E) (fup (e_lg E) q (Lo ++ [g]))) u' H' F' bg' → FR E 0 u u' → (∀ r, r < e_n E → bg r = true → bg' r = true ∧ F' r = F r) → (∀ r, r < e_n E → bg' r = true → bg r = true ∨ F' r = mo t 1 c + (q + 1)) → post u') :
    wpX_push (fun u1 => match u1 with | (f_time, f_sent, f_stageCount, f_tasks, a_sourceEnded, a_stageKind, a_stageA, a_stageB, a_stageParts, a_partStage, a_partUser, a_partX, a_partY, a_phase, a_beganAfter, a_due, a_count, a_held, a_heldY, a_hasHeld, a_hasHeldY, a_queueSize, a_queueIsOfX, a_queueValue, a_queueDue, a_subStatus, a_subCode, a_subEnd, a_subDemand, a_subRequests, a_subDelivered, a_subWaiting, a_waitValue, a_history, a_taskWhat, a_taskPart, a_taskValue) => wpX_runTasks post (f_time, f_sent, f_stageCount, f_tasks, a_sourceEnded, a_stageKind, a_stageA, a_stageB, a_stageParts, a_partStage, a_partUser, a_partX, a_partY, a_phase, a_beganAfter, a_due, a_count, a_held, a_heldY, a_hasHeld, a_hasHeldY, a_queueSize, a_queueIsOfX, a_queueValue, a_queueDue, a_subStatus, a_subCode, a_subEnd, a_subDemand, a_subRequests, a_subDelivered, a_subWaiting, a_waitValue, a_history, a_taskWhat, a_taskPart, a_taskValue) (nI (e_id E))) u (nI (g.2.1 + 1)) (nI (ab E q)) g.2.2.1 := by
  have hR0 := hR
  obtain ⟨hI, hC, hS, hD, hC2, hroot, hCW⟩ := hR
  have h9 := hT.2.2.1
  have hp := hI.2.1 q hq
  have hbq : bg q = true := by
    rcases Bool.eq_false_or_eq_true (bg q) with z | z
    · exact z
    · rw [z, hph] at hp
      have h0 : phs false (fin (H q)) = 0 := rfl
      rw [h0] at hp; exact absurd hp (by decide)
  have hfq : fin (H q) = false := by
    rcases Bool.eq_false_or_eq_true (fin (H q)) with z | z
    · rw [z, hbq, hph] at hp; exact absurd hp (by decide)
    · exact z
  have hc1 := (hC q hq).1 hbq
  have hc2 := hc1.2 hfq
  have hO : src (cl (e_oa E q)) q (F q) Lo = H q := by
    have := hc1.1
    unfold Rn RR at this
    rw [if_pos hk, hlq] at this
    exact this
  have hhrs : ∀ g' ∈ e_LG E, hrs (mo t 1 c + (q + 1)) g'.2.2.2 = false := fun g' hg' => ts_hrs (by omega) (by omega) (hLG g' hg')
  suffices hh0 : ∀ u1, EffN u u1 [(g.2.1 + 1, ab E q, g.2.2.1)] (x_phase u) → wpX_runTasks post u1 (nI (e_id E)) by
    refine sw_push hS (by simp) (fun u1 he => ?_)
    have h2 := hh0 u1 he
    obtain ⟨f_time, f_sent, f_stageCount, f_tasks, a_sourceEnded, a_stageKind, a_stageA, a_stageB, a_stageParts, a_partStage, a_partUser, a_partX, a_partY, a_phase, a_beganAfter, a_due, a_count, a_held, a_heldY, a_hasHeld, a_hasHeldY, a_queueSize, a_queueIsOfX, a_queueValue, a_queueDue, a_subStatus, a_subCode, a_subEnd, a_subDemand, a_subRequests, a_subDelivered, a_subWaiting, a_waitValue, a_history, a_taskWhat, a_taskPart, a_taskValue⟩ := u1
    exact h2
  intro u1 he
  refine sw_run ?_
  obtain ⟨f1, f2, f3, f4, f5, f6⟩ := he
  refine tk_list (E := E) (M := mo t 1 c + (q + 1)) (c := e_c E) (lg := fup (e_lg E) q (Lo ++ [g])) (S' := (Rn E H F q).1) (o := [(g.2.1 + 1, g.2.2.1)]) hT hR0 hq hbq hfq (by rw [tim_mo (by decide) (by omega) (by omega)]; exact het.symm) (by omega) hMM ⟨fun r hr g' hg' => ?_, hhrs⟩ (fun r h1 h2 => ?_) (fun r hr => ?_) (fun r hr hrq => ts_rn hrq) ?_ hwo (by simp) (fun _ => hc2.2.1) (fun _ _ => rfl) f1 f2 f3 f4 (f5 _ _ hc2.1) (fun j _ S h => f5 j S h) f6 K
  · by_cases hrq : r = q
    · subst hrq
      rw [fu_s] at hg'
      exact hhrs g' (hgL g' hg')
    · rw [fu_n hrq] at hg'
      exact hhrs g' (hlg r hr g' hg')
  · rw [ts_ck (by omega) hc (by omega), hcl r h2]
  · show tm (e_c E r) r ≤ mo t 1 c + (q + 1) ∧ mo t 1 c + (q + 1) < tm (e_c E r + 1) r
    have hr' : r < e_n E := hr
    rw [hcl r hr']
    exact ts_win (by omega) hc (by omega)
  · show RR (e_kd E q) (e_oa E q) (e_ob E q) q (F q) (fup (e_lg E) q (Lo ++ [g]) q) (e_c E q) (H (e_xc E q)) (H (e_yc E q)) = ((RR (e_kd E q) (e_oa E q) (e_ob E q) q (F q) (e_lg E q) (e_c E q) (H (e_xc E q)) (H (e_yc E q))).1, _)
    rw [fu_s]
    unfold RR
    rw [if_pos hk, if_pos hk, rn_src_app, hO, if_neg (by rw [hfq]; decide), if_pos ⟨hs, hh⟩, hg, Nat.add_assoc (mo t 1 c) q 1, show ems (mo t 1 c + (q + 1)) [(g.2.1 + 1, g.2.2.1)] = [(g.2.1 + 1, g.2.2.1, mo t 1 c + (q + 1))] from rfl]
