/-! ===== a timer's tick ===== -/
theorem tt_hrs {t q w : Nat} (hq : q < 9) (h : w ≤ tm t q) : hrs (tm t q) w = false := by
  unfold hrs
  have e : tm t q / 1099511627776 % 2 = 0 := by
    unfold tm
    omega
  rw [if_neg (by omega)]
  exact decide_eq_false (by omega)
theorem tt_tm0 (t q : Nat) : tm t 0 ≤ tm t q := by unfold tm; omega
theorem tt_cw {E : EnvP} {q t : Nat} {c : Nat → Nat} {lg : Nat → List Lg} (hT : TR E) (hq : q < e_n E) (ht : 1 ≤ t) (hlo : ∀ r, r < q → c r = t) (hhi : ∀ r, q < r → r < e_n E → c r + 1 = t) (hcq : c q = t) : CW (eM E (tm t q) c lg) := by
  intro r hr
  have h9 := hT.2.2.1
  have hr' : r < e_n E := hr
  show tm (c r) r ≤ tm t q ∧ tm t q < tm (c r + 1) r
  rcases Nat.lt_trichotomy r q with z | z | z
  · rw [hlo r z]; unfold tm; omega
  · subst z; rw [hcq]; unfold tm; omega
  · have := hhi r z hr'
    have e : c r = t - 1 := by omega
    rw [e, show t - 1 + 1 = t from by omega]
    unfold tm
    have : (t - 1) * 2199023255552 + 2199023255552 = t * 2199023255552 := by
      rw [show t = t - 1 + 1 from by omega, Nat.add_mul]; omega
    omega
theorem tt_rt {k p fr c : Nat} {a b : Int32} {lg : List Lg} {Hx Hy : List Ev} (ht : tmd1 k = true) (h0 : ckm p fr ≤ c) (hm : 3 ≤ k → ∀ z ∈ Hx, ckm p z.2.2 ≤ c) :
    RR k a b p fr lg (c + 1) Hx Hy = stp k a b (RR k a b p fr lg c Hx Hy) (2, 0, 0, tm (c + 1) p) := by
  rcases Nat.lt_or_ge k 3 with h3 | h3
  · rw [ca_RR (Hx := []) (Hy := Hy) (fun z => by omega) (fun _ => rfl), ca_RR (Hx' := Hx) (Hx := []) (Hy' := Hy) (Hy := Hy) (fun z => by omega) (fun _ => rfl)]
    exact rn_t ht h0 (fun z hz => absurd hz (by simp))
  · exact rn_t ht h0 (hm h3)
theorem tt_skip {E : EnvP} {u : SX} {H : Nat → List Ev} {F : Nat → Nat} {bg : Nat → Bool} {q t : Nat} (hT : TR E) (hR : RST E u H F bg) (hq : q < e_n E) (ht : 1 ≤ t) (hMM : e_M E < tm t q) (hlo : ∀ r, r < q → e_c E r = t) (hhi : ∀ r, q ≤ r → r < e_n E → e_c E r + 1 = t) (hph : ¬ x_phase u (ab E q) = 1) :
    RST (eM E (tm t q) (fup (e_c E) q t) (e_lg E)) u H F bg := by
  obtain ⟨hI, hC, hS, hD, hC2, hroot, hCW⟩ := hR
  have h9 := hT.2.2.1
  refine ⟨tk_iv hI (by omega), fun r hr => ?_, hS, hD, hC2, hroot, tt_cw hT hq ht (fun r hr => by rw [fu_n (by omega)]; exact hlo r hr) (fun r h1 h2 => by rw [fu_n (by omega)]; exact hhi r (by omega) h2) fu_s⟩
  have hr' : r < e_n E := hr
  have h := hC r hr
  refine ⟨fun hb => ?_, h.2⟩
  have h1 := h.1 hb
  have e : Rn (eM E (tm t q) (fup (e_c E) q t) (e_lg E)) H F r = Rn E H F r := by
    by_cases hrq : r = q
    · subst hrq
      have hfin : fin (H r) = true := by
        have hp := hI.2.1 r hr
        rw [hb] at hp
        rcases Bool.eq_false_or_eq_true (fin (H r)) with z | z
        · exact z
        · rw [z] at hp; exact absurd hp hph
      show RR (e_kd E r) (e_oa E r) (e_ob E r) r (F r) (e_lg E r) (fup (e_c E) r t r) (H (e_xc E r)) (H (e_yc E r)) = RR (e_kd E r) (e_oa E r) (e_ob E r) r (F r) (e_lg E r) (e_c E r) (H (e_xc E r)) (H (e_yc E r))
      rw [fu_s]
      have hc1 := hhi r (Nat.le_refl _) hr'
      by_cases hk : tmd1 (e_kd E r) = true
      · have hcw := hCW r hr
        rw [← hc1, tt_rt hk (tk_ckle (by omega) (hI.2.2.2.1 r hr hb) hcw.2) (fun h3 z hz => ?_)]
        · exact rn_stp_fin (by have := h1.1; unfold Rn at this; rw [this]; exact hfin)
        · have h6 := hT.2.2.2.2.2.1 r hr' h3
          exact tk_ckle (by omega) (hI.2.2.1 (e_xc E r) (by omega) z hz) hcw.2
      · exact rn_t0 hk
    · show RR (e_kd E r) (e_oa E r) (e_ob E r) r (F r) (e_lg E r) (fup (e_c E) q t r) (H (e_xc E r)) (H (e_yc E r)) = RR (e_kd E r) (e_oa E r) (e_ob E r) r (F r) (e_lg E r) (e_c E r) (H (e_xc E r)) (H (e_yc E r))
      rw [fu_n hrq]
  rw [e]
  exact h1
theorem tt_fire {E : EnvP} {post : SX → Prop} {u : SX} {H : Nat → List Ev} {F : Nat → Nat} {bg : Nat → Bool} {q t : Nat} (hT : TR E) (hR : RST E u H F bg) (hq : q < e_n E) (ht : 1 ≤ t) (het : e_t E = t) (ht2 : t ≤ 200) (hMM : e_M E < tm t q) (hlo : ∀ r, r < q → e_c E r = t) (hhi : ∀ r, q ≤ r → r < e_n E → e_c E r + 1 = t) (hph : x_phase u (ab E q) = 1)
    (hlg : ∀ r, r < e_n E → ∀ g ∈ e_lg E r, g ∈ e_LG E) (hLG : ∀ g ∈ e_LG E, g.2.2.2 ≤ tm t 0)
    (K : ∀ u' H' F' bg', RST (eM E (tm t q) (fup (e_c E) q t) (e_lg E)) u' H' F' bg' → FR E 0 u u' → (∀ r, r < e_n E → bg r = true → bg' r = true ∧ F' r = F r) → (∀ r, r < e_n E → bg' r = true → bg r = true ∨ F' r = tm t q) → post u') :
    wpX_fireTimer (fun u1 => match u1 with | (f_time, f_sent, f_stageCount, f_tasks, a_sourceEnded, a_stageKind, a_stageA, a_stageB, a_stageParts, a_partStage, a_partUser, a_partX, a_partY, a_phase, a_beganAfter, a_due, a_count, a_held, a_heldY, a_hasHeld, a_hasHeldY, a_queueSize, a_queueIsOfX, a_queueValue, a_queueDue, a_subStatus, a_subCode, a_subEnd, a_subDemand, a_subRequests, a_subDelivered, a_subWaiting, a_waitValue, a_history, a_taskWhat, a_taskPart, a_taskValue) => wpX_runTasks post (f_time, f_sent, f_stageCount, f_tasks, a_sourceEnded, a_stageKind, a_stageA, a_stageB, a_stageParts, a_partStage, a_partUser, a_partX, a_partY, a_phase, a_beganAfter, a_due, a_count, a_held, a_heldY, a_hasHeld, a_hasHeldY, a_queueSize, a_queueIsOfX, a_queueValue, a_queueDue, a_subStatus, a_subCode, a_subEnd, a_subDemand, a_subRequests, a_subDelivered, a_subWaiting, a_waitValue, a_history, a_taskWhat, a_taskPart, a_taskValue) (nI (e_id E))) u (nI (ab E q)) := by
  have hR0 := hR
  obtain ⟨hI, hC, hS, hD, hC2, hroot, hCW⟩ := hR
  have h9 := hT.2.2.1
  have hp := hI.2.1 q hq
  have hbq : bg q = true := by
    rcases Bool.eq_false_or_eq_true (bg q) with z | z
    · exact z
    · rw [z, hph] at hp
      have h0 : phs false (fin (H q)) = 0 := rfl
      rw [h0] at hp; exact absurd hp (by decide)
  have hfq : fin (H q) = false := by
    rcases Bool.eq_false_or_eq_true (fin (H q)) with z | z
    · rw [z, hbq, hph] at hp; exact absurd hp (by decide)
    · exact z
  have hcl := (hC q hq).1 hbq
  have hcl2 := hcl.2 hfq
  have hHZ := (hI.1.2 q hq).1
  have hop : opk (e_kd E q) (e_oa E q) (e_ob E q) := hHZ.2.2.2.2.2.2.2.2
  rw [het] at hHZ
  suffices hh : ∀ u1, Eff u u1 (ab E q) (fi (e_kd E q) (e_oa E q) (e_ob E q) t (Rn E H F q).1).1 (fi (e_kd E q) (e_oa E q) (e_ob E q) t (Rn E H F q).1).2 [] → wpX_runTasks post u1 (nI (e_id E)) by
    refine sw_fire hHZ ht hcl2.1 hcl2.2.1 hS (by simp) (fun u1 he => ?_)
    have h2 := hh u1 he
    obtain ⟨f_time, f_sent, f_stageCount, f_tasks, a_sourceEnded, a_stageKind, a_stageA, a_stageB, a_stageParts, a_partStage, a_partUser, a_partX, a_partY, a_phase, a_beganAfter, a_due, a_count, a_held, a_heldY, a_hasHeld, a_hasHeldY, a_queueSize, a_queueIsOfX, a_queueValue, a_queueDue, a_subStatus, a_subCode, a_subEnd, a_subDemand, a_subRequests, a_subDelivered, a_subWaiting, a_waitValue, a_history, a_taskWhat, a_taskPart, a_taskValue⟩ := u1
    exact h2
  intro u1 he
  refine sw_run ?_
  obtain ⟨f1, f2, f3, f4, f5, f6⟩ := he
  have f3' := sv_of_ph (u := u1) f3
  obtain ⟨g1, g2, g3⟩ := rn_fi (t := t) hop hcl2.2.1 ht2
  have hcw := hCW q hq
  have hc1 := hhi q (Nat.le_refl _) hq
  have hhrs : ∀ g ∈ e_LG E, hrs (tm t q) g.2.2.2 = false := fun g hg => tt_hrs (by omega) (Nat.le_trans (hLG g hg) (tt_tm0 t q))
  refine tk_list (E := E) (M := tm t q) (c := fup (e_c E) q t) (lg := e_lg E) (S' := (fi (e_kd E q) (e_oa E q) (e_ob E q) t (Rn E H F q).1).1) (o := (fi (e_kd E q) (e_oa E q) (e_ob E q) t (Rn E H F q).1).2) hT hR0 hq hbq hfq (by rw [tim_tm (by omega)]; exact het.symm) (by omega) hMM ⟨fun r hr g hg => hhrs g (hlg r hr g hg), hhrs⟩ (fun r h1 h2 => ?_) (tt_cw hT hq ht (fun r hr => by rw [fu_n (by omega)]; exact hlo r hr) (fun r h1 h2 => by rw [fu_n (by omega)]; exact hhi r (by omega) h2) fu_s) (fun r hr hrq => ?_) ?_ g1 g2 g3 (fun h16 h19 => ?_) f1 f2 f3'.1 f3'.2 f4 f5 f6 K
  · rw [fu_n (by omega), tk_ckm (by omega) (by omega) ht]
    have := hhi r (by omega) h2
    omega
  · show RR (e_kd E r) (e_oa E r) (e_ob E r) r (F r) (e_lg E r) (fup (e_c E) q t r) (H (e_xc E r)) (H (e_yc E r)) = RR (e_kd E r) (e_oa E r) (e_ob E r) r (F r) (e_lg E r) (e_c E r) (H (e_xc E r)) (H (e_yc E r))
    rw [fu_n hrq]
  · show RR (e_kd E q) (e_oa E q) (e_ob E q) q (F q) (e_lg E q) (fup (e_c E) q t q) (H (e_xc E q)) (H (e_yc E q)) = _
    rw [fu_s]
    have hRO : (RR (e_kd E q) (e_oa E q) (e_ob E q) q (F q) (e_lg E q) (e_c E q) (H (e_xc E q)) (H (e_yc E q))).2 = H q := hcl.1
    by_cases hk : tmd1 (e_kd E q) = true
    · have e := tt_rt (a := e_oa E q) (b := e_ob E q) (lg := e_lg E q) (Hy := H (e_yc E q)) hk (tk_ckle (by omega) (hI.2.2.2.1 q hq hbq) hcw.2) (fun h3 z hz => by
        have h6 := hT.2.2.2.2.2.1 q hq h3
        exact tk_ckle (by omega) (hI.2.2.1 (e_xc E q) (by omega) z hz) hcw.2)
      rw [hc1] at e
      rw [e, rn_stp_go (by rw [hRO]; exact hfq), hRO]
      unfold rsp
      rw [if_pos rfl, tim_tm (by omega)]
      rfl
    · rw [rn_t0 (c := e_c E q) hk, tk_fi0 hop.1 hk]
      show _ = (_, H q ++ [])
      rw [List.append_nil, ← hRO]
      rfl
  · have hk : ¬ tmd1 (e_kd E q) = true := by
      simp only [tmd1, tmd, Bool.or_eq_true, beq_iff_eq]; omega
    rw [tk_fi0 hop.1 hk]
