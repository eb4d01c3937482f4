/-! ===== advance, the loops ===== -/
abbrev CD : Type := (Nat → Bool) × (Nat → EnvP) × (Nat → Nat) × (Nat → Sb)
def cdOK (D : CD) : Prop := ∀ j, j < 3 → D.1 j = true → TR (D.2.1 j) ∧ e_id (D.2.1 j) = j
def PJ (D : CD) (cc t : Nat) (LG : List Lg) (m j : Nat) (u : SX) : Prop :=
  if D.1 j = true then PI (D.2.1 j) (D.2.2.1 j) cc t LG m u else RepU u j (D.2.2.2 j) ∧ (D.2.2.2 j).1 ≠ 0
def PA (D : CD) (cc t : Nat) (LG : List Lg) (j : Nat) (u : SX) : Prop :=
  if D.1 j = true then ((∃ M H F bg, M < mo t 1 (cc + 1) ∧ AR (eU (D.2.1 j) t M (fun _ => t) (fun _ => LG) LG) (D.2.2.1 j) cc u H F bg ∧ (FS (D.2.1 j) H).1 = 0) ∨ FIN (D.2.1 j) (D.2.2.1 j) t LG u) else RepU u j (D.2.2.2 j) ∧ (D.2.2.2 j).1 ≠ 0
theorem av_fo {E : EnvP} {B0 cc t m : Nat} {LG : List Lg} {u u' : SX} (hT : TR E) (hf : FO (e_id E) u u') (h : PI E B0 cc t LG m u) : PI E B0 cc t LG m u' := by
  rcases h with h | h
  · obtain ⟨M, H, F, bg, hM, ⟨hR, hB, hmv, hpz⟩, hs⟩ := h
    refine Or.inl ⟨M, H, F, bg, hM, ⟨xo_rst (E := eU E t M (fun q => if q < m then t else t - 1) (fun _ => LG) LG) hT hR hf, hB, hmv, fun k h1 h2 => ?_⟩, hs⟩
    have := (hf.2.1 (9 * e_id E + k) (by omega) (by omega)).2.1
    have h0 := hpz k h1 h2
    show x_phase u' (9 * e_id E + k) = 0
    rw [this]; exact h0
  · exact Or.inr (ad_fin_mono (Nat.le_refl _) hf.2.2.1 h)
theorem av_pj {D : CD} {cc t m j : Nat} {LG : List Lg} {u u' : SX} (hD : cdOK D) (hj : j < 3) (hf : FO j u u') (h : PJ D cc t LG m j u) : PJ D cc t LG m j u' := by
  unfold PJ at h ⊢
  by_cases ha : D.1 j = true
  · rw [if_pos ha] at h ⊢
    have hd := hD j hj ha
    exact av_fo hd.1 (by rw [hd.2]; exact hf) h
  · rw [if_neg ha] at h ⊢
    exact ⟨hf.2.2.1 _ h.1, h.2⟩
theorem av_timers {post : SX → Prop} {D : CD} {cc t : Nat} {LG : List Lg} {u : SX} (hD : cdOK D) (ht : 1 ≤ t) (ht2 : t ≤ 200) (hLG : ∀ g ∈ LG, g.2.2.2 ≤ tm t 0) (hS : RepS u []) (h : ∀ j, j < 3 → PJ D cc t LG 0 j u)
    (K : ∀ u', x_st2 u' = x_st2 u → RepS u' [] → (∀ j, j < 3 → PJ D cc t LG 9 j u') → post u') : wpX_runTimers post u := by
  refine xo_outer (fun id v => x_st2 v = x_st2 u ∧ RepS v [] ∧ (∀ j, j < 3 → PJ D cc t LG (if j < id then 9 else 0) j v)) ?_ u ⟨rfl, hS, fun j hj => h j hj⟩ (fun u' hq => K u' hq.1 hq.2.1 (fun j hj => by have := hq.2.2 j hj; rw [if_pos (by omega)] at this; exact this))
  intro id v hid hQ J hK
  obtain ⟨hz, hS, hP⟩ := hQ
  have hPid := hP id hid
  rw [if_neg (by omega)] at hPid
  unfold PJ at hPid
  by_cases ha : D.1 id = true
  · rw [if_pos ha] at hPid
    obtain ⟨hT, hei⟩ := hD id hid ha
    have hgo := ad_inner (post := post) (J := J) (E := D.2.1 id) (B0 := D.2.2.1 id) (cc := cc) (t := t) (LG := LG) (z := x_st2 u) hT ht ht2 hLG (fun w => ∀ j, j < 3 → j ≠ id → PJ D cc t LG (if j < id then 9 else 0) j w) (fun w w' hfr hS' hw j hj hne => av_pj hD hj (xo_of hT (by rw [hei]; exact hne) hfr hS') (hw j hj hne)) v hz hS (fun j hj _ => hP j hj) hPid ?_
    · rw [hei] at hgo; exact hgo
    · intro u' h1 h2 h3 h4
      rw [hei]
      refine hK u' ⟨h1, h2, fun j hj => ?_⟩
      by_cases hji : j = id
      · subst hji
        rw [if_pos (by omega)]
        unfold PJ
        rw [if_pos ha]
        exact h4
      · have := h3 j hj hji
        rcases Nat.lt_or_ge j id with y | y
        · rw [if_pos y] at this; rw [if_pos (by omega)]; exact this
        · rw [if_neg (by omega)] at this; rw [if_neg (by omega)]; exact this
  · rw [if_neg ha] at hPid
    refine xo_inner hid (fun _ w => w = v) (fun m w hm hw hs hp => ?_) (fun m w hm hw _ => hw) 9 0 v rfl rfl (fun u' hu' => ?_)
    · subst hw
      rw [ad_st hPid.1] at hs
      exact absurd hs hPid.2
    · subst hu'
      refine hK u' ⟨hz, hS, fun j hj => ?_⟩
      by_cases hji : j = id
      · subst hji
        rw [if_pos (by omega)]
        unfold PJ
        rw [if_neg ha]
        exact hPid
      · have := hP j hj
        rcases Nat.lt_or_ge j id with y | y
        · rw [if_pos y] at this; rw [if_pos (by omega)]; exact this
        · rw [if_neg (by omega)] at this; rw [if_neg (by omega)]; exact this
section
variable {f_time : Int32} {f_sent : Int32} {f_stageCount : Int32} {f_tasks : Int32} {a_sourceEnded : (Nat → Int32)} {a_stageKind : (Nat → Int32)} {a_stageA : (Nat → Int32)} {a_stageB : (Nat → Int32)} {a_stageParts : (Nat → Int32)} {a_partStage : (Nat → Int32)} {a_partUser : (Nat → Int32)} {a_partX : (Nat → Int32)} {a_partY : (Nat → Int32)} {a_phase : (Nat → Int32)} {a_beganAfter : (Nat → Int32)} {a_due : (Nat → Int32)} {a_count : (Nat → Int32)} {a_held : (Nat → Int32)} {a_heldY : (Nat → Int32)} {a_hasHeld : (Nat → Int32)} {a_hasHeldY : (Nat → Int32)} {a_queueSize : (Nat → Int32)} {a_queueIsOfX : (Nat → Int32)} {a_queueValue : (Nat → Int32)} {a_queueDue : (Nat → Int32)} {a_subStatus : (Nat → Int32)} {a_subCode : (Nat → Int32)} {a_subEnd : (Nat → Int32)} {a_subDemand : (Nat → Int64)} {a_subRequests : (Nat → Int32)} {a_subDelivered : (Nat → Int32)} {a_subWaiting : (Nat → Int32)} {a_waitValue : (Nat → Int32)} {a_history : (Nat → Int64)} {a_taskWhat : (Nat → Int32)} {a_taskPart : (Nat → Int32)} {a_taskValue : (Nat → Int32)}
theorem av_time {E : EnvP} {t t' M : Nat} {c : Nat → Nat} {lg : Nat → List Lg} {LG : List Lg} {H : Nat → List Ev} {F : Nat → Nat} {bg : Nat → Bool} (ht' : t' ≤ 200) (h : RST (eU E t M c lg LG) (f_time, f_sent, f_stageCount, f_tasks, a_sourceEnded, a_stageKind, a_stageA, a_stageB, a_stageParts, a_partStage, a_partUser, a_partX, a_partY, a_phase, a_beganAfter, a_due, a_count, a_held, a_heldY, a_hasHeld, a_hasHeldY, a_queueSize, a_queueIsOfX, a_queueValue, a_queueDue, a_subStatus, a_subCode, a_subEnd, a_subDemand, a_subRequests, a_subDelivered, a_subWaiting, a_waitValue, a_history, a_taskWhat, a_taskPart, a_taskValue) H F bg) : RST (eU E t' M c lg LG) (nI t', f_sent, f_stageCount, f_tasks, a_sourceEnded, a_stageKind, a_stageA, a_stageB, a_stageParts, a_partStage, a_partUser, a_partX, a_partY, a_phase, a_beganAfter, a_due, a_count, a_held, a_heldY, a_hasHeld, a_hasHeldY, a_queueSize, a_queueIsOfX, a_queueValue, a_queueDue, a_subStatus, a_subCode, a_subEnd, a_subDemand, a_subRequests, a_subDelivered, a_subWaiting, a_waitValue, a_history, a_taskWhat, a_taskPart, a_taskValue) H F bg := by
  obtain ⟨hI, hC, hS, hD, hC2, hroot, hCW⟩ := h
  obtain ⟨i1, i2, i3, i4, i5, i6, i7, i8, i9, i10⟩ := hI
  refine ⟨⟨⟨rfl, fun p hp => ?_⟩, i2, i3, i4, ⟨i5.1, xe_ru' (xe_ru i5.2)⟩, i6, i7, i8, i9, i10⟩, fun q hq => ?_, xe_stk' (xe_stk hS).1 (xe_stk hS).2, hD, hC2, hroot, hCW⟩
  · obtain ⟨k1, k2, k3⟩ := i1.2 p hp
    obtain ⟨a1, a2, a3, a4⟩ := xg_of_HZ k1
    exact ⟨⟨a1, rfl, ht', a4⟩, k2, k3⟩
  · have hc := hC q hq
    exact ⟨fun hb => ⟨(hc.1 hb).1, fun hf => ⟨xe_rep' (xe_rep ((hc.1 hb).2 hf).1), ((hc.1 hb).2 hf).2⟩⟩, fun hb => xe_rep' (xe_rep (hc.2 hb))⟩
end
theorem av_mo (t : Nat) {cc : Nat} (h : cc < 4000000000) : mo t 1 (cc + 1) < tm (t + 1) 0 := by
  unfold tm mo
  rw [Nat.add_mul t 1, Nat.one_mul, Nat.one_mul, Nat.zero_mul, Nat.add_zero, Nat.add_assoc]
  exact Nat.add_lt_add_left (n := 1099511627776 + (cc + 1) * 256) (m := 2199023255552) (by omega) (t * 2199023255552)
section
variable {f_time : Int32} {f_sent : Int32} {f_stageCount : Int32} {f_tasks : Int32} {a_sourceEnded : (Nat → Int32)} {a_stageKind : (Nat → Int32)} {a_stageA : (Nat → Int32)} {a_stageB : (Nat → Int32)} {a_stageParts : (Nat → Int32)} {a_partStage : (Nat → Int32)} {a_partUser : (Nat → Int32)} {a_partX : (Nat → Int32)} {a_partY : (Nat → Int32)} {a_phase : (Nat → Int32)} {a_beganAfter : (Nat → Int32)} {a_due : (Nat → Int32)} {a_count : (Nat → Int32)} {a_held : (Nat → Int32)} {a_heldY : (Nat → Int32)} {a_hasHeld : (Nat → Int32)} {a_hasHeldY : (Nat → Int32)} {a_queueSize : (Nat → Int32)} {a_queueIsOfX : (Nat → Int32)} {a_queueValue : (Nat → Int32)} {a_queueDue : (Nat → Int32)} {a_subStatus : (Nat → Int32)} {a_subCode : (Nat → Int32)} {a_subEnd : (Nat → Int32)} {a_subDemand : (Nat → Int64)} {a_subRequests : (Nat → Int32)} {a_subDelivered : (Nat → Int32)} {a_subWaiting : (Nat → Int32)} {a_waitValue : (Nat → Int32)} {a_history : (Nat → Int64)} {a_taskWhat : (Nat → Int32)} {a_taskPart : (Nat → Int32)} {a_taskValue : (Nat → Int32)}
theorem av_pa_time {D : CD} {cc t j : Nat} {LG : List Lg} (hcc : cc < 4000000000) (ht' : t + 1 ≤ 200) (h : PA D cc t LG j (f_time, f_sent, f_stageCount, f_tasks, a_sourceEnded, a_stageKind, a_stageA, a_stageB, a_stageParts, a_partStage, a_partUser, a_partX, a_partY, a_phase, a_beganAfter, a_due, a_count, a_held, a_heldY, a_hasHeld, a_hasHeldY, a_queueSize, a_queueIsOfX, a_queueValue, a_queueDue, a_subStatus, a_subCode, a_subEnd, a_subDemand, a_subRequests, a_subDelivered, a_subWaiting, a_waitValue, a_history, a_taskWhat, a_taskPart, a_taskValue)) : PJ D cc (t + 1) LG 0 j (nI (t + 1), f_sent, f_stageCount, f_tasks, a_sourceEnded, a_stageKind, a_stageA, a_stageB, a_stageParts, a_partStage, a_partUser, a_partX, a_partY, a_phase, a_beganAfter, a_due, a_count, a_held, a_heldY, a_hasHeld, a_hasHeldY, a_queueSize, a_queueIsOfX, a_queueValue, a_queueDue, a_subStatus, a_subCode, a_subEnd, a_subDemand, a_subRequests, a_subDelivered, a_subWaiting, a_waitValue, a_history, a_taskWhat, a_taskPart, a_taskValue) := by
  unfold PA at h
  unfold PJ
  by_cases ha : D.1 j = true
  · rw [if_pos ha] at h ⊢
    rcases h with h | h
    · obtain ⟨M, H, F, bg, hM, ⟨hR, hB, hmv, hpz⟩, hs⟩ := h
      refine Or.inl ⟨M, H, F, bg, Nat.lt_trans hM (av_mo t hcc), ⟨ad_rst_c (c := fun _ => t) (fun q _ => ?_) (av_time ht' hR), hB, hmv, hpz⟩, hs⟩
      rw [if_neg (by omega)]
      omega
    · exact Or.inr (ad_fin_mono (by omega) (fun s hs => xe_ru' (xe_ru hs)) h)
  · rw [if_neg ha] at h ⊢
    exact ⟨xe_ru' (xe_ru h.1), h.2⟩
end
theorem av_tm9 (t cc : Nat) : tm t 9 < mo t 1 (cc + 1) := by
  unfold tm mo
  rw [Nat.one_mul, Nat.add_assoc]
  exact Nat.add_lt_add_left (n := 9 * 256) (m := 1099511627776 + (cc + 1) * 256) (by omega) (t * 2199023255552)
theorem av_pj_pa {D : CD} {cc t j : Nat} {LG : List Lg} {u : SX} (hD : cdOK D) (hj : j < 3) (h : PJ D cc t LG 9 j u) : PA D cc t LG j u := by
  unfold PJ at h
  unfold PA
  by_cases ha : D.1 j = true
  · rw [if_pos ha] at h ⊢
    have h9 := (hD j hj ha).1.2.2.1
    rcases h with h | h
    · obtain ⟨M, H, F, bg, hM, ⟨hR, hB, hmv, hpz⟩, hs⟩ := h
      refine Or.inl ⟨M, H, F, bg, ?_, ⟨ad_rst_c (fun q hq => ?_) hR, hB, hmv, hpz⟩, hs⟩
      · exact Nat.lt_trans hM (av_tm9 t cc)
      · rw [if_pos (by omega)]
    · exact Or.inr h
  · rw [if_neg ha] at h ⊢
    exact h
def setT (t : Int32) : St2 → St2
  | (_, b) => (t, b)
theorem av_loop {post : Int32 → SX → Prop} {D : CD} {cc t0 d : Nat} {LG : List Lg} {z : St2} (hcc : cc < 4000000000) (hD : cdOK D) (ht : t0 + d ≤ 200) (hLG : ∀ g ∈ LG, g.2.2.2 ≤ tm (t0 + 1) 0)
    (K : ∀ u', x_st2 u' = setT (nI (t0 + d)) z → RepS u' [] → (∀ j, j < 3 → PA D cc (t0 + d) LG j u') → post (nI (t0 + d)) u') :
    ∀ (e i : Nat) (u : SX), i + e = d → x_st2 u = setT (nI (t0 + i)) z → RepS u [] → (∀ j, j < 3 → PA D cc (t0 + i) LG j u) → wX_advance_21 post (nI d) (e + 1) (nI i) (x_time u) (x_sent u) (x_stageCount u) (x_tasks u) (x_sourceEnded u) (x_stageKind u) (x_stageA u) (x_stageB u) (x_stageParts u) (x_partStage u) (x_partUser u) (x_partX u) (x_partY u) (x_phase u) (x_beganAfter u) (x_due u) (x_count u) (x_held u) (x_heldY u) (x_hasHeld u) (x_hasHeldY u) (x_queueSize u) (x_queueIsOfX u) (x_queueValue u) (x_queueDue u) (x_subStatus u) (x_subCode u) (x_subEnd u) (x_subDemand u) (x_subRequests u) (x_subDelivered u) (x_subWaiting u) (x_waitValue u) (x_history u) (x_taskWhat u) (x_taskPart u) (x_taskValue u) := by
  intro e
  induction e with
  | zero =>
    intro i u hi hz hS hP
    have : i = d := by omega
    subst this
    have h := K u hz hS hP
    have ht1 : x_time u = nI (t0 + i) := congrArg (fun w => w.1) hz
    obtain ⟨f_time, f_sent, f_stageCount, f_tasks, a_sourceEnded, a_stageKind, a_stageA, a_stageB, a_stageParts, a_partStage, a_partUser, a_partX, a_partY, a_phase, a_beganAfter, a_due, a_count, a_held, a_heldY, a_hasHeld, a_hasHeldY, a_queueSize, a_queueIsOfX, a_queueValue, a_queueDue, a_subStatus, a_subCode, a_subEnd, a_subDemand, a_subRequests, a_subDelivered, a_subWaiting, a_waitValue, a_history, a_taskWhat, a_taskPart, a_taskValue⟩ := u
    have ht2 : f_time = nI (t0 + i) := ht1
    refine br_t (nI_le (by omega) (by omega)) ?_
    rw [← ht2] at h
    exact h
  | succ e ih =>
    intro i u hi hz hS hP
    have ht1 : x_time u = nI (t0 + i) := congrArg (fun w => w.1) hz
    obtain ⟨f_time, f_sent, f_stageCount, f_tasks, a_sourceEnded, a_stageKind, a_stageA, a_stageB, a_stageParts, a_partStage, a_partUser, a_partX, a_partY, a_phase, a_beganAfter, a_due, a_count, a_held, a_heldY, a_hasHeld, a_hasHeldY, a_queueSize, a_queueIsOfX, a_queueValue, a_queueDue, a_subStatus, a_subCode, a_subEnd, a_subDemand, a_subRequests, a_subDelivered, a_subWaiting, a_waitValue, a_history, a_taskWhat, a_taskPart, a_taskValue⟩ := u
    have ht2 : f_time = nI (t0 + i) := ht1
    have e1 : f_time + 1 = nI (t0 + i + 1) := by rw [ht2, nI_1]
    refine br_f (nI_ge (by omega) (by omega)) (nm_r e1 ?_)
    have hz' : x_st2 (nI (t0 + i + 1), f_sent, f_stageCount, f_tasks, a_sourceEnded, a_stageKind, a_stageA, a_stageB, a_stageParts, a_partStage, a_partUser, a_partX, a_partY, a_phase, a_beganAfter, a_due, a_count, a_held, a_heldY, a_hasHeld, a_hasHeldY, a_queueSize, a_queueIsOfX, a_queueValue, a_queueDue, a_subStatus, a_subCode, a_subEnd, a_subDemand, a_subRequests, a_subDelivered, a_subWaiting, a_waitValue, a_history, a_taskWhat, a_taskPart, a_taskValue) = setT (nI (t0 + i + 1)) z := by
      rw [xe_st2]
      have h2 := xe_st2.symm.trans hz
      obtain ⟨zt, zr⟩ := z
      have h3 := congrArg (fun w => w.2) h2
      exact congrArg (fun w => (nI (t0 + i + 1), w)) h3
    refine av_timers (D := D) (cc := cc) (t := t0 + i + 1) (LG := LG) hD (by omega) (by omega) (fun g hg => Nat.le_trans (hLG g hg) (by unfold tm; exact Nat.add_le_add_right (Nat.mul_le_mul_right _ (by omega)) _)) (xe_stk' (xe_stk hS).1 (xe_stk hS).2) (fun j hj => av_pa_time hcc (by omega) (hP j hj)) (fun u' h1 h2 h3 => ?_)
    have h4 := ih (i + 1) u' (by omega) (h1.trans hz') h2 (fun j hj => av_pj_pa hD hj (h3 j hj))
    obtain ⟨f_time, f_sent, f_stageCount, f_tasks, a_sourceEnded, a_stageKind, a_stageA, a_stageB, a_stageParts, a_partStage, a_partUser, a_partX, a_partY, a_phase, a_beganAfter, a_due, a_count, a_held, a_heldY, a_hasHeld, a_hasHeldY, a_queueSize, a_queueIsOfX, a_queueValue, a_queueDue, a_subStatus, a_subCode, a_subEnd, a_subDemand, a_subRequests, a_subDelivered, a_subWaiting, a_waitValue, a_history, a_taskWhat, a_taskPart, a_taskValue⟩ := u'
    exact nm_r (nI_1 i) h4
theorem av_setT {u : SX} {t : Int32} (h : x_time u = t) : x_st2 u = setT t (x_st2 u) := by
  subst h; rfl
theorem av_advance {post : Int32 → SX → Prop} {D : CD} {cc t0 d : Nat} {LG : List Lg} {u : SX} (hcc : cc < 4000000000) (hD : cdOK D) (ht : t0 + d ≤ 200) (htu : x_time u = nI t0) (hLG : ∀ g ∈ LG, g.2.2.2 ≤ tm (t0 + 1) 0) (hS : RepS u []) (hP : ∀ j, j < 3 → PA D cc t0 LG j u)
    (K : ∀ u', x_st2 u' = setT (nI (t0 + d)) (x_st2 u) → RepS u' [] → (∀ j, j < 3 → PA D cc (t0 + d) LG j u') → post (nI (t0 + d)) u') : wpX_advance post u (nI d) := by
  have h := av_loop (post := post) (z := x_st2 u) hcc hD ht hLG K d 0 u (by omega) (av_setT htu) hS hP
  obtain ⟨f_time, f_sent, f_stageCount, f_tasks, a_sourceEnded, a_stageKind, a_stageA, a_stageB, a_stageParts, a_partStage, a_partUser, a_partX, a_partY, a_phase, a_beganAfter, a_due, a_count, a_held, a_heldY, a_hasHeld, a_hasHeldY, a_queueSize, a_queueIsOfX, a_queueValue, a_queueDue, a_subStatus, a_subCode, a_subEnd, a_subDemand, a_subRequests, a_subDelivered, a_subWaiting, a_waitValue, a_history, a_taskWhat, a_taskPart, a_taskValue⟩ := u
  have ht2 : f_time = nI t0 := htu
  refine br_f (nI_pos (by omega)) (br_t ?_ ⟨d + 1, h⟩)
  rw [ht2, show (200 : Int32) = nI 200 from rfl, pk_sub (by omega)]
  exact nI_le (by omega) (by omega)
