/-! ===== send, whole ===== -/
def PSJ (D : CD) (t c : Nat) (Lo : List Lg) (g : Lg) (m j : Nat) (u : SX) : Prop :=
  if D.1 j = true then PS (D.2.1 j) (D.2.2.1 j) t c Lo g m u else RepU u j (D.2.2.2 j) ∧ (D.2.2.2 j).1 ≠ 0
theorem sr_fo {E : EnvP} {B0 t c m : Nat} {Lo : List Lg} {g : Lg} {u u' : SX} (hT : TR E) (hf : FO (e_id E) u u') (h : PS E B0 t c Lo g m u) : PS E B0 t c Lo g m u' := by
  rcases h with h | h
  · obtain ⟨M, H, F, bg, hM, ⟨hR, hB, hmv, hpz⟩, hs⟩ := h
    refine Or.inl ⟨M, H, F, bg, hM, ⟨xo_rst (E := eU E t M (fun _ => t) (fun q => if q < m then Lo ++ [g] else Lo) (Lo ++ [g])) hT hR hf, hB, hmv, fun k h1 h2 => ?_⟩, hs⟩
    have := (hf.2.1 (9 * e_id E + k) (by omega) (by omega)).2.1
    have h0 := hpz k h1 h2
    show x_phase u' (9 * e_id E + k) = 0
    rw [this]; exact h0
  · exact Or.inr (ad_fin_mono (Nat.le_refl _) hf.2.2.1 h)
theorem sr_pj {D : CD} {t c m j : Nat} {Lo : List Lg} {g : Lg} {u u' : SX} (hD : cdOK D) (hj : j < 3) (hf : FO j u u') (h : PSJ D t c Lo g m j u) : PSJ D t c Lo g m j u' := by
  unfold PSJ at h ⊢
  by_cases ha : D.1 j = true
  · rw [if_pos ha] at h ⊢
    have hd := hD j hj ha
    exact sr_fo hd.1 (by rw [hd.2]; exact hf) h
  · rw [if_neg ha] at h ⊢
    exact ⟨hf.2.2.1 _ h.1, h.2⟩
theorem sr_all {post : Int32 → SX → Prop} {D : CD} {t c s : Nat} {Lo : List Lg} {g : Lg} {u : SX} (hD : cdOK D) (ht2 : t ≤ 200) (hc : c < 4000000000) (hg : g.2.2.2 = mo t 1 c) (hgs : g.1 = s) (hs3 : s < 3) (hwo : wfo [(g.2.1 + 1, g.2.2.1)]) (hmon : ∀ g' ∈ Lo, g'.2.2.2 ≤ g.2.2.2 ∧ g'.2.2.2 / 256 % 4294967296 ≤ c) (hlen : Lo.length < 1000) (hS : RepS u []) (h : ∀ j, j < 3 → PSJ D t c Lo g 0 j u)
    (K : ∀ u', x_st2 u' = x_st2 u → RepS u' [] → (∀ j, j < 3 → PSJ D t c Lo g 9 j u') → post 1 u') : wX_send_58 post (nI (g.2.1 + 1)) (nI s) g.2.2.1 4 0 (x_time u) (x_sent u) (x_stageCount u) (x_tasks u) (x_sourceEnded u) (x_stageKind u) (x_stageA u) (x_stageB u) (x_stageParts u) (x_partStage u) (x_partUser u) (x_partX u) (x_partY u) (x_phase u) (x_beganAfter u) (x_due u) (x_count u) (x_held u) (x_heldY u) (x_hasHeld u) (x_hasHeldY u) (x_queueSize u) (x_queueIsOfX u) (x_queueValue u) (x_queueDue u) (x_subStatus u) (x_subCode u) (x_subEnd u) (x_subDemand u) (x_subRequests u) (x_subDelivered u) (x_subWaiting u) (x_waitValue u) (x_history u) (x_taskWhat u) (x_taskPart u) (x_taskValue u) := by
  refine sn_outer (fun id v => x_st2 v = x_st2 u ∧ RepS v [] ∧ (∀ j, j < 3 → PSJ D t c Lo g (if j < id then 9 else 0) j v)) ?_ u ⟨rfl, hS, fun j hj => h j hj⟩ (fun u' hq => K u' hq.1 hq.2.1 (fun j hj => by have := hq.2.2 j hj; rw [if_pos (by omega)] at this; exact this))
  intro id v hid hQ J hK
  obtain ⟨hz, hS, hP⟩ := hQ
  have hPid := hP id hid
  rw [if_neg (by omega)] at hPid
  unfold PSJ at hPid
  by_cases ha : D.1 id = true
  · rw [if_pos ha] at hPid
    obtain ⟨hT, hei⟩ := hD id hid ha
    have hgo := sq_inner (post := post) (J0 := J) (E := D.2.1 id) (B0 := D.2.2.1 id) (t := t) (c := c) (s := s) (Lo := Lo) (g := g) (z := x_st2 u) hT ht2 hc hg hgs hs3 hwo hmon hlen (fun w => ∀ j, j < 3 → j ≠ id → PSJ D t c Lo g (if j < id then 9 else 0) j w) (fun w w' hfr hS' hw j hj hne => sr_pj hD hj (xo_of hT (by rw [hei]; exact hne) hfr hS') (hw j hj hne)) v hz hS (fun j hj _ => hP j hj) hPid ?_
    · rw [hei] at hgo; exact hgo
    · intro u' h1 h2 h3 h4
      rw [hei]
      refine hK u' ⟨h1, h2, fun j hj => ?_⟩
      by_cases hji : j = id
      · subst hji
        rw [if_pos (by omega)]
        unfold PSJ
        rw [if_pos ha]
        exact h4
      · have := h3 j hj hji
        rcases Nat.lt_or_ge j id with y | y
        · rw [if_pos y] at this; rw [if_pos (by omega)]; exact this
        · rw [if_neg (by omega)] at this; rw [if_neg (by omega)]; exact this
  · rw [if_neg ha] at hPid
    refine sn_inner hid (fun _ w => w = v) (fun m w hm hw hs hp => ?_) (fun m w hm hw hsc => ?_) (fun m w hm hw _ => hw) 9 0 v rfl rfl (fun u' hu' => ?_)
    · subst hw
      rw [ad_st hPid.1] at hs
      exact absurd hs hPid.2
    · subst hw
      have hs := hsc.1
      rw [ad_st hPid.1] at hs
      exact absurd hs hPid.2
    · subst hu'
      refine hK u' ⟨hz, hS, fun j hj => ?_⟩
      by_cases hji : j = id
      · subst hji
        rw [if_pos (by omega)]
        unfold PSJ
        rw [if_neg ha]
        exact hPid
      · have := hP j hj
        rcases Nat.lt_or_ge j id with y | y
        · rw [if_pos y] at this; rw [if_pos (by omega)]; exact this
        · rw [if_neg (by omega)] at this; rw [if_neg (by omega)]; exact this
theorem sr_hear {F M t cc : Nat} (hF : F ≤ M) (hM : M < mo t 1 (cc + 1)) (hcc : cc < 4000000000) (hmv : mv cc F) : hrs F (mo t 1 (cc + 1)) = true := by
  unfold hrs
  by_cases e : F / 1099511627776 % 2 = 1
  · rw [if_pos e]
    have h1 := hmv e
    have h2 := (ts_num (t := t) (c := cc + 1) (b := 0) (by omega) (by omega)).2
    rw [Nat.add_zero] at h2
    rw [h2]
    exact decide_eq_true (by omega)
  · rw [if_neg e]
    exact decide_eq_true (by omega)
def PB (D : CD) (cc t : Nat) (LG : List Lg) (j : Nat) (u : SX) : Prop :=
  if D.1 j = true then (∃ M H F bg, M < mo t 1 (cc + 1) ∧ AR (eU (D.2.1 j) t M (fun _ => t) (fun _ => LG) LG) (D.2.2.1 j) cc u H F bg ∧ (FS (D.2.1 j) H).1 = 0) else RepU u j (D.2.2.2 j) ∧ (D.2.2.2 j).1 ≠ 0
theorem sr_pb {D : CD} {cc t j : Nat} {LG : List Lg} {u : SX} (h : PB D cc t LG j u) : PA D cc t LG j u := by
  unfold PB at h
  unfold PA
  by_cases ha : D.1 j = true
  · rw [if_pos ha] at h ⊢
    exact Or.inl h
  · rw [if_neg ha] at h ⊢
    exact h
section
variable {f_time : Int32} {f_sent : Int32} {f_stageCount : Int32} {f_tasks : Int32} {a_sourceEnded : (Nat → Int32)} {a_stageKind : (Nat → Int32)} {a_stageA : (Nat → Int32)} {a_stageB : (Nat → Int32)} {a_stageParts : (Nat → Int32)} {a_partStage : (Nat → Int32)} {a_partUser : (Nat → Int32)} {a_partX : (Nat → Int32)} {a_partY : (Nat → Int32)} {a_phase : (Nat → Int32)} {a_beganAfter : (Nat → Int32)} {a_due : (Nat → Int32)} {a_count : (Nat → Int32)} {a_held : (Nat → Int32)} {a_heldY : (Nat → Int32)} {a_hasHeld : (Nat → Int32)} {a_hasHeldY : (Nat → Int32)} {a_queueSize : (Nat → Int32)} {a_queueIsOfX : (Nat → Int32)} {a_queueValue : (Nat → Int32)} {a_queueDue : (Nat → Int32)} {a_subStatus : (Nat → Int32)} {a_subCode : (Nat → Int32)} {a_subEnd : (Nat → Int32)} {a_subDemand : (Nat → Int64)} {a_subRequests : (Nat → Int32)} {a_subDelivered : (Nat → Int32)} {a_subWaiting : (Nat → Int32)} {a_waitValue : (Nat → Int32)} {a_history : (Nat → Int64)} {a_taskWhat : (Nat → Int32)} {a_taskPart : (Nat → Int32)} {a_taskValue : (Nat → Int32)}
theorem sr_start {D : CD} {cc t j : Nat} {Lo : List Lg} {g : Lg} {so : Nat → Int32} (hcc : cc < 4000000000) (hg : g.2.2.2 = mo t 1 (cc + 1)) (h : PB D cc t Lo j (f_time, f_sent, f_stageCount, f_tasks, a_sourceEnded, a_stageKind, a_stageA, a_stageB, a_stageParts, a_partStage, a_partUser, a_partX, a_partY, a_phase, a_beganAfter, a_due, a_count, a_held, a_heldY, a_hasHeld, a_hasHeldY, a_queueSize, a_queueIsOfX, a_queueValue, a_queueDue, a_subStatus, a_subCode, a_subEnd, a_subDemand, a_subRequests, a_subDelivered, a_subWaiting, a_waitValue, a_history, a_taskWhat, a_taskPart, a_taskValue)) : PSJ D t (cc + 1) Lo g 0 j (f_time, nI (Lo ++ [g]).length, f_stageCount, f_tasks, so, a_stageKind, a_stageA, a_stageB, a_stageParts, a_partStage, a_partUser, a_partX, a_partY, a_phase, a_beganAfter, a_due, a_count, a_held, a_heldY, a_hasHeld, a_hasHeldY, a_queueSize, a_queueIsOfX, a_queueValue, a_queueDue, a_subStatus, a_subCode, a_subEnd, a_subDemand, a_subRequests, a_subDelivered, a_subWaiting, a_waitValue, a_history, a_taskWhat, a_taskPart, a_taskValue) := by
  unfold PB at h
  unfold PSJ
  by_cases ha : D.1 j = true
  · rw [if_pos ha] at h ⊢
    obtain ⟨M, H, F, bg, hM, ⟨hR, hB, hmv, hpz⟩, hs⟩ := h
    refine Or.inl ⟨M, H, F, bg, Nat.lt_of_lt_of_le hM (Nat.le_add_right _ _), ⟨?_, hB, fun q hq hb y => Nat.le_trans (hmv q hq hb y) (Nat.le_succ _), hpz⟩, hs⟩
    obtain ⟨hI, hC, hS, hDn, hC2, hroot, hCW⟩ := hR
    obtain ⟨i1, i2, i3, i4, i5, i6, i7, i8, i9, i10⟩ := hI
    have hS' := xe_stk hS
    refine ⟨⟨⟨i1.1, fun p hp => ?_⟩, i2, i3, i4, ⟨i5.1, xe_ru' (xe_ru i5.2)⟩, i6, i7, i8, fun q hq hb => ?_, rfl⟩, fun q hq => ?_, xe_stk' hS'.1 hS'.2, hDn, hC2, hroot, hCW⟩
    · obtain ⟨k1, k2, k3⟩ := i1.2 p hp
      exact ⟨xg_of_HZ k1, xg_of_HC k2, xg_of_HU k3⟩
    · have h1 := i9 q hq hb
      have hh := sr_hear (i4 q hq hb) hM hcc (hmv q hq hb)
      have hn : nb (Lo ++ [g]) (F q) = nb Lo (F q) := by
        rw [sq_nb, hg, if_pos hh]; rfl
      show a_beganAfter (ab (D.2.1 j) q) = nI (nb (Lo ++ [g]) (F q))
      rw [hn]
      exact h1
    · have hc := hC q hq
      exact ⟨fun hb => ⟨(hc.1 hb).1, fun hf => ⟨xe_rep' (xe_rep ((hc.1 hb).2 hf).1), ((hc.1 hb).2 hf).2⟩⟩, fun hb => xe_rep' (xe_rep (hc.2 hb))⟩
  · rw [if_neg ha] at h ⊢
    exact ⟨xe_ru' (xe_ru h.1), h.2⟩
end
theorem sr_pl (a c : Nat) : a + c * 256 + (9 + 1) < a + (c + 1) * 256 := by omega
theorem sr_mos (t c : Nat) : mo t 1 c + (9 + 1) < mo t 1 (c + 1) := by
  unfold mo
  exact sr_pl _ c
theorem sr_psj_pa {D : CD} {c t j : Nat} {Lo : List Lg} {g : Lg} {u : SX} (hD : cdOK D) (hj : j < 3) (h : PSJ D t c Lo g 9 j u) : PA D c t (Lo ++ [g]) j u := by
  unfold PSJ at h
  unfold PA
  by_cases ha : D.1 j = true
  · rw [if_pos ha] at h ⊢
    have h9 := (hD j hj ha).1.2.2.1
    rcases h with h | h
    · obtain ⟨M, H, F, bg, hM, ⟨hR, hB, hmv, hpz⟩, hs⟩ := h
      refine Or.inl ⟨M, H, F, bg, ?_, ⟨sq_rst_l (fun q hq => ?_) hR, hB, hmv, hpz⟩, hs⟩
      · exact Nat.lt_trans hM (sr_mos t c)
      · rw [if_pos (by omega)]
    · exact Or.inr h
  · rw [if_neg ha] at h ⊢
    exact h
def setS (se : Int32) (so : Nat → Int32) : St2 → St2
  | (a, _, b, _, r) => (a, se, b, so, r)
theorem sr_send {post : Int32 → SX → Prop} {D : CD} {cc t s w : Nat} {v : Int32} {Lo : List Lg} {u : SX} (hD : cdOK D) (ht2 : t ≤ 200) (hcc : cc < 3000000000) (hs3 : s < 3) (hw : 1 ≤ w) (hw3 : w ≤ 3) (hwo : wfo [(w, v)]) (hmon : ∀ g' ∈ Lo, g'.2.2.2 ≤ mo t 1 (cc + 1) ∧ g'.2.2.2 / 256 % 4294967296 ≤ cc + 1) (hlen : Lo.length < 32) (hse : x_sent u = nI Lo.length) (hso : x_sourceEnded u s = 0) (hS : RepS u []) (h : ∀ j, j < 3 → PB D cc t Lo j u)
    (K : ∀ u', x_st2 u' = setS (nI (Lo.length + 1)) (upd (x_sourceEnded u) s (bI (w != 1))) (x_st2 u) → RepS u' [] → (∀ j, j < 3 → PA D (cc + 1) t (Lo ++ [(s, w - 1, v, mo t 1 (cc + 1))]) j u') → post 1 u') : wpX_send post u (nI w) (nI s) v := by
  have hcl : (nI s).toNatClampNeg = s := nI_clamp (by omega)
  have hin : vp_in (nI s) 3 := vp_in_nI hs3 (by decide)
  obtain ⟨f_time, f_sent, f_stageCount, f_tasks, a_sourceEnded, a_stageKind, a_stageA, a_stageB, a_stageParts, a_partStage, a_partUser, a_partX, a_partY, a_phase, a_beganAfter, a_due, a_count, a_held, a_heldY, a_hasHeld, a_hasHeldY, a_queueSize, a_queueIsOfX, a_queueValue, a_queueDue, a_subStatus, a_subCode, a_subEnd, a_subDemand, a_subRequests, a_subDelivered, a_subWaiting, a_waitValue, a_history, a_taskWhat, a_taskPart, a_taskValue⟩ := u
  have hse' : f_sent = nI Lo.length := hse
  have hso' : a_sourceEnded s = 0 := hso
  have hSt := xe_stk hS
  have hl : (Lo ++ [(s, w - 1, v, mo t 1 (cc + 1))]).length = Lo.length + 1 := by simp
  have hw1 : w - 1 + 1 = w := by omega
  have go : ∀ so : Nat → Int32, so = upd a_sourceEnded s (bI (w != 1)) → wX_send_58 post (nI w) (nI s) v 4 0 f_time (nI (Lo.length + 1)) f_stageCount f_tasks (so) a_stageKind a_stageA a_stageB a_stageParts a_partStage a_partUser a_partX a_partY a_phase a_beganAfter a_due a_count a_held a_heldY a_hasHeld a_hasHeldY a_queueSize a_queueIsOfX a_queueValue a_queueDue a_subStatus a_subCode a_subEnd a_subDemand a_subRequests a_subDelivered a_subWaiting a_waitValue a_history a_taskWhat a_taskPart a_taskValue := by
    intro so hso2
    have hgo := sr_all (post := post) (D := D) (t := t) (c := cc + 1) (s := s) (Lo := Lo) (g := (s, w - 1, v, mo t 1 (cc + 1))) (u := (f_time, nI (Lo ++ [(s, w - 1, v, mo t 1 (cc + 1))]).length, f_stageCount, f_tasks, so, a_stageKind, a_stageA, a_stageB, a_stageParts, a_partStage, a_partUser, a_partX, a_partY, a_phase, a_beganAfter, a_due, a_count, a_held, a_heldY, a_hasHeld, a_hasHeldY, a_queueSize, a_queueIsOfX, a_queueValue, a_queueDue, a_subStatus, a_subCode, a_subEnd, a_subDemand, a_subRequests, a_subDelivered, a_subWaiting, a_waitValue, a_history, a_taskWhat, a_taskPart, a_taskValue)) hD ht2 (by omega) rfl rfl hs3 (by show wfo [(w - 1 + 1, v)]; rw [hw1]; exact hwo) hmon (by omega) (xe_stk' hSt.1 hSt.2) (fun j hj => sr_start (by omega) rfl (h j hj)) (fun u' h1 h2 h3 => K u' ?_ h2 (fun j hj => sr_psj_pa hD hj (h3 j hj)))
    · have hgo2 : wX_send_58 post (nI (w - 1 + 1)) (nI s) v 4 0 f_time (nI (Lo ++ [(s, w - 1, v, mo t 1 (cc + 1))]).length) f_stageCount f_tasks (so) a_stageKind a_stageA a_stageB a_stageParts a_partStage a_partUser a_partX a_partY a_phase a_beganAfter a_due a_count a_held a_heldY a_hasHeld a_hasHeldY a_queueSize a_queueIsOfX a_queueValue a_queueDue a_subStatus a_subCode a_subEnd a_subDemand a_subRequests a_subDelivered a_subWaiting a_waitValue a_history a_taskWhat a_taskPart a_taskValue := hgo
      rw [hw1, hl] at hgo2
      exact hgo2
    · rw [h1, xe_st2, xe_st2, hl, hso2]
      rfl
  refine br_f (nI_pos (by omega)) (br_f (nI_ge (b := 3) hs3 (by decide)) ⟨hin, br_t (by rw [hcl]; exact hso') (br_t (by rw [hse']; exact nI_lt (b := 32) hlen (by decide)) (nm_r (e' := nI (Lo.length + 1)) (by rw [hse', nI_1]) ?_))⟩)
  by_cases h1 : w = 1
  · exact br_t (by rw [h1]; rfl) ⟨hin, nm_e ⟨4, go _ (by rw [hcl, h1]; rfl)⟩⟩
  · have hb : (w != 1) = true := by simpa using h1
    exact br_f (by rw [show (1 : Int32) = nI 1 from rfl, nI_eq (by omega) (by decide)]; exact h1) ⟨hin, nm_e ⟨4, go _ (by rw [hcl, hb]; rfl)⟩⟩
