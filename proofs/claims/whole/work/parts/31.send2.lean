/-! ===== send: one subscription, then all ===== -/
theorem sq_hmono {F w w' : Nat} (h : hrs F w' = true) (h1 : w' ≤ w) (h2 : w' / 256 % 4294967296 ≤ w / 256 % 4294967296) : hrs F w = true := by
  unfold hrs at h ⊢
  by_cases e : F / 1099511627776 % 2 = 1
  · rw [if_pos e] at h ⊢
    have := of_decide_eq_true h
    exact decide_eq_true (by omega)
  · rw [if_neg e] at h ⊢
    have := of_decide_eq_true h
    exact decide_eq_true (by omega)
theorem sq_nb {Lo : List Lg} {g : Lg} {F : Nat} : nb (Lo ++ [g]) F = nb Lo F + if hrs F g.2.2.2 = true then 0 else 1 := by
  unfold nb
  rw [List.filter_append, List.length_append]
  congr 1
  by_cases h : hrs F g.2.2.2 = true
  · rw [if_pos h]; simp [h]
  · rw [if_neg h]; simp [h]
theorem sq_nb_le {Lo : List Lg} {F : Nat} : nb Lo F ≤ Lo.length := List.length_filter_le _ _
theorem sq_heard {Lo : List Lg} {g : Lg} {F : Nat} (hmon : ∀ g' ∈ Lo, g'.2.2.2 ≤ g.2.2.2 ∧ g'.2.2.2 / 256 % 4294967296 ≤ g.2.2.2 / 256 % 4294967296) : nb (Lo ++ [g]) F < (Lo ++ [g]).length ↔ hrs F g.2.2.2 = true := by
  rw [sq_nb, List.length_append, List.length_singleton]
  have hle := sq_nb_le (Lo := Lo) (F := F)
  constructor
  · intro h
    rcases Bool.eq_false_or_eq_true (hrs F g.2.2.2) with z | z
    · exact z
    · exfalso
      rw [if_neg (by rw [z]; decide)] at h
      have hall : ∀ g' ∈ Lo, hrs F g'.2.2.2 = false := by
        intro g' hg'
        rcases Bool.eq_false_or_eq_true (hrs F g'.2.2.2) with y | y
        · have := sq_hmono y (hmon g' hg').1 (hmon g' hg').2
          rw [z] at this; exact absurd this (by decide)
        · exact y
      have := cb_nb hall
      omega
  · intro h
    rw [if_pos h]; omega
def PS (E : EnvP) (B0 t c : Nat) (Lo : List Lg) (g : Lg) (m : Nat) (u : SX) : Prop :=
  (∃ M H F bg, M < mo t 1 c + (m + 1) ∧ AR (eU E t M (fun _ => t) (fun q => if q < m then Lo ++ [g] else Lo) (Lo ++ [g])) B0 c u H F bg ∧ (FS E H).1 = 0) ∨ FIN E B0 t (Lo ++ [g]) u
theorem sq_rst_l {E : EnvP} {t M : Nat} {c : Nat → Nat} {lg lg' : Nat → List Lg} {LG : List Lg} {u : SX} {H : Nat → List Ev} {F : Nat → Nat} {bg : Nat → Bool} (h : ∀ q, q < e_n E → lg' q = lg q) (hR : RST (eU E t M c lg LG) u H F bg) : RST (eU E t M c lg' LG) u H F bg := by
  obtain ⟨hI, hC, hS, hD, hC2, hroot, hCW⟩ := hR
  refine ⟨hI, fun q hq => ?_, hS, hD, hC2, hroot, hCW⟩
  have hc := hC q hq
  refine ⟨fun hb => ?_, hc.2⟩
  have e : Rn (eU E t M c lg' LG) H F q = Rn (eU E t M c lg LG) H F q := by
    show RR (e_kd E q) (e_oa E q) (e_ob E q) q (F q) (lg' q) (c q) (H (e_xc E q)) (H (e_yc E q)) = RR (e_kd E q) (e_oa E q) (e_ob E q) q (F q) (lg q) (c q) (H (e_xc E q)) (H (e_yc E q))
    rw [h q hq]
  rw [e]
  exact hc.1 hb
theorem sq_new {E : EnvP} {B0 t c m M : Nat} {Lo : List Lg} {g : Lg} {u u' : SX} {H H' : Nat → List Ev} {F F' : Nat → Nat} {bg bg' : Nat → Bool} (hT : TR E) (hm : m < e_n E) (hc : c < 4000000000) (hg : g.2.2.2 = mo t 1 c)
    (hA : AR (eU E t M (fun _ => t) (fun q => if q < m then Lo ++ [g] else Lo) (Lo ++ [g])) B0 c u H F bg)
    (hR : RST (eM (eU E t M (fun _ => t) (fun q => if q < m then Lo ++ [g] else Lo) (Lo ++ [g])) (mo t 1 c + (m + 1)) (fun _ => t) (fup (fun q => if q < m then Lo ++ [g] else Lo) m (Lo ++ [g]))) u' H' F' bg') (hph : ∀ k, e_n E ≤ k → k < 9 → x_phase u' (9 * e_id E + k) = 0) (hmono : ∀ r, r < e_n E → bg r = true → bg' r = true ∧ F' r = F r) (hnew : ∀ r, r < e_n E → bg' r = true → bg r = true ∨ F' r = mo t 1 c + (m + 1)) : PS E B0 t c Lo g (m + 1) u' := by
  obtain ⟨hR0, hB, hmv, hpz⟩ := hA
  have h9 := hT.2.2.1
  have hroot : bg (e_n E - 1) = true := hR0.2.2.2.2.2.1
  have h1n := hT.2.1
  have hB' : F' (e_n E - 1) = B0 := (hmono _ (by omega) hroot).2.trans hB
  have hR1 : RST (eU E t (mo t 1 c + (m + 1)) (fun _ => t) (fun q => if q < m + 1 then Lo ++ [g] else Lo) (Lo ++ [g])) u' H' F' bg' := by
    refine sq_rst_l (lg := fup (fun q => if q < m then Lo ++ [g] else Lo) m (Lo ++ [g])) (fun q hq => ?_) hR
    by_cases e : q = m
    · subst e; rw [fu_s, if_pos (by omega)]
    · rw [fu_n e]
      rcases Nat.lt_or_ge q m with z | z
      · rw [if_pos z, if_pos (by omega)]
      · rw [if_neg (by omega), if_neg (by omega)]
  have hmv' : ∀ q, q < e_n E → bg' q = true → mv c (F' q) := by
    intro q hq hb
    rcases hnew q hq hb with z | z
    · rw [(hmono q hq z).2]; exact hmv q hq z
    · rw [z]
      intro y
      rw [(ts_num (t := t) (c := c) (b := m + 1) (by omega) (by omega)).2]
      exact Nat.le_refl _
  have hRU : RepU u' (e_id E) (FS E H') := hR1.1.2.2.2.2.1.2
  by_cases hs : (FS E H').1 = 0
  · exact Or.inl ⟨mo t 1 c + (m + 1), H', F', bg', by omega, ⟨hR1, hB', hmv', hph⟩, hs⟩
  · refine Or.inr ⟨t, mo t 1 c + (m + 1), (fun _ => t), (fun q => if q < m + 1 then Lo ++ [g] else Lo), Lo ++ [g], H', F', bg', ad_cu hR1 hB', fun q hq => ⟨Nat.le_refl _, ?_⟩, hRU, hs⟩
    dsimp only
    by_cases hq1 : q < m + 1
    · rw [if_pos hq1]
      exact ⟨[], by simp, fun g hg => absurd hg (by simp)⟩
    · rw [if_neg hq1]
      refine ⟨[g], rfl, fun g' hg' => ?_⟩
      rw [List.mem_singleton] at hg'
      subst hg'
      rw [hg]
      omega
theorem sq_inner {post : Int32 → SX → Prop} {J0 : Int32 → Int32 → Int32 → Int32 → Int32 → (Nat → Int32) → (Nat → Int32) → (Nat → Int32) → (Nat → Int32) → (Nat → Int32) → (Nat → Int32) → (Nat → Int32) → (Nat → Int32) → (Nat → Int32) → (Nat → Int32) → (Nat → Int32) → (Nat → Int32) → (Nat → Int32) → (Nat → Int32) → (Nat → Int32) → (Nat → Int32) → (Nat → Int32) → (Nat → Int32) → (Nat → Int32) → (Nat → Int32) → (Nat → Int32) → (Nat → Int32) → (Nat → Int32) → (Nat → Int32) → (Nat → Int64) → (Nat → Int32) → (Nat → Int32) → (Nat → Int32) → (Nat → Int32) → (Nat → Int64) → (Nat → Int32) → (Nat → Int32) → (Nat → Int32) → Prop} {E : EnvP} {B0 t c s : Nat} {Lo : List Lg} {g : Lg} {z : St2} (hT : TR E) (ht2 : t ≤ 200) (hc : c < 4000000000) (hg : g.2.2.2 = mo t 1 c) (hgs : g.1 = s) (hs3 : s < 3) (hwo : wfo [(g.2.1 + 1, g.2.2.1)]) (hmon : ∀ g' ∈ Lo, g'.2.2.2 ≤ g.2.2.2 ∧ g'.2.2.2 / 256 % 4294967296 ≤ c) (hlen : Lo.length < 1000)
    (S : SX → Prop) (hSt : ∀ u u', FR E 0 u u' → RepS u' [] → S u → S u') (u : SX) (hz : x_st2 u = z) (hS0 : RepS u []) (hSu : S u) (hP : PS E B0 t c Lo g 0 u)
    (K : ∀ u', x_st2 u' = z → RepS u' [] → S u' → PS E B0 t c Lo g 9 u' → J0 (nI (e_id E + 1)) (x_time u') (x_sent u') (x_stageCount u') (x_tasks u') (x_sourceEnded u') (x_stageKind u') (x_stageA u') (x_stageB u') (x_stageParts u') (x_partStage u') (x_partUser u') (x_partX u') (x_partY u') (x_phase u') (x_beganAfter u') (x_due u') (x_count u') (x_held u') (x_heldY u') (x_hasHeld u') (x_hasHeldY u') (x_queueSize u') (x_queueIsOfX u') (x_queueValue u') (x_queueDue u') (x_subStatus u') (x_subCode u') (x_subEnd u') (x_subDemand u') (x_subRequests u') (x_subDelivered u') (x_subWaiting u') (x_waitValue u') (x_history u') (x_taskWhat u') (x_taskPart u') (x_taskValue u')) : wX_send_67 post J0 (nI (g.2.1 + 1)) (nI s) g.2.2.1 (nI (e_id E)) 10 0 (x_time u) (x_sent u) (x_stageCount u) (x_tasks u) (x_sourceEnded u) (x_stageKind u) (x_stageA u) (x_stageB u) (x_stageParts u) (x_partStage u) (x_partUser u) (x_partX u) (x_partY u) (x_phase u) (x_beganAfter u) (x_due u) (x_count u) (x_held u) (x_heldY u) (x_hasHeld u) (x_hasHeldY u) (x_queueSize u) (x_queueIsOfX u) (x_queueValue u) (x_queueDue u) (x_subStatus u) (x_subCode u) (x_subEnd u) (x_subDemand u) (x_subRequests u) (x_subDelivered u) (x_subWaiting u) (x_waitValue u) (x_history u) (x_taskWhat u) (x_taskPart u) (x_taskValue u) := by
  have h9 := hT.2.2.1
  have hnumg : g.2.2.2 / 256 % 4294967296 = c := by
    rw [hg]
    have := (ts_num (t := t) (c := c) (b := 0) (by omega) (by omega)).2
    rw [Nat.add_zero] at this
    exact this
  have hmon2 : ∀ g' ∈ Lo, g'.2.2.2 ≤ g.2.2.2 ∧ g'.2.2.2 / 256 % 4294967296 ≤ g.2.2.2 / 256 % 4294967296 := fun g' hg' => ⟨(hmon g' hg').1, by rw [hnumg]; exact (hmon g' hg').2⟩
  -- what the test of a part means
  have hsc : ∀ (m M : Nat) (u : SX) (H : Nat → List Ev) (F : Nat → Nat) (bg : Nat → Bool), m < e_n E → AR (eU E t M (fun _ => t) (fun q => if q < m then Lo ++ [g] else Lo) (Lo ++ [g])) B0 c u H F bg → bg m = true → (SC (e_id E) m s u ↔ (x_subStatus u (e_id E) = 0 ∧ x_phase u (9 * e_id E + m) = 1 ∧ e_kd E m = 0 ∧ g.1 = cl (e_oa E m) ∧ hrs (F m) g.2.2.2 = true)) := by
    intro m M u H F bg hm hA hb
    obtain ⟨hR, _⟩ := hA
    have hI := hR.1
    have hHZ := (hI.1.2 m hm).1
    have hop : opk (e_kd E m) (e_oa E m) (e_ob E m) := hHZ.2.2.2.2.2.2.2.2
    have hps : x_partStage u (9 * e_id E + m) = nI (e_sg E m) := hHZ.2.2.2.1
    have hs12 : e_sg E m < 12 := hHZ.2.2.2.2.1
    have hkd : x_stageKind u (e_sg E m) = nI (e_kd E m) := hHZ.2.2.2.2.2.1
    have hsa : x_stageA u (e_sg E m) = e_oa E m := hHZ.2.2.2.2.2.2.1
    have hba : x_beganAfter u (9 * e_id E + m) = nI (nb (Lo ++ [g]) (F m)) := hI.2.2.2.2.2.2.2.2.1 m hm hb
    have hse : x_sent u = nI (Lo ++ [g]).length := hI.2.2.2.2.2.2.2.2.2
    have hk20 := hop.1
    have hle := sq_nb_le (Lo := Lo ++ [g]) (F := F m)
    have hl2 : (Lo ++ [g]).length = Lo.length + 1 := by simp
    unfold SC
    rw [hps, nI_clamp (by omega), hkd, hsa, hse, hba, nI_leI (by omega) (by omega), Nat.not_le, sq_heard hmon2]
    constructor
    · rintro ⟨a1, a2, a3, a4, a5⟩
      have hk0 : e_kd E m = 0 := by
        rw [show (0 : Int32) = nI 0 from rfl, nI_eq (by omega) (by omega)] at a3; exact a3
      refine ⟨a1, a2, hk0, ?_, a5⟩
      have h0 := hop.2.1 hk0
      rw [a4, hgs]
      unfold cl
      rw [nI_clamp (by omega)]
    · rintro ⟨a1, a2, a3, a4, a5⟩
      have h0 := hop.2.1 a3
      exact ⟨a1, a2, by rw [a3]; rfl, by rw [← hgs, a4]; exact h0.2, a5⟩
  refine sn_inner hT.1 (fun m u => x_st2 u = z ∧ RepS u [] ∧ S u ∧ PS E B0 t c Lo g m u) ?_ ?_ ?_ 9 0 u rfl ⟨hz, hS0, hSu, hP⟩ (fun u' h => K u' h.1 h.2.1 h.2.2.1 h.2.2.2)
  · intro m u hm hP hs hp
    obtain ⟨hz, hS0, hSu, hP⟩ := hP
    rcases hP with hP | hP
    · obtain ⟨M, H, F, bg, hM, hA, hst⟩ := hP
      by_cases hmn : m < e_n E
      · have hHZ := (hA.1.1.1.2 m hmn).1
        exact ⟨e_sg E m, hHZ.2.2.2.2.1, hHZ.2.2.2.1⟩
      · have h0 : x_phase u (9 * e_id E + m) = 0 := hA.2.2.2 m (show e_n E ≤ m by omega) hm
        rw [h0] at hp
        exact absurd hp (by decide)
    · exfalso
      obtain ⟨t', M, c', lg, LG', H, F, bg, h1, h2, h3, h4⟩ := hP
      rw [ad_st h3] at hs
      exact h4 hs
  · intro m u hm hP hsc0 pst hK
    obtain ⟨hz, hS0, hSu, hP⟩ := hP
    rcases hP with hP | hP
    · obtain ⟨M, H, F, bg, hM, hA, hst⟩ := hP
      have hA0 := hA
      obtain ⟨hR, hB, hmv, hpz⟩ := hA
      by_cases hmn : m < e_n E
      · have hp := hsc0.2.1
        have hb : bg m = true := by
          have h2 := hR.1.2.1 m hmn
          rcases Bool.eq_false_or_eq_true (bg m) with y | y
          · exact y
          · have hp' : x_phase u (ab (eU E t M (fun _ => t) (fun q => if q < m then Lo ++ [g] else Lo) (Lo ++ [g])) m) = 1 := hp
            rw [y, hp'] at h2
            have h0 : phs false (fin (H m)) = 0 := rfl
            rw [h0] at h2
            exact absurd h2 (by decide)
        obtain ⟨a1, a2, a3, a4, a5⟩ := (hsc m M u H F bg hmn hA0 hb).mp hsc0
        refine ts_go (E := eU E t M (fun _ => t) (fun q => if q < m then Lo ++ [g] else Lo) (Lo ++ [g])) (t := t) (c := c) (Lo := Lo) (g := g) hT hR hmn hc (if_neg (Nat.lt_irrefl m)) hg hM (fun _ _ => rfl) rfl ht2 (fun r hr g' hg' => ?_) (fun g' hg' => hg') (fun g' hg' => ?_) a2 a3 a4 a5 hwo (fun u' H' F' bg' k1 k2 k3 k4 => hK u' ?_)
        · have hg2 : g' ∈ (if r < m then Lo ++ [g] else Lo) := hg'
          show g' ∈ Lo ++ [g]
          by_cases hrm : r < m
          · rw [if_pos hrm] at hg2; exact hg2
          · rw [if_neg hrm] at hg2; exact List.mem_append.mpr (Or.inl hg2)
        · rcases List.mem_append.mp hg' with y | y
          · exact (hmon g' y).2
          · rw [List.mem_singleton] at y; subst y; rw [hnumg]; exact Nat.le_refl _
        · refine ⟨k2.1.trans hz, k1.2.2.1, hSt u u' k2 k1.2.2.1 hSu, sq_new hT hmn hc hg hA0 k1 (fun k h1 h2 => ?_) k3 k4⟩
          have := (k2.2.2.1 (9 * e_id E + k) (Or.inr (by show 9 * e_id E + e_n E ≤ 9 * e_id E + k; omega))).1
          rw [this]
          exact hpz k h1 h2
      · have h0 : x_phase u (9 * e_id E + m) = 0 := hpz m (show e_n E ≤ m by omega) hm
        have hp := hsc0.2.1
        rw [h0] at hp
        exact absurd hp (by decide)
    · exfalso
      obtain ⟨t', M, c', lg, LG', H, F, bg, h1, h2, h3, h4⟩ := hP
      have hs := hsc0.1
      rw [ad_st h3] at hs
      exact h4 hs
  · intro m u hm hP hno
    obtain ⟨hz, hS0, hSu, hP⟩ := hP
    refine ⟨hz, hS0, hSu, ?_⟩
    rcases hP with hP | hP
    · obtain ⟨M, H, F, bg, hM, hA, hst⟩ := hP
      have hA0 := hA
      obtain ⟨hR, hB, hmv, hpz⟩ := hA
      have hRU : RepU u (e_id E) (FS E H) := hR.1.2.2.2.2.1.2
      have hst' : x_subStatus u (e_id E) = 0 := by rw [ad_st hRU]; exact hst
      by_cases hmn : m < e_n E
      · have hskip := ts_skip (E := eU E t M (fun _ => t) (fun q => if q < m then Lo ++ [g] else Lo) (Lo ++ [g])) (t := t) (c := c) (Lo := Lo) (g := g) hT hR hmn hc (if_neg (Nat.lt_irrefl m)) hg (Nat.le_of_lt hM) (fun _ _ => rfl) (fun hb hf hk hh => hno ((hsc m M u H F bg hmn hA0 hb).mpr ⟨hst', ?_, hk, hh.1, hh.2⟩))
        · exact sq_new hT hmn hc hg hA0 hskip hpz (fun r _ h => ⟨h, rfl⟩) (fun r _ h => Or.inl h)
        · have := hR.1.2.1 m hmn
          rw [hb, hf] at this
          exact this
      · refine Or.inl ⟨M, H, F, bg, by omega, ⟨sq_rst_l (fun q hq => ?_) hR, hB, hmv, hpz⟩, hst⟩
        rw [if_pos (by omega), if_pos (by omega)]
    · exact Or.inr hP
