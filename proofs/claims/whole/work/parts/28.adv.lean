/-! ===== advance ===== -/
def eU (E : EnvP) (t M : Nat) (c : Nat → Nat) (lg : Nat → List Lg) (LG : List Lg) : EnvP := (M, c, lg, t, LG, e_id E, e_n E, e_h0 E, e_kd E, e_us E, e_xc E, e_yc E, e_lo E, e_sg E, e_oa E, e_ob E, e_s0 E)
def mv (cc m : Nat) : Prop := m / 1099511627776 % 2 = 1 → m / 256 % 4294967296 ≤ cc
def FS (E : EnvP) (H : Nat → List Ev) : Sb := ((H (e_n E - 1)).drop (e_h0 E)).foldl evf (e_s0 E)
def AR (E : EnvP) (B0 cc : Nat) (u : SX) (H : Nat → List Ev) (F : Nat → Nat) (bg : Nat → Bool) : Prop :=
  RST E u H F bg ∧ F (e_n E - 1) = B0 ∧ (∀ q, q < e_n E → bg q = true → mv cc (F q)) ∧ (∀ k, e_n E ≤ k → k < 9 → x_phase u (9 * e_id E + k) = 0)
/-- a configuration cut at a moment, without the cells -/
def CU (E : EnvP) (H : Nat → List Ev) (F : Nat → Nat) (bg : Nat → Bool) (B0 : Nat) : Prop :=
  (∀ q, q < e_n E → bg q = true → (Rn E H F q).2 = H q) ∧ (∀ q, q < e_n E → bg q = false → H q = []) ∧ (∀ q, q < e_n E → ∀ e ∈ H q, e.2.2 ≤ e_M E) ∧ (∀ q, q < e_n E → bg q = true → F q ≤ e_M E) ∧
  (∀ q, q < e_n E → 19 ≤ e_kd E q → bg (e_yc E q) = true → ∃ e ∈ H (e_xc E q), mt (e_kd E q) e.1 = true) ∧ (∀ q, q + 1 < e_n E → bg q = true → bg (e_us E q) = true) ∧ (∀ q, q < e_n E → bg q = true → DN E F bg q) ∧ (∀ q, q < e_n E → 19 ≤ e_kd E q → C2 E H F bg q) ∧ bg (e_n E - 1) = true ∧ F (e_n E - 1) = B0 ∧ CW E
theorem ad_cu {E : EnvP} {u : SX} {H : Nat → List Ev} {F : Nat → Nat} {bg : Nat → Bool} {B0 : Nat} (h : RST E u H F bg) (hB : F (e_n E - 1) = B0) : CU E H F bg B0 := by
  obtain ⟨hI, hC, hS, hD, hC2, hroot, hCW⟩ := h
  obtain ⟨i1, i2, i3, i4, i5, i6, i7, i8, i9, i10⟩ := hI
  exact ⟨fun q hq hb => ((hC q hq).1 hb).1, i7, i3, i4, i6, i8, hD, hC2, hroot, hB, hCW⟩
/-- the subscription ended during the call -/
def FIN (E : EnvP) (B0 T : Nat) (L : List Lg) (u : SX) : Prop :=
  ∃ (t M : Nat) (c : Nat → Nat) (lg : Nat → List Lg) (LG : List Lg) (H : Nat → List Ev) (F : Nat → Nat) (bg : Nat → Bool), CU (eU E t M c lg LG) H F bg B0 ∧ (∀ q, q < e_n E → c q ≤ T ∧ ∃ ex, L = lg q ++ ex ∧ ∀ g ∈ ex, M < g.2.2.2 + (q + 1)) ∧ RepU u (e_id E) (FS E H) ∧ (FS E H).1 ≠ 0
theorem ad_fin_mono {E : EnvP} {B0 T T' : Nat} {L : List Lg} {u u' : SX} (hT : T ≤ T') (hu : ∀ s, RepU u (e_id E) s → RepU u' (e_id E) s) (h : FIN E B0 T L u) : FIN E B0 T' L u' := by
  obtain ⟨t, M, c, lg, LG, H, F, bg, h1, h2, h3, h4⟩ := h
  exact ⟨t, M, c, lg, LG, H, F, bg, h1, fun q hq => ⟨Nat.le_trans (h2 q hq).1 hT, (h2 q hq).2⟩, hu _ h3, h4⟩
theorem ad_rn_c {E : EnvP} {t M : Nat} {c c' : Nat → Nat} {lg : Nat → List Lg} {LG : List Lg} {H : Nat → List Ev} {F : Nat → Nat} {q : Nat} (h : c' q = c q) : Rn (eU E t M c' lg LG) H F q = Rn (eU E t M c lg LG) H F q := by
  show RR (e_kd E q) (e_oa E q) (e_ob E q) q (F q) (lg q) (c' q) (H (e_xc E q)) (H (e_yc E q)) = RR (e_kd E q) (e_oa E q) (e_ob E q) q (F q) (lg q) (c q) (H (e_xc E q)) (H (e_yc E q))
  rw [h]
theorem ad_rst_c {E : EnvP} {t M : Nat} {c c' : Nat → Nat} {lg : Nat → List Lg} {LG : List Lg} {u : SX} {H : Nat → List Ev} {F : Nat → Nat} {bg : Nat → Bool} (h : ∀ q, q < e_n E → c' q = c q) (hR : RST (eU E t M c lg LG) u H F bg) : RST (eU E t M c' lg LG) u H F bg := by
  obtain ⟨hI, hC, hS, hD, hC2, hroot, hCW⟩ := hR
  refine ⟨hI, fun q hq => ?_, hS, hD, hC2, hroot, fun q hq => ?_⟩
  · have hc := hC q hq
    refine ⟨fun hb => ?_, hc.2⟩
    rw [ad_rn_c (h q hq)]
    exact hc.1 hb
  · have := hCW q hq
    show tm (c' q) q ≤ M ∧ M < tm (c' q + 1) q
    rw [h q hq]
    exact this
theorem ad_st {u : SX} {id : Nat} {s : Sb} (h : RepU u id s) : x_subStatus u id = s.1 := by
  obtain ⟨st, co, en, dm, dv, ws, hh⟩ := s
  exact h.1
section
variable {cc t : Nat} {LG : List Lg}
/-- one subscription's state before its part m fires at time t -/
def PI (E : EnvP) (B0 cc t : Nat) (LG : List Lg) (m : Nat) (u : SX) : Prop :=
  (∃ M H F bg, M < tm t m ∧ AR (eU E t M (fun q => if q < m then t else t - 1) (fun _ => LG) LG) B0 cc u H F bg ∧ (FS E H).1 = 0) ∨ FIN E B0 t LG u
theorem ad_new {E : EnvP} {B0 m M : Nat} {u u' : SX} {H H' : Nat → List Ev} {F F' : Nat → Nat} {bg bg' : Nat → Bool} (hT : TR E) (hm : m < e_n E) (ht : 1 ≤ t)
    (hA : AR (eU E t M (fun q => if q < m then t else t - 1) (fun _ => LG) LG) B0 cc u H F bg)
    (hR : RST (eM (eU E t M (fun q => if q < m then t else t - 1) (fun _ => LG) LG) (tm t m) (fup (fun q => if q < m then t else t - 1) m t) (fun _ => LG)) u' H' F' bg') (hph : ∀ k, e_n E ≤ k → k < 9 → x_phase u' (9 * e_id E + k) = 0) (hmono : ∀ r, r < e_n E → bg r = true → bg' r = true ∧ F' r = F r) (hnew : ∀ r, r < e_n E → bg' r = true → bg r = true ∨ F' r = tm t m) : PI E B0 cc t LG (m + 1) u' := by
  obtain ⟨hR0, hB, hmv, hpz⟩ := hA
  have h9 := hT.2.2.1
  have hroot : bg (e_n E - 1) = true := hR0.2.2.2.2.2.1
  have h1n := hT.2.1
  have hB' : F' (e_n E - 1) = B0 := (hmono _ (by omega) hroot).2.trans hB
  have hR1 : RST (eU E t (tm t m) (fun q => if q < m + 1 then t else t - 1) (fun _ => LG) LG) u' H' F' bg' := by
    refine ad_rst_c (c := fup (fun q => if q < m then t else t - 1) m t) (fun q hq => ?_) hR
    by_cases e : q = m
    · subst e; rw [fu_s, if_pos (by omega)]
    · rw [fu_n e]
      rcases Nat.lt_or_ge q m with z | z
      · rw [if_pos z, if_pos (by omega)]
      · rw [if_neg (by omega), if_neg (by omega)]
  have hmv' : ∀ q, q < e_n E → bg' q = true → mv cc (F' q) := by
    intro q hq hb
    rcases hnew q hq hb with z | z
    · rw [(hmono q hq z).2]; exact hmv q hq z
    · rw [z]
      intro y
      exfalso
      have : tm t m / 1099511627776 % 2 = 0 := by unfold tm; omega
      omega
  have hRU : RepU u' (e_id E) (FS E H') := hR1.1.2.2.2.2.1.2
  by_cases hs : (FS E H').1 = 0
  · exact Or.inl ⟨tm t m, H', F', bg', by unfold tm; omega, ⟨hR1, hB', hmv', hph⟩, hs⟩
  · refine Or.inr ⟨t, tm t m, (fun q => if q < m + 1 then t else t - 1), (fun _ => LG), LG, H', F', bg', ad_cu hR1 hB', fun q hq => ⟨?_, [], by simp, fun g hg => absurd hg (by simp)⟩, hRU, hs⟩
    dsimp only
    split <;> omega
theorem ad_inner {post : SX → Prop} {J : Int32 → Int32 → Int32 → Int32 → Int32 → (Nat → Int32) → (Nat → Int32) → (Nat → Int32) → (Nat → Int32) → (Nat → Int32) → (Nat → Int32) → (Nat → Int32) → (Nat → Int32) → (Nat → Int32) → (Nat → Int32) → (Nat → Int32) → (Nat → Int32) → (Nat → Int32) → (Nat → Int32) → (Nat → Int32) → (Nat → Int32) → (Nat → Int32) → (Nat → Int32) → (Nat → Int32) → (Nat → Int32) → (Nat → Int32) → (Nat → Int32) → (Nat → Int32) → (Nat → Int32) → (Nat → Int64) → (Nat → Int32) → (Nat → Int32) → (Nat → Int32) → (Nat → Int32) → (Nat → Int64) → (Nat → Int32) → (Nat → Int32) → (Nat → Int32) → Prop} {E : EnvP} {B0 : Nat} {z : St2} (hT : TR E) (ht : 1 ≤ t) (ht2 : t ≤ 200) (hLG : ∀ g ∈ LG, g.2.2.2 ≤ tm t 0) (S : SX → Prop) (hSt : ∀ u u', FR E 0 u u' → RepS u' [] → S u → S u') (u : SX) (hz : x_st2 u = z) (hS0 : RepS u []) (hSu : S u) (hP : PI E B0 cc t LG 0 u)
    (K : ∀ u', x_st2 u' = z → RepS u' [] → S u' → PI E B0 cc t LG 9 u' → J (nI (e_id E + 1)) (x_time u') (x_sent u') (x_stageCount u') (x_tasks u') (x_sourceEnded u') (x_stageKind u') (x_stageA u') (x_stageB u') (x_stageParts u') (x_partStage u') (x_partUser u') (x_partX u') (x_partY u') (x_phase u') (x_beganAfter u') (x_due u') (x_count u') (x_held u') (x_heldY u') (x_hasHeld u') (x_hasHeldY u') (x_queueSize u') (x_queueIsOfX u') (x_queueValue u') (x_queueDue u') (x_subStatus u') (x_subCode u') (x_subEnd u') (x_subDemand u') (x_subRequests u') (x_subDelivered u') (x_subWaiting u') (x_waitValue u') (x_history u') (x_taskWhat u') (x_taskPart u') (x_taskValue u')) : wX_runTimers_9 post J (nI (e_id E)) 10 0 (x_time u) (x_sent u) (x_stageCount u) (x_tasks u) (x_sourceEnded u) (x_stageKind u) (x_stageA u) (x_stageB u) (x_stageParts u) (x_partStage u) (x_partUser u) (x_partX u) (x_partY u) (x_phase u) (x_beganAfter u) (x_due u) (x_count u) (x_held u) (x_heldY u) (x_hasHeld u) (x_hasHeldY u) (x_queueSize u) (x_queueIsOfX u) (x_queueValue u) (x_queueDue u) (x_subStatus u) (x_subCode u) (x_subEnd u) (x_subDemand u) (x_subRequests u) (x_subDelivered u) (x_subWaiting u) (x_waitValue u) (x_history u) (x_taskWhat u) (x_taskPart u) (x_taskValue u) := by
  have h9 := hT.2.2.1
  refine xo_inner hT.1 (fun m u => x_st2 u = z ∧ RepS u [] ∧ S u ∧ PI E B0 cc t LG m u) ?_ ?_ 9 0 u rfl ⟨hz, hS0, hSu, hP⟩ (fun u' h => K u' h.1 h.2.1 h.2.2.1 h.2.2.2)
  · intro m u hm hP hs hp pst hK
    obtain ⟨hz, hS0, hSu, hP⟩ := hP
    rcases hP with hP | hP
    · obtain ⟨M, H, F, bg, hM, hA, hst⟩ := hP
      have hA0 := hA
      obtain ⟨hR, hB, hmv, hpz⟩ := hA
      by_cases hmn : m < e_n E
      · refine tt_fire (E := eU E t M (fun q => if q < m then t else t - 1) (fun _ => LG) LG) hT hR hmn ht rfl ht2 hM (fun r hr => if_pos hr) (fun r h1 h2 => ?_) hp (fun r hr g hg => hg) hLG (fun u' H' F' bg' k1 k2 k3 k4 => hK u' ?_)
        · show (if r < m then t else t - 1) + 1 = t
          rw [if_neg (by omega)]; omega
        · refine ⟨k2.1.trans hz, k1.2.2.1, hSt u u' k2 k1.2.2.1 hSu, ad_new hT hmn ht hA0 k1 (fun k h1 h2 => ?_) k3 k4⟩
          have := (k2.2.2.1 (9 * e_id E + k) (Or.inr (by show 9 * e_id E + e_n E ≤ 9 * e_id E + k; omega))).1
          rw [this]
          exact hpz k h1 h2
      · have := hpz m (show e_n E ≤ m by omega) hm
        have hp' : x_phase u (9 * e_id E + m) = 1 := hp
        rw [show x_phase u (9 * e_id E + m) = 0 from this] at hp'
        exact absurd hp' (by decide)
    · exfalso
      obtain ⟨t', M, c, lg, LG', H, F, bg, h1, h2, h3, h4⟩ := hP
      rw [ad_st h3] at hs
      exact h4 hs
  · intro m u hm hP hno
    obtain ⟨hz, hS0, hSu, hP⟩ := hP
    refine ⟨hz, hS0, hSu, ?_⟩
    rcases hP with hP | hP
    · obtain ⟨M, H, F, bg, hM, hA, hst⟩ := hP
      have hA0 := hA
      obtain ⟨hR, hB, hmv, hpz⟩ := hA
      have hRU : RepU u (e_id E) (FS E H) := hR.1.2.2.2.2.1.2
      have hst' : x_subStatus u (e_id E) = 0 := by rw [ad_st hRU]; exact hst
      by_cases hmn : m < e_n E
      · have hskip := tt_skip (E := eU E t M (fun q => if q < m then t else t - 1) (fun _ => LG) LG) hT hR hmn ht hM (fun r hr => if_pos hr) (fun r h1 h2 => by
          show (if r < m then t else t - 1) + 1 = t
          rw [if_neg (by omega)]; omega) (fun y => hno ⟨hst', y⟩)
        exact ad_new hT hmn ht hA0 hskip hpz (fun r _ h => ⟨h, rfl⟩) (fun r _ h => Or.inl h)
      · refine Or.inl ⟨M, H, F, bg, by unfold tm at hM ⊢; omega, ⟨ad_rst_c (fun q hq => ?_) hR, hB, hmv, hpz⟩, hst⟩
        rw [if_pos (by omega), if_pos (by omega)]
    · exact Or.inr hP
end
