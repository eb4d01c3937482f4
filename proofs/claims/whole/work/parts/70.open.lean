/-! ===== open ===== -/
theorem xp_run {post2 : Int32 → Prop} {u : SX} {id m : Nat} {s : Int32} (hid : id < 3) (hm : m < 9) (hst : x_subStatus u id = 0 → x_phase u (9 * id + m) = 1 → ∃ σ, σ < 12 ∧ x_partStage u (9 * id + m) = nI σ)
    (h1 : (x_subStatus u id = 0 ∧ x_phase u (9 * id + m) = 1 ∧ x_stageKind u (x_partStage u (9 * id + m)).toNatClampNeg = 0 ∧ x_stageA u (x_partStage u (9 * id + m)).toNatClampNeg = s) → post2 1)
    (h2 : ¬ (x_subStatus u id = 0 ∧ x_phase u (9 * id + m) = 1 ∧ x_stageKind u (x_partStage u (9 * id + m)).toNatClampNeg = 0 ∧ x_stageA u (x_partStage u (9 * id + m)).toNatClampNeg = s) → post2 0) : wpX_isRunningSource post2 u (nI id) (nI (9 * id + m)) s := by
  have hcl : (nI id).toNatClampNeg = id := nI_clamp (by omega)
  have hin : vp_in (nI id) 3 := vp_in_nI hid (by decide)
  have hc3 : (nI (9 * id + m)).toNatClampNeg = 9 * id + m := nI_clamp (by omega)
  have hi27 : vp_in (nI (9 * id + m)) 27 := vp_in_nI (by omega) (by decide)
  obtain ⟨f_time, f_sent, f_stageCount, f_tasks, a_sourceEnded, a_stageKind, a_stageA, a_stageB, a_stageParts, a_partStage, a_partUser, a_partX, a_partY, a_phase, a_beganAfter, a_due, a_count, a_held, a_heldY, a_hasHeld, a_hasHeldY, a_queueSize, a_queueIsOfX, a_queueValue, a_queueDue, a_subStatus, a_subCode, a_subEnd, a_subDemand, a_subRequests, a_subDelivered, a_subWaiting, a_waitValue, a_history, a_taskWhat, a_taskPart, a_taskValue⟩ := u
  have hst2 : a_subStatus id = 0 → a_phase (9 * id + m) = 1 → ∃ σ, σ < 12 ∧ a_partStage (9 * id + m) = nI σ := hst
  refine ⟨hin, ?_⟩
  by_cases g1 : a_subStatus id = 0
  · refine br_t (by rw [hcl]; exact g1) ⟨hi27, ?_⟩
    by_cases g2 : a_phase (9 * id + m) = 1
    · obtain ⟨σ, hσ, eσ⟩ := hst2 g1 g2
      have hiσ : vp_in (nI σ) 12 := vp_in_nI hσ (by decide)
      refine br_t (by rw [hc3]; exact g2) ⟨hi27, nm_r (e' := nI σ) (by rw [hc3]; exact eσ) ⟨hiσ, ?_⟩⟩
      by_cases g3 : a_stageKind (nI σ).toNatClampNeg = 0
      · refine br_t g3 ⟨hiσ, ?_⟩
        by_cases g4 : a_stageA (nI σ).toNatClampNeg = s
        · refine br_t g4 ?_
          refine h1 ⟨g1, g2, ?_, ?_⟩
          · rw [show x_partStage (f_time, f_sent, f_stageCount, f_tasks, a_sourceEnded, a_stageKind, a_stageA, a_stageB, a_stageParts, a_partStage, a_partUser, a_partX, a_partY, a_phase, a_beganAfter, a_due, a_count, a_held, a_heldY, a_hasHeld, a_hasHeldY, a_queueSize, a_queueIsOfX, a_queueValue, a_queueDue, a_subStatus, a_subCode, a_subEnd, a_subDemand, a_subRequests, a_subDelivered, a_subWaiting, a_waitValue, a_history, a_taskWhat, a_taskPart, a_taskValue) (9 * id + m) = nI σ from eσ]; exact g3
          · rw [show x_partStage (f_time, f_sent, f_stageCount, f_tasks, a_sourceEnded, a_stageKind, a_stageA, a_stageB, a_stageParts, a_partStage, a_partUser, a_partX, a_partY, a_phase, a_beganAfter, a_due, a_count, a_held, a_heldY, a_hasHeld, a_hasHeldY, a_queueSize, a_queueIsOfX, a_queueValue, a_queueDue, a_subStatus, a_subCode, a_subEnd, a_subDemand, a_subRequests, a_subDelivered, a_subWaiting, a_waitValue, a_history, a_taskWhat, a_taskPart, a_taskValue) (9 * id + m) = nI σ from eσ]; exact g4
        · refine br_f g4 (h2 (fun z => g4 ?_))
          have := z.2.2.2
          rw [show x_partStage (f_time, f_sent, f_stageCount, f_tasks, a_sourceEnded, a_stageKind, a_stageA, a_stageB, a_stageParts, a_partStage, a_partUser, a_partX, a_partY, a_phase, a_beganAfter, a_due, a_count, a_held, a_heldY, a_hasHeld, a_hasHeldY, a_queueSize, a_queueIsOfX, a_queueValue, a_queueDue, a_subStatus, a_subCode, a_subEnd, a_subDemand, a_subRequests, a_subDelivered, a_subWaiting, a_waitValue, a_history, a_taskWhat, a_taskPart, a_taskValue) (9 * id + m) = nI σ from eσ] at this
          exact this
      · refine br_f g3 (h2 (fun z => g3 ?_))
        have := z.2.2.1
        rw [show x_partStage (f_time, f_sent, f_stageCount, f_tasks, a_sourceEnded, a_stageKind, a_stageA, a_stageB, a_stageParts, a_partStage, a_partUser, a_partX, a_partY, a_phase, a_beganAfter, a_due, a_count, a_held, a_heldY, a_hasHeld, a_hasHeldY, a_queueSize, a_queueIsOfX, a_queueValue, a_queueDue, a_subStatus, a_subCode, a_subEnd, a_subDemand, a_subRequests, a_subDelivered, a_subWaiting, a_waitValue, a_history, a_taskWhat, a_taskPart, a_taskValue) (9 * id + m) = nI σ from eσ] at this
        exact this
    · exact br_f (by rw [hc3]; exact g2) (h2 (fun z => g2 z.2.1))
  · exact br_f (by rw [hcl]; exact g1) (h2 (fun z => g1 z.1))
section
variable {f_time : Int32} {f_sent : Int32} {f_stageCount : Int32} {f_tasks : Int32} {a_sourceEnded : (Nat → Int32)} {a_stageKind : (Nat → Int32)} {a_stageA : (Nat → Int32)} {a_stageB : (Nat → Int32)} {a_stageParts : (Nat → Int32)} {a_partStage : (Nat → Int32)} {a_partUser : (Nat → Int32)} {a_partX : (Nat → Int32)} {a_partY : (Nat → Int32)} {a_phase : (Nat → Int32)} {a_beganAfter : (Nat → Int32)} {a_due : (Nat → Int32)} {a_count : (Nat → Int32)} {a_held : (Nat → Int32)} {a_heldY : (Nat → Int32)} {a_hasHeld : (Nat → Int32)} {a_hasHeldY : (Nat → Int32)} {a_queueSize : (Nat → Int32)} {a_queueIsOfX : (Nat → Int32)} {a_queueValue : (Nat → Int32)} {a_queueDue : (Nat → Int32)} {a_subStatus : (Nat → Int32)} {a_subCode : (Nat → Int32)} {a_subEnd : (Nat → Int32)} {a_subDemand : (Nat → Int64)} {a_subRequests : (Nat → Int32)} {a_subDelivered : (Nat → Int32)} {a_subWaiting : (Nat → Int32)} {a_waitValue : (Nat → Int32)} {a_history : (Nat → Int64)} {a_taskWhat : (Nat → Int32)} {a_taskPart : (Nat → Int32)} {a_taskValue : (Nat → Int32)}
theorem xp_used2 {post : Int32 → Prop} {id n : Nat} {us : Nat → Nat} {H : Nat → List Ev} {bg : Nat → Bool} (hid : id < 3) (hn : n ≤ 9) (hpu : ∀ p, p < n → a_partUser (9 * id + p) = if p + 1 = n then -1 else nI (9 * id + us p)) (hph : ∀ p, p < n → a_phase (9 * id + p) = phs (bg p) (fin (H p))) (hus : ∀ q, q + 1 < n → q < us q ∧ us q < n) (hbg : ∀ q, q + 1 < n → bg q = true → bg (us q) = true) :
    ∀ (f i q : Nat), i ≤ q → q < n → n ≤ q + f → bg q = true → post (bI (upS us n H f q)) → wX_isStillUsed_9 post f_time f_sent f_stageCount f_tasks a_sourceEnded a_stageKind a_stageA a_stageB a_stageParts a_partStage a_partUser a_partX a_partY a_phase a_beganAfter a_due a_count a_held a_heldY a_hasHeld a_hasHeldY a_queueSize a_queueIsOfX a_queueValue a_queueDue a_subStatus a_subCode a_subEnd a_subDemand a_subRequests a_subDelivered a_subWaiting a_waitValue a_history a_taskWhat a_taskPart a_taskValue (f + 1) (if q + 1 = n then -1 else nI (9 * id + us q)) (nI i) := by
  intro f
  induction f with
  | zero => intro i q _ h1 h2; omega
  | succ f ih =>
    intro i q hiq hq hf hb hp
    refine br_f (nI_ge (b := 9) (by omega) (by decide)) ?_
    by_cases e : q + 1 = n
    · rw [if_pos e]
      rw [show upS us n H (f + 1) q = true from if_pos e] at hp
      exact br_t rfl hp
    · have hu := hus q (by omega)
      have hbu := hbg q (by omega) hb
      have hpu' := hpu (us q) hu.2
      have hph' := hph (us q) hu.2
      have hc : (nI (9 * id + us q)).toNatClampNeg = 9 * id + us q := nI_clamp (by omega)
      have hi27 : vp_in (nI (9 * id + us q)) 27 := vp_in_nI (by omega) (by decide)
      rw [if_neg e]
      have hne : ¬ nI (9 * id + us q) = -1 := by
        intro y
        have h1 := nI_pos (n := 9 * id + us q) (by omega)
        rw [y] at h1
        exact h1 (by decide)
      refine br_f hne ⟨hi27, ?_⟩
      have hup : upS us n H (f + 1) q = if fin (H (us q)) = true then false else upS us n H f (us q) := if_neg e
      rw [hup] at hp
      by_cases hfi : fin (H (us q)) = true
      · rw [if_pos hfi] at hp
        exact br_t (by rw [hc, hph', hbu, hfi]; rfl) hp
      · rw [if_neg hfi] at hp
        have hfi' : fin (H (us q)) = false := by simpa using hfi
        exact br_f (by rw [hc, hph', hbu, hfi']; decide) ⟨hi27, nm_r (by rw [hc]; exact hpu') (nm_r (nI_1 i) (ih (i + 1) (us q) (by omega) hu.2 (by omega) hbu hp))⟩
theorem xp_used {post : Int32 → Prop} {id n q : Nat} {us : Nat → Nat} {H : Nat → List Ev} {bg : Nat → Bool} (hid : id < 3) (hn : n ≤ 9) (hpu : ∀ p, p < n → a_partUser (9 * id + p) = if p + 1 = n then -1 else nI (9 * id + us p)) (hph : ∀ p, p < n → a_phase (9 * id + p) = phs (bg p) (fin (H p))) (hus : ∀ q, q + 1 < n → q < us q ∧ us q < n) (hbg : ∀ q, q + 1 < n → bg q = true → bg (us q) = true) (hq : q < n) (hb : bg q = true) (hp : post (bI (upS us n H 9 q))) : wpX_isStillUsed post (f_time, f_sent, f_stageCount, f_tasks, a_sourceEnded, a_stageKind, a_stageA, a_stageB, a_stageParts, a_partStage, a_partUser, a_partX, a_partY, a_phase, a_beganAfter, a_due, a_count, a_held, a_heldY, a_hasHeld, a_hasHeldY, a_queueSize, a_queueIsOfX, a_queueValue, a_queueDue, a_subStatus, a_subCode, a_subEnd, a_subDemand, a_subRequests, a_subDelivered, a_subWaiting, a_waitValue, a_history, a_taskWhat, a_taskPart, a_taskValue) (nI (9 * id + q)) := by
  have hc : (nI (9 * id + q)).toNatClampNeg = 9 * id + q := nI_clamp (by omega)
  exact ⟨vp_in_nI (by omega) (by decide), nm_r (by rw [hc]; exact hpu q hq) ⟨10, xp_used2 hid hn hpu hph hus hbg 9 0 q (Nat.zero_le _) hq (by omega) hb hp⟩⟩
theorem xp_inner {post : Int32 → Prop} {J : Int32 → Int32 → Prop} {s : Int32} {id c0 : Nat} (C : Nat → Bool)
    (h : ∀ m, m < 9 → ∀ P Q : Prop, (C m = false → P) → (C m = true → Q) → wpX_isRunningSource (fun r => (r = 0 → P) ∧ (¬ r = 0 → wpX_isStillUsed (fun r2 => (r2 = 0 → P) ∧ (¬ r2 = 0 → Q)) (f_time, f_sent, f_stageCount, f_tasks, a_sourceEnded, a_stageKind, a_stageA, a_stageB, a_stageParts, a_partStage, a_partUser, a_partX, a_partY, a_phase, a_beganAfter, a_due, a_count, a_held, a_heldY, a_hasHeld, a_hasHeldY, a_queueSize, a_queueIsOfX, a_queueValue, a_queueDue, a_subStatus, a_subCode, a_subEnd, a_subDemand, a_subRequests, a_subDelivered, a_subWaiting, a_waitValue, a_history, a_taskWhat, a_taskPart, a_taskValue) (nI (9 * id + m)))) (f_time, f_sent, f_stageCount, f_tasks, a_sourceEnded, a_stageKind, a_stageA, a_stageB, a_stageParts, a_partStage, a_partUser, a_partX, a_partY, a_phase, a_beganAfter, a_due, a_count, a_held, a_heldY, a_hasHeld, a_hasHeldY, a_queueSize, a_queueIsOfX, a_queueValue, a_queueDue, a_subStatus, a_subCode, a_subEnd, a_subDemand, a_subRequests, a_subDelivered, a_subWaiting, a_waitValue, a_history, a_taskWhat, a_taskPart, a_taskValue) (nI id) (nI (9 * id + m)) s)
    (K : J (nI (c0 + cnp C 9)) (nI (id + 1))) : ∀ (e m : Nat), m + e = 9 → wX_open_12 post J s (nI id) f_time f_sent f_stageCount f_tasks a_sourceEnded a_stageKind a_stageA a_stageB a_stageParts a_partStage a_partUser a_partX a_partY a_phase a_beganAfter a_due a_count a_held a_heldY a_hasHeld a_hasHeldY a_queueSize a_queueIsOfX a_queueValue a_queueDue a_subStatus a_subCode a_subEnd a_subDemand a_subRequests a_subDelivered a_subWaiting a_waitValue a_history a_taskWhat a_taskPart a_taskValue (e + 1) (nI (c0 + cnp C m)) (nI m) := by
  intro e
  induction e with
  | zero =>
    intro m hm
    have : m = 9 := by omega
    subst this
    exact br_t (by decide) (nm_r (nI_1 id) K)
  | succ e ih =>
    intro m hm
    have e3 : nI id * 9 + nI m = nI (9 * id + m) := by rw [show (9 : Int32) = nI 9 from rfl, pk_mul, nI_add, Nat.mul_comm]
    have hn := ih (m + 1) (by omega)
    refine br_f (nI_ge (b := 9) (by omega) (by decide)) (nm_r e3 ?_)
    refine h m (by omega) _ _ (fun hc => ?_) (fun hc => ?_)
    · have e1 : cnp C (m + 1) = cnp C m := by
        show cnp C m + (if C m = true then 1 else 0) = cnp C m
        rw [hc]; rfl
      rw [e1] at hn
      exact nm_r (nI_1 m) hn
    · have e1 : c0 + cnp C (m + 1) = c0 + cnp C m + 1 := by
        show c0 + (cnp C m + (if C m = true then 1 else 0)) = c0 + cnp C m + 1
        rw [if_pos hc]; rfl
      rw [e1] at hn
      exact nm_r (nI_1 _) (nm_r (nI_1 m) hn)
end
def cT (C : Nat → Nat → Bool) : Nat → Nat
  | 0 => 0
  | m + 1 => cT C m + cnp (C m) 9
theorem xp_open {post : Int32 → Prop} {u : SX} {s : Int32} (C : Nat → Nat → Bool)
    (h : ∀ id, id < 3 → ∀ m, m < 9 → ∀ P Q : Prop, (C id m = false → P) → (C id m = true → Q) → wpX_isRunningSource (fun r => (r = 0 → P) ∧ (¬ r = 0 → wpX_isStillUsed (fun r2 => (r2 = 0 → P) ∧ (¬ r2 = 0 → Q)) u (nI (9 * id + m)))) u (nI id) (nI (9 * id + m)) s)
    (H : post (nI (cT C 3))) : wpX_open post u s := by
  obtain ⟨f_time, f_sent, f_stageCount, f_tasks, a_sourceEnded, a_stageKind, a_stageA, a_stageB, a_stageParts, a_partStage, a_partUser, a_partX, a_partY, a_phase, a_beganAfter, a_due, a_count, a_held, a_heldY, a_hasHeld, a_hasHeldY, a_queueSize, a_queueIsOfX, a_queueValue, a_queueDue, a_subStatus, a_subCode, a_subEnd, a_subDemand, a_subRequests, a_subDelivered, a_subWaiting, a_waitValue, a_history, a_taskWhat, a_taskPart, a_taskValue⟩ := u
  have key : ∀ (e id : Nat), id + e = 3 → wX_open_4 post s f_time f_sent f_stageCount f_tasks a_sourceEnded a_stageKind a_stageA a_stageB a_stageParts a_partStage a_partUser a_partX a_partY a_phase a_beganAfter a_due a_count a_held a_heldY a_hasHeld a_hasHeldY a_queueSize a_queueIsOfX a_queueValue a_queueDue a_subStatus a_subCode a_subEnd a_subDemand a_subRequests a_subDelivered a_subWaiting a_waitValue a_history a_taskWhat a_taskPart a_taskValue (e + 1) (nI (cT C id)) (nI id) := by
    intro e
    induction e with
    | zero =>
      intro id hid
      have : id = 3 := by omega
      subst this
      exact br_t (by decide) H
    | succ e ih =>
      intro id hid
      exact br_f (nI_ge (b := 3) (by omega) (by decide)) ⟨10, xp_inner (C id) (h id (by omega)) (ih (id + 1) (by omega)) 9 0 (by omega)⟩
  exact ⟨4, key 3 0 rfl⟩
/-- part p of a running subscription is an open source s -/
def Cop (K sg : Nat → Nat) (oa : Nat → Int32) (us : Nat → Nat) (n : Nat) (H : Nat → List Ev) (b : Nat → Bool) (s : Int32) (p : Nat) : Bool := decide (p < n) && (K (sg p) == 0) && decide (oa (sg p) = s) && b p && !fin (H p) && upS us n H 9 p
theorem op_x {j cc t M : Nat} {LG : List Lg} {d : Dt} {s0 : Sb} {u : SX} {F : Nat → Nat} {bg : Nat → Bool} (hA : AR (eU (d_E j d s0) t M (fun _ => t) (fun _ => LG) LG) (d_B0 d) cc u (d_H d) F bg) : (∀ p, p < d_z d → x_partStage u (9 * j + p) = nI (d_sg d p) ∧ d_sg d p < 12 ∧ x_stageKind u (d_sg d p) = nI (d_K d (d_sg d p)) ∧ x_stageA u (d_sg d p) = d_oa d (d_sg d p) ∧ d_K d (d_sg d p) ≤ 20 ∧ x_partUser u (9 * j + p) = (if p + 1 = d_z d then -1 else nI (9 * j + d_us d p)) ∧ x_phase u (9 * j + p) = phs (bg p) (fin (d_H d p))) ∧ (∀ k, d_z d ≤ k → k < 9 → x_phase u (9 * j + k) = 0) ∧ (∀ q, q + 1 < d_z d → bg q = true → bg (d_us d q) = true) := by
  obtain ⟨⟨⟨i1, i2, i3, i4, i5, i6, i7, i8, i9, i10⟩, hC, hS, hD, hC2, hroot, hCW⟩, hB, hmv, hpz⟩ := hA
  refine ⟨fun p hp => ?_, hpz, i8⟩
  obtain ⟨k1, k2, k3⟩ := i1.2 p hp
  obtain ⟨a1, a2, a3, a4, a5, a6, a7, a8, a9⟩ := k1
  exact ⟨a4, a5, a6, a7, a9.1, k3, i2 p hp⟩
theorem op_cond {j cc t : Nat} {LG : List Lg} {d : Dt} {v : SY} {ns M : Nat} {s0 : Sb} {u : SX} {F : Nat → Nat} {bg : Nat → Bool} {s : Int32} (hj : j < 3) (hD : DYt ns d v) (hst : x_subStatus u j = 0) (hA : AR (eU (d_E j d s0) t M (fun _ => t) (fun _ => LG) LG) (d_B0 d) cc u (d_H d) F bg) (m : Nat) (hm : m < 9) (P Q : Prop) (hP : Cop (d_K d) (d_sg d) (d_oa d) (d_us d) (d_z d) (d_H d) bg s m = false → P) (hQ : Cop (d_K d) (d_sg d) (d_oa d) (d_us d) (d_z d) (d_H d) bg s m = true → Q) :
    wpX_isRunningSource (fun r => (r = 0 → P) ∧ (¬ r = 0 → wpX_isStillUsed (fun r2 => (r2 = 0 → P) ∧ (¬ r2 = 0 → Q)) u (nI (9 * j + m)))) u (nI j) (nI (9 * j + m)) s := by
  obtain ⟨o1, o2, o3⟩ := op_x hA
  have hTR : TR (d_E j d s0) := rl_TR hj hD
  have h9 := hD.2.2.2.1
  have hus : ∀ q, q + 1 < d_z d → q < d_us d q ∧ d_us d q < d_z d := fun q hq => by
    have := hTR.2.2.2.2.2.2.2.2.1 q hq
    exact ⟨this.1, this.2.1⟩
  have hph1 : ∀ q, q < d_z d → (phs (bg q) (fin (d_H d q)) = 1 ↔ bg q = true ∧ fin (d_H d q) = false) := by
    intro q _
    cases bg q <;> cases fin (d_H d q) <;> decide
  refine xp_run hj hm (fun _ g2 => ?_) (fun hall => ?_) (fun hall => ?_)
  · by_cases hmz : m < d_z d
    · exact ⟨d_sg d m, (o1 m hmz).2.1, (o1 m hmz).1⟩
    · rw [o2 m (by omega) hm] at g2
      exact absurd g2 (by decide)
  · obtain ⟨g1, g2, g3, g4⟩ := hall
    have hmz : m < d_z d := by
      rcases Nat.lt_or_ge m (d_z d) with y | y
      · exact y
      · rw [o2 m y hm] at g2
        exact absurd g2 (by decide)
    obtain ⟨q1, q2, q3, q4, q5, q6, q7⟩ := o1 m hmz
    have hcσ : (nI (d_sg d m)).toNatClampNeg = d_sg d m := nI_clamp (by omega)
    rw [q1, hcσ, q3] at g3
    rw [q1, hcσ, q4] at g4
    rw [q7, hph1 m hmz] at g2
    have hk0 : d_K d (d_sg d m) = 0 := (nI_eq (b := 0) (by omega) (by decide)).mp g3
    have hco : Cop (d_K d) (d_sg d) (d_oa d) (d_us d) (d_z d) (d_H d) bg s m = upS (d_us d) (d_z d) (d_H d) 9 m := by
      unfold Cop
      rw [hk0, g4, g2.1, g2.2]
      simp [hmz]
    rw [hco] at hP hQ
    refine br_f (by decide) ?_
    have hpu : ∀ p, p < d_z d → x_partUser u (9 * j + p) = if p + 1 = d_z d then -1 else nI (9 * j + d_us d p) := fun p hp => (o1 p hp).2.2.2.2.2.1
    have hph : ∀ p, p < d_z d → x_phase u (9 * j + p) = phs (bg p) (fin (d_H d p)) := fun p hp => (o1 p hp).2.2.2.2.2.2
    obtain ⟨f_time, f_sent, f_stageCount, f_tasks, a_sourceEnded, a_stageKind, a_stageA, a_stageB, a_stageParts, a_partStage, a_partUser, a_partX, a_partY, a_phase, a_beganAfter, a_due, a_count, a_held, a_heldY, a_hasHeld, a_hasHeldY, a_queueSize, a_queueIsOfX, a_queueValue, a_queueDue, a_subStatus, a_subCode, a_subEnd, a_subDemand, a_subRequests, a_subDelivered, a_subWaiting, a_waitValue, a_history, a_taskWhat, a_taskPart, a_taskValue⟩ := u
    refine xp_used hj h9 hpu hph hus o3 hmz g2.1 ?_
    cases hup : upS (d_us d) (d_z d) (d_H d) 9 m with
    | true => exact br_f (by decide) (hQ hup)
    | false => exact br_t rfl (hP hup)
  · refine br_t rfl (hP ?_)
    unfold Cop
    by_cases hmz : m < d_z d
    · obtain ⟨q1, q2, q3, q4, q5, q6, q7⟩ := o1 m hmz
      have hcσ : (nI (d_sg d m)).toNatClampNeg = d_sg d m := nI_clamp (by omega)
      rw [q1, hcσ, q3, q4, q7] at hall
      by_cases e1 : d_K d (d_sg d m) = 0
      · by_cases e2 : d_oa d (d_sg d m) = s
        · by_cases e3 : bg m = true ∧ fin (d_H d m) = false
          · exact absurd ⟨hst, (hph1 m hmz).mpr e3, by rw [e1]; rfl, e2⟩ hall
          · cases hb : bg m with
            | false => simp
            | true =>
              cases hf : fin (d_H d m) with
              | true => simp
              | false => exact absurd ⟨hb, hf⟩ e3
        · simp [e2]
      · simp [e1]
    · simp [hmz]
