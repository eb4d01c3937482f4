/-! ===== joins: hearJoinedItem ===== -/
section
variable {f_time : Int32} {f_sent : Int32} {f_stageCount : Int32} {f_tasks : Int32} {a_sourceEnded : (Nat → Int32)} {a_stageKind : (Nat → Int32)} {a_stageA : (Nat → Int32)} {a_stageB : (Nat → Int32)} {a_stageParts : (Nat → Int32)} {a_partStage : (Nat → Int32)} {a_partUser : (Nat → Int32)} {a_partX : (Nat → Int32)} {a_partY : (Nat → Int32)} {a_phase : (Nat → Int32)} {a_beganAfter : (Nat → Int32)} {a_due : (Nat → Int32)} {a_count : (Nat → Int32)} {a_held : (Nat → Int32)} {a_heldY : (Nat → Int32)} {a_hasHeld : (Nat → Int32)} {a_hasHeldY : (Nat → Int32)} {a_queueSize : (Nat → Int32)} {a_queueIsOfX : (Nat → Int32)} {a_queueValue : (Nat → Int32)} {a_queueDue : (Nat → Int32)} {a_subStatus : (Nat → Int32)} {a_subCode : (Nat → Int32)} {a_subEnd : (Nat → Int32)} {a_subDemand : (Nat → Int64)} {a_subRequests : (Nat → Int32)} {a_subDelivered : (Nat → Int32)} {a_subWaiting : (Nat → Int32)} {a_waitValue : (Nat → Int32)} {a_history : (Nat → Int64)} {a_taskWhat : (Nat → Int32)} {a_taskPart : (Nat → Int32)} {a_taskValue : (Nat → Int32)}
theorem xh_drop8 {post : SX → Prop} {i g L : Nat} (h27 : i < 27) (hL : L ≤ 8) (hq : a_queueSize i = nI L) : ∀ (e m : Nat) (qv qd : Nat → Int32), g + m + e = L →
    (∀ qv' qd' : Nat → Int32, (∀ r, r < 8 * i + m → qv' r = qv r ∧ qd' r = qd r) → (∀ j, m ≤ j → j + g < L → qv' (8 * i + j) = qv (8 * i + j + g) ∧ qd' (8 * i + j) = qd (8 * i + j + g)) → (∀ r, 8 * i + 8 ≤ r → qv' r = qv r ∧ qd' r = qd r) → post (f_time, f_sent, f_stageCount, f_tasks, a_sourceEnded, a_stageKind, a_stageA, a_stageB, a_stageParts, a_partStage, a_partUser, a_partX, a_partY, a_phase, a_beganAfter, a_due, a_count, a_held, a_heldY, a_hasHeld, a_hasHeldY, upd a_queueSize i (nI (L - g)), a_queueIsOfX, qv', qd', a_subStatus, a_subCode, a_subEnd, a_subDemand, a_subRequests, a_subDelivered, a_subWaiting, a_waitValue, a_history, a_taskWhat, a_taskPart, a_taskValue)) →
    wX_dropFromQueue_8 post (nI i) (nI g) (nI (8 * i)) f_time f_sent f_stageCount f_tasks (e + 1) (nI (g + m)) a_sourceEnded a_stageKind a_stageA a_stageB a_stageParts a_partStage a_partUser a_partX a_partY a_phase a_beganAfter a_due a_count a_held a_heldY a_hasHeld a_hasHeldY a_queueSize a_queueIsOfX (qv) (qd) a_subStatus a_subCode a_subEnd a_subDemand a_subRequests a_subDelivered a_subWaiting a_waitValue a_history a_taskWhat a_taskPart a_taskValue := by
  have hc : (nI i).toNatClampNeg = i := nI_clamp (by omega)
  have hin : vp_in (nI i) 27 := vp_in_nI h27 (by decide)
  have hq' : a_queueSize (nI i).toNatClampNeg = nI L := by rw [hc]; exact hq
  intro e
  induction e with
  | zero =>
    intro m qv qd hm H
    refine ⟨hin, br_t (by rw [hq']; exact nI_le (by omega) (by omega)) ⟨hin, hin, nm_r (e' := upd a_queueSize i (nI (L - g))) (by rw [hq', pk_sub (by omega), hc]) ?_⟩⟩
    exact H qv qd (fun r hr => ⟨rfl, rfl⟩) (fun j h1 h2 => absurd h2 (by omega)) (fun r hr => ⟨rfl, rfl⟩)
  | succ e ih =>
    intro m qv qd hm H
    have e1 : nI (8 * i) + nI (g + m) = nI (8 * i + (g + m)) := nI_add _ _
    have e2 : nI (8 * i) + nI (g + m) - nI g = nI (8 * i + m) := by rw [e1, pk_sub (by omega)]; congr 1; omega
    have c1 : (nI (8 * i) + nI (g + m)).toNatClampNeg = 8 * i + (g + m) := by rw [e1]; exact nI_clamp (by omega)
    have c2 : (nI (8 * i) + nI (g + m) - nI g).toNatClampNeg = 8 * i + m := by rw [e2]; exact nI_clamp (by omega)
    have i1 : vp_in (nI (8 * i) + nI (g + m)) 216 := by rw [e1]; exact vp_in_nI (by omega) (by decide)
    have i2 : vp_in (nI (8 * i) + nI (g + m) - nI g) 216 := by rw [e2]; exact vp_in_nI (by omega) (by decide)
    refine ⟨hin, br_f (by rw [hq']; exact nI_ge (by omega) (by omega)) ⟨i1, i2, nm_r (e' := upd qv (8 * i + m) (qv (8 * i + (g + m)))) (by rw [c1, c2]) ⟨i1, i2, nm_r (e' := upd qd (8 * i + m) (qd (8 * i + (g + m)))) (by rw [c1, c2]) (nm_r (e' := nI (g + (m + 1))) (by rw [nI_1]; rfl) ?_)⟩⟩⟩
    refine ih (m + 1) _ _ (by omega) (fun qv' qd' k1 k2 k3 => H qv' qd' ?_ ?_ ?_)
    · intro r hr
      have := k1 r (by omega)
      rw [pk_un (by omega), pk_un (by omega)] at this
      exact this
    · intro j h1 h2
      by_cases hj : j = m
      · subst hj
        have := k1 (8 * i + j) (by omega)
        rw [pk_us, pk_us] at this
        rw [this.1, this.2, show 8 * i + (g + j) = 8 * i + j + g from by omega]
        exact ⟨rfl, rfl⟩
      · have := k2 j (by omega) h2
        rw [pk_un (by omega), pk_un (by omega)] at this
        exact this
    · intro r hr
      have := k3 r hr
      rw [pk_un (by omega), pk_un (by omega)] at this
      exact this
theorem xh_drop {post : SX → Prop} {i g L : Nat} (h27 : i < 27) (hL : L ≤ 8) (hg : g ≤ L) (hq : a_queueSize i = nI L)
    (H : ∀ qv' qd' : Nat → Int32, (∀ j, j + g < L → qv' (8 * i + j) = a_queueValue (8 * i + j + g) ∧ qd' (8 * i + j) = a_queueDue (8 * i + j + g)) → (∀ j, j ≠ i → ∀ r, r < 8 → qv' (8 * j + r) = a_queueValue (8 * j + r) ∧ qd' (8 * j + r) = a_queueDue (8 * j + r)) → post (f_time, f_sent, f_stageCount, f_tasks, a_sourceEnded, a_stageKind, a_stageA, a_stageB, a_stageParts, a_partStage, a_partUser, a_partX, a_partY, a_phase, a_beganAfter, a_due, a_count, a_held, a_heldY, a_hasHeld, a_hasHeldY, upd a_queueSize i (nI (L - g)), a_queueIsOfX, qv', qd', a_subStatus, a_subCode, a_subEnd, a_subDemand, a_subRequests, a_subDelivered, a_subWaiting, a_waitValue, a_history, a_taskWhat, a_taskPart, a_taskValue)) :
    wpX_dropFromQueue post (f_time, f_sent, f_stageCount, f_tasks, a_sourceEnded, a_stageKind, a_stageA, a_stageB, a_stageParts, a_partStage, a_partUser, a_partX, a_partY, a_phase, a_beganAfter, a_due, a_count, a_held, a_heldY, a_hasHeld, a_hasHeldY, a_queueSize, a_queueIsOfX, a_queueValue, a_queueDue, a_subStatus, a_subCode, a_subEnd, a_subDemand, a_subRequests, a_subDelivered, a_subWaiting, a_waitValue, a_history, a_taskWhat, a_taskPart, a_taskValue) (nI i) (nI g) := by
  refine nm_r (e' := nI (8 * i)) (by rw [show (8 : Int32) = nI 8 from rfl, pk_mul, Nat.mul_comm]) ⟨L - g + 1, ?_⟩
  refine xh_drop8 h27 hL hq (L - g) 0 a_queueValue a_queueDue (by omega) (fun qv' qd' k1 k2 k3 => H qv' qd' (fun j hj => k2 j (Nat.zero_le _) hj) (fun j hj r hr => ?_))
  rcases Nat.lt_or_ge j i with z | z
  · exact k1 _ (by omega)
  · exact k3 _ (by omega)
end
