/-! ===== the component's handlers against the machine ===== -/
def HA (ti : Int32) (ps sk sa sb : Nat → Int32) (i t s k : Nat) (a b : Int32) : Prop :=
  i < 27 ∧ ti = nI t ∧ t ≤ 200 ∧ ps i = nI s ∧ s < 12 ∧ sk s = nI k ∧ sa s = a ∧ sb s = b ∧ opk k a b
theorem xh_us {f : Nat → Int32} {x : Int32} {i : Nat} (h : i < 27) : upd f (nI i).toNatClampNeg x i = x := by
  rw [nI_clamp (by omega)]; exact pk_us
theorem xh_un {f : Nat → Int32} {x : Int32} {i j : Nat} (h : i < 27) (hj : j ≠ i) : upd f (nI i).toNatClampNeg x j = f j := by
  rw [nI_clamp (by omega)]; exact pk_un hj
theorem xh_q0 {q : List (Int32 × Nat)} {e : Int32 × Nat} {j : Nat} (h : q[j]? = some e) : j < q.length := by
  rcases Nat.lt_or_ge j q.length with z | z
  · exact z
  · rw [List.getElem?_eq_none z] at h; exact absurd h (by simp)
section
variable {f_time : Int32} {f_sent : Int32} {f_stageCount : Int32} {f_tasks : Int32} {a_sourceEnded : (Nat → Int32)} {a_stageKind : (Nat → Int32)} {a_stageA : (Nat → Int32)} {a_stageB : (Nat → Int32)} {a_stageParts : (Nat → Int32)} {a_partStage : (Nat → Int32)} {a_partUser : (Nat → Int32)} {a_partX : (Nat → Int32)} {a_partY : (Nat → Int32)} {a_phase : (Nat → Int32)} {a_beganAfter : (Nat → Int32)} {a_due : (Nat → Int32)} {a_count : (Nat → Int32)} {a_held : (Nat → Int32)} {a_heldY : (Nat → Int32)} {a_hasHeld : (Nat → Int32)} {a_hasHeldY : (Nat → Int32)} {a_queueSize : (Nat → Int32)} {a_queueIsOfX : (Nat → Int32)} {a_queueValue : (Nat → Int32)} {a_queueDue : (Nat → Int32)} {a_subStatus : (Nat → Int32)} {a_subCode : (Nat → Int32)} {a_subEnd : (Nat → Int32)} {a_subDemand : (Nat → Int64)} {a_subRequests : (Nat → Int32)} {a_subDelivered : (Nat → Int32)} {a_subWaiting : (Nat → Int32)} {a_waitValue : (Nat → Int32)} {a_history : (Nat → Int64)} {a_taskWhat : (Nat → Int32)} {a_taskPart : (Nat → Int32)} {a_taskValue : (Nat → Int32)}
theorem xh_queueItem {post : SX → Prop} {i d c : Nat} {v h hy dv : Int32} {f fy qx ox oy : Bool} {q : List (Int32 × Nat)} {R : List Tk} {dd : Nat} (hi : i < 27) (hS : RepA a_due a_count a_held a_heldY a_hasHeld a_hasHeldY a_queueSize a_queueIsOfX a_queueValue a_queueDue i (d, c, h, hy, f, fy, qx, q, ox, oy)) (ht : f_tasks = nI R.length) (hR : rps a_taskWhat a_taskPart a_taskValue R) (hl : R.length + 1 ≤ 128) (hdv : dv = dI dd)
    (hq : dd = 0 → a_queueIsOfX i = bI qx)
    (H1 : q.length < 8 → ∀ u', Eff (f_time, f_sent, f_stageCount, f_tasks, a_sourceEnded, a_stageKind, a_stageA, a_stageB, a_stageParts, a_partStage, a_partUser, a_partX, a_partY, a_phase, a_beganAfter, a_due, a_count, a_held, a_heldY, a_hasHeld, a_hasHeldY, a_queueSize, a_queueIsOfX, a_queueValue, a_queueDue, a_subStatus, a_subCode, a_subEnd, a_subDemand, a_subRequests, a_subDelivered, a_subWaiting, a_waitValue, a_history, a_taskWhat, a_taskPart, a_taskValue) u' i (d, c, h, hy, f, fy, qx, q ++ [(v, dd)], ox, oy) [] R → post u')
    (H2 : ¬ q.length < 8 → ∀ u', Eff (f_time, f_sent, f_stageCount, f_tasks, a_sourceEnded, a_stageKind, a_stageA, a_stageB, a_stageParts, a_partStage, a_partUser, a_partX, a_partY, a_phase, a_beganAfter, a_due, a_count, a_held, a_heldY, a_hasHeld, a_hasHeldY, a_queueSize, a_queueIsOfX, a_queueValue, a_queueDue, a_subStatus, a_subCode, a_subEnd, a_subDemand, a_subRequests, a_subDelivered, a_subWaiting, a_waitValue, a_history, a_taskWhat, a_taskPart, a_taskValue) u' i (d, c, h, hy, f, fy, qx, q, ox, oy) [(3, 8)] R → post u') : wpX_queueItem post (f_time, f_sent, f_stageCount, f_tasks, a_sourceEnded, a_stageKind, a_stageA, a_stageB, a_stageParts, a_partStage, a_partUser, a_partX, a_partY, a_phase, a_beganAfter, a_due, a_count, a_held, a_heldY, a_hasHeld, a_hasHeldY, a_queueSize, a_queueIsOfX, a_queueValue, a_queueDue, a_subStatus, a_subCode, a_subEnd, a_subDemand, a_subRequests, a_subDelivered, a_subWaiting, a_waitValue, a_history, a_taskWhat, a_taskPart, a_taskValue) (nI i) v dv := by
  obtain ⟨a1, a2, a3, a4, a5, a6, a7, a8, a9, a10⟩ := hS
  have hc : (nI i).toNatClampNeg = i := nI_clamp (by omega)
  have hin : vp_in (nI i) 27 := vp_in_nI hi (by decide)
  have a8' : a_queueSize (nI i).toNatClampNeg = nI q.length := by rw [hc]; exact a8
  refine ⟨hin, ?_⟩
  by_cases h8 : q.length < 8
  · have e4 : nI i * 8 + a_queueSize (nI i).toNatClampNeg = nI (8 * i + q.length) := by
      rw [a8', show (8 : Int32) = nI 8 from rfl, pk_mul, nI_add, Nat.mul_comm]
    have ein : vp_in (nI (8 * i + q.length)) 216 := vp_in_nI (by omega) (by decide)
    have ecl : (nI (8 * i + q.length)).toNatClampNeg = 8 * i + q.length := nI_clamp (by omega)
    refine br_t (by rw [a8']; exact nI_lt (b := 8) h8 (by decide)) ⟨hin, nm_r e4 ⟨ein, nm_r (by rw [ecl]) ⟨ein, nm_r (by rw [ecl]) ⟨hin, hin, nm_r (e' := upd a_queueSize i (nI (q.length + 1))) (by rw [a8', nI_1, hc]) ?_⟩⟩⟩⟩
    refine H1 h8 _ (xe_eff ?_ ?_ ht hR)
    · refine ⟨a1, a2, a3, a4, a5, a6, fun hz => ?_, ?_, by simp; omega, ?_⟩
      · obtain ⟨e, he, he0⟩ := hz
        rcases List.mem_append.mp he with hm | hm
        · exact a7 ⟨e, hm, he0⟩
        · rw [List.mem_singleton] at hm; subst hm; exact hq he0
      · show upd a_queueSize i _ i = nI (q ++ [(v, dd)]).length
        rw [pk_us]; simp
      · intro j e he
        have hj := xh_q0 he
        rw [List.length_append, List.length_singleton] at hj
        show upd a_queueValue _ _ _ = _ ∧ upd a_queueDue _ _ _ = _
        by_cases hjq : j = q.length
        · subst hjq
          rw [List.getElem?_concat_length] at he
          cases he
          exact ⟨pk_us, pk_us.trans hdv⟩
        · rw [List.getElem?_append_left (by omega)] at he
          rw [pk_un (by omega), pk_un (by omega)]
          exact a10 j e he
    · intro j hj S hS
      exact xd_frame hS rfl rfl rfl rfl rfl rfl (pk_un hj) rfl (fun r hr => ⟨pk_un (by omega), pk_un (by omega)⟩)
  · refine br_f (by rw [a8']; exact nI_nlt (b := 8) (by omega) (by omega)) ?_
    exact xw_push ht (by omega) (H2 h8 _ (xe_eff ⟨a1, a2, a3, a4, a5, a6, a7, a8, a9, a10⟩ (fun j hj S hS => hS) rfl (xd_rps_push hR)))
end
