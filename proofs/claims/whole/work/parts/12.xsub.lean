/-! ===== the subscription's own cells ===== -/
abbrev Sb : Type := Int32 × Int32 × Nat × Int64 × Int32 × List Int32 × (Nat → Int64)
def hv (t : Nat) (v : Int32) : Int64 := ((nI t).toInt64 <<< ((32 : Int32).toInt64 &&& 63)) + (v.toInt64 &&& 4294967295)
def dj (x : Int32) : Nat := x.toBitVec.toNat % 16
def dec1 (dm : Int64) : Int64 := if dm = 9223372036854775807 then dm else dm - 1
def sdl (t : Nat) (v : Int32) : Sb → Sb
  | (st, co, en, dm, dv, ws, hh) => (st, co, en, dec1 dm, dv + 1, ws, vp_updL hh (dj dv) (hv t v))
def sef : Sb → Sb
  | (st, co, en, dm, dv, ws, hh) => if en ≠ 0 ∧ ws = [] then (if en = 3 then 2 else 1, co, en, dm, dv, [], hh) else (st, co, en, dm, dv, ws, hh)
/-- the root says (w, v) at time t -/
def sst (t w : Nat) (v : Int32) : Sb → Sb
  | (st, co, en, dm, dv, ws, hh) =>
    if st ≠ 0 then (st, co, en, dm, dv, ws, hh)
    else if w = 1 then (if dm ≤ 0 then (if ws.length < 8 then (st, co, en, dm, dv, ws ++ [v], hh) else (2, 7, en, dm, dv, [], hh)) else sdl t v (st, co, en, dm, dv, ws, hh))
    else sef (st, v, w, dm, dv, ws, hh)
def RepB (ss sc se : Nat → Int32) (sd : Nat → Int64) (sv sw wv : Nat → Int32) (hs : Nat → Int64) (id : Nat) : Sb → Prop
  | (st, co, en, dm, dv, ws, hh) => ss id = st ∧ sc id = co ∧ se id = nI en ∧ en < 4 ∧ sd id = dm ∧ sv id = dv ∧ sw id = nI ws.length ∧ ws.length ≤ 8 ∧ (∀ j e, ws[j]? = some e → wv (8 * id + j) = e) ∧ ∀ j, j < 16 → hs (16 * id + j) = hh j
def RepU (u : SX) (id : Nat) (s : Sb) : Prop := RepB (x_subStatus u) (x_subCode u) (x_subEnd u) (x_subDemand u) (x_subDelivered u) (x_subWaiting u) (x_waitValue u) (x_history u) id s
def x_pa (u : SX) := (x_due u, x_count u, x_held u, x_heldY u, x_hasHeld u, x_hasHeldY u, x_queueSize u, x_queueIsOfX u, x_queueValue u, x_queueDue u)
def x_tk (u : SX) := (x_tasks u, x_taskWhat u, x_taskPart u, x_taskValue u)
def EffS (u u' : SX) (id : Nat) (s' : Sb) : Prop :=
  x_st2 u' = x_st2 u ∧ x_ph u' = x_ph u ∧ x_pa u' = x_pa u ∧ x_tk u' = x_tk u ∧ RepU u' id s' ∧ ∀ j, j ≠ id → ∀ s, RepU u j s → RepU u' j s
theorem xs_frame {ss sc se ss' sc' se' sv sw wv sv' sw' wv' : Nat → Int32} {sd hs sd' hs' : Nat → Int64} {j : Nat} {s : Sb} (h : RepB ss sc se sd sv sw wv hs j s) (h1 : ss' j = ss j) (h2 : sc' j = sc j) (h3 : se' j = se j) (h4 : sd' j = sd j) (h5 : sv' j = sv j) (h6 : sw' j = sw j) (h7 : ∀ r, r < 8 → wv' (8 * j + r) = wv (8 * j + r)) (h8 : ∀ r, r < 16 → hs' (16 * j + r) = hs (16 * j + r)) : RepB ss' sc' se' sd' sv' sw' wv' hs' j s := by
  obtain ⟨st, co, en, dm, dv, ws, hh⟩ := s
  obtain ⟨a1, a2, a3, a4, a5, a6, a7, a8, a9, a10⟩ := h
  refine ⟨h1.trans a1, h2.trans a2, h3.trans a3, a4, h4.trans a5, h5.trans a6, h6.trans a7, a8, fun r e he => ?_, fun r hr => (h8 r hr).trans (a10 r hr)⟩
  have hr : r < ws.length := by
    rcases Nat.lt_or_ge r ws.length with z | z
    · exact z
    · rw [List.getElem?_eq_none z] at he; exact absurd he (by simp)
  exact (h7 r (by omega)).trans (a9 r e he)
section
variable {f_time : Int32} {f_sent : Int32} {f_stageCount : Int32} {f_tasks : Int32} {a_sourceEnded : (Nat → Int32)} {a_stageKind : (Nat → Int32)} {a_stageA : (Nat → Int32)} {a_stageB : (Nat → Int32)} {a_stageParts : (Nat → Int32)} {a_partStage : (Nat → Int32)} {a_partUser : (Nat → Int32)} {a_partX : (Nat → Int32)} {a_partY : (Nat → Int32)} {a_phase : (Nat → Int32)} {a_beganAfter : (Nat → Int32)} {a_due : (Nat → Int32)} {a_count : (Nat → Int32)} {a_held : (Nat → Int32)} {a_heldY : (Nat → Int32)} {a_hasHeld : (Nat → Int32)} {a_hasHeldY : (Nat → Int32)} {a_queueSize : (Nat → Int32)} {a_queueIsOfX : (Nat → Int32)} {a_queueValue : (Nat → Int32)} {a_queueDue : (Nat → Int32)} {a_subStatus : (Nat → Int32)} {a_subCode : (Nat → Int32)} {a_subEnd : (Nat → Int32)} {a_subDemand : (Nat → Int64)} {a_subRequests : (Nat → Int32)} {a_subDelivered : (Nat → Int32)} {a_subWaiting : (Nat → Int32)} {a_waitValue : (Nat → Int32)} {a_history : (Nat → Int64)} {a_taskWhat : (Nat → Int32)} {a_taskPart : (Nat → Int32)} {a_taskValue : (Nat → Int32)}
theorem xe_pa : x_pa (f_time, f_sent, f_stageCount, f_tasks, a_sourceEnded, a_stageKind, a_stageA, a_stageB, a_stageParts, a_partStage, a_partUser, a_partX, a_partY, a_phase, a_beganAfter, a_due, a_count, a_held, a_heldY, a_hasHeld, a_hasHeldY, a_queueSize, a_queueIsOfX, a_queueValue, a_queueDue, a_subStatus, a_subCode, a_subEnd, a_subDemand, a_subRequests, a_subDelivered, a_subWaiting, a_waitValue, a_history, a_taskWhat, a_taskPart, a_taskValue) = (a_due, a_count, a_held, a_heldY, a_hasHeld, a_hasHeldY, a_queueSize, a_queueIsOfX, a_queueValue, a_queueDue) := rfl
theorem xe_tk : x_tk (f_time, f_sent, f_stageCount, f_tasks, a_sourceEnded, a_stageKind, a_stageA, a_stageB, a_stageParts, a_partStage, a_partUser, a_partX, a_partY, a_phase, a_beganAfter, a_due, a_count, a_held, a_heldY, a_hasHeld, a_hasHeldY, a_queueSize, a_queueIsOfX, a_queueValue, a_queueDue, a_subStatus, a_subCode, a_subEnd, a_subDemand, a_subRequests, a_subDelivered, a_subWaiting, a_waitValue, a_history, a_taskWhat, a_taskPart, a_taskValue) = (f_tasks, a_taskWhat, a_taskPart, a_taskValue) := rfl
theorem xe_ru {id : Nat} {s : Sb} (h : RepU (f_time, f_sent, f_stageCount, f_tasks, a_sourceEnded, a_stageKind, a_stageA, a_stageB, a_stageParts, a_partStage, a_partUser, a_partX, a_partY, a_phase, a_beganAfter, a_due, a_count, a_held, a_heldY, a_hasHeld, a_hasHeldY, a_queueSize, a_queueIsOfX, a_queueValue, a_queueDue, a_subStatus, a_subCode, a_subEnd, a_subDemand, a_subRequests, a_subDelivered, a_subWaiting, a_waitValue, a_history, a_taskWhat, a_taskPart, a_taskValue) id s) : RepB a_subStatus a_subCode a_subEnd a_subDemand a_subDelivered a_subWaiting a_waitValue a_history id s := h
theorem xe_ru' {id : Nat} {s : Sb} (h : RepB a_subStatus a_subCode a_subEnd a_subDemand a_subDelivered a_subWaiting a_waitValue a_history id s) : RepU (f_time, f_sent, f_stageCount, f_tasks, a_sourceEnded, a_stageKind, a_stageA, a_stageB, a_stageParts, a_partStage, a_partUser, a_partX, a_partY, a_phase, a_beganAfter, a_due, a_count, a_held, a_heldY, a_hasHeld, a_hasHeldY, a_queueSize, a_queueIsOfX, a_queueValue, a_queueDue, a_subStatus, a_subCode, a_subEnd, a_subDemand, a_subRequests, a_subDelivered, a_subWaiting, a_waitValue, a_history, a_taskWhat, a_taskPart, a_taskValue) id s := h
theorem xe_effS {id : Nat} {s' : Sb} {ss sc se sv sw wv : Nat → Int32} {sd hs : Nat → Int64} (h1 : RepB ss sc se sd sv sw wv hs id s') (h2 : ∀ j, j ≠ id → ∀ s, RepB a_subStatus a_subCode a_subEnd a_subDemand a_subDelivered a_subWaiting a_waitValue a_history j s → RepB ss sc se sd sv sw wv hs j s) :
    EffS (f_time, f_sent, f_stageCount, f_tasks, a_sourceEnded, a_stageKind, a_stageA, a_stageB, a_stageParts, a_partStage, a_partUser, a_partX, a_partY, a_phase, a_beganAfter, a_due, a_count, a_held, a_heldY, a_hasHeld, a_hasHeldY, a_queueSize, a_queueIsOfX, a_queueValue, a_queueDue, a_subStatus, a_subCode, a_subEnd, a_subDemand, a_subRequests, a_subDelivered, a_subWaiting, a_waitValue, a_history, a_taskWhat, a_taskPart, a_taskValue) (f_time, f_sent, f_stageCount, f_tasks, a_sourceEnded, a_stageKind, a_stageA, a_stageB, a_stageParts, a_partStage, a_partUser, a_partX, a_partY, a_phase, a_beganAfter, a_due, a_count, a_held, a_heldY, a_hasHeld, a_hasHeldY, a_queueSize, a_queueIsOfX, a_queueValue, a_queueDue, ss, sc, se, sd, a_subRequests, sv, sw, wv, hs, a_taskWhat, a_taskPart, a_taskValue) id s' := ⟨xe_st2.trans xe_st2.symm, xe_ph.trans xe_ph.symm, xe_pa.trans xe_pa.symm, xe_tk.trans xe_tk.symm, h1, h2⟩
theorem xs_endSub {post : SX → Prop} {id en : Nat} {st co s1 c1 : Int32} {dm : Int64} {dv : Int32} {ws : List Int32} {hh : Nat → Int64} (hid : id < 3) (hS : RepB a_subStatus a_subCode a_subEnd a_subDemand a_subDelivered a_subWaiting a_waitValue a_history id (st, co, en, dm, dv, ws, hh)) (H : ∀ u', EffS (f_time, f_sent, f_stageCount, f_tasks, a_sourceEnded, a_stageKind, a_stageA, a_stageB, a_stageParts, a_partStage, a_partUser, a_partX, a_partY, a_phase, a_beganAfter, a_due, a_count, a_held, a_heldY, a_hasHeld, a_hasHeldY, a_queueSize, a_queueIsOfX, a_queueValue, a_queueDue, a_subStatus, a_subCode, a_subEnd, a_subDemand, a_subRequests, a_subDelivered, a_subWaiting, a_waitValue, a_history, a_taskWhat, a_taskPart, a_taskValue) u' id (s1, c1, en, dm, dv, [], hh) → post u') : wpX_endSubscription post (f_time, f_sent, f_stageCount, f_tasks, a_sourceEnded, a_stageKind, a_stageA, a_stageB, a_stageParts, a_partStage, a_partUser, a_partX, a_partY, a_phase, a_beganAfter, a_due, a_count, a_held, a_heldY, a_hasHeld, a_hasHeldY, a_queueSize, a_queueIsOfX, a_queueValue, a_queueDue, a_subStatus, a_subCode, a_subEnd, a_subDemand, a_subRequests, a_subDelivered, a_subWaiting, a_waitValue, a_history, a_taskWhat, a_taskPart, a_taskValue) (nI id) s1 c1 := by
  obtain ⟨a1, a2, a3, a4, a5, a6, a7, a8, a9, a10⟩ := hS
  have hcl : (nI id).toNatClampNeg = id := nI_clamp (by omega)
  have hin : vp_in (nI id) 3 := vp_in_nI hid (by decide)
  refine ⟨hin, nm_r (e' := upd a_subStatus id s1) (by rw [hcl]) ⟨hin, nm_r (e' := upd a_subCode id c1) (by rw [hcl]) ⟨hin, nm_r (e' := upd a_subWaiting id (nI 0)) (by rw [hcl]; rfl) ?_⟩⟩⟩
  exact H _ (xe_effS ⟨pk_us, pk_us, a3, a4, a5, a6, pk_us, Nat.zero_le _, fun j e he => absurd he (by simp), a10⟩ (fun j hj s hs => xs_frame hs (pk_un hj) (pk_un hj) rfl rfl rfl (pk_un hj) (fun _ _ => rfl) (fun _ _ => rfl)))
theorem xs_endIf {post : SX → Prop} {id : Nat} {s : Sb} (hid : id < 3) (hS : RepB a_subStatus a_subCode a_subEnd a_subDemand a_subDelivered a_subWaiting a_waitValue a_history id s) (H : ∀ u', EffS (f_time, f_sent, f_stageCount, f_tasks, a_sourceEnded, a_stageKind, a_stageA, a_stageB, a_stageParts, a_partStage, a_partUser, a_partX, a_partY, a_phase, a_beganAfter, a_due, a_count, a_held, a_heldY, a_hasHeld, a_hasHeldY, a_queueSize, a_queueIsOfX, a_queueValue, a_queueDue, a_subStatus, a_subCode, a_subEnd, a_subDemand, a_subRequests, a_subDelivered, a_subWaiting, a_waitValue, a_history, a_taskWhat, a_taskPart, a_taskValue) u' id (sef s) → post u') : wpX_endIfNothingWaits post (f_time, f_sent, f_stageCount, f_tasks, a_sourceEnded, a_stageKind, a_stageA, a_stageB, a_stageParts, a_partStage, a_partUser, a_partX, a_partY, a_phase, a_beganAfter, a_due, a_count, a_held, a_heldY, a_hasHeld, a_hasHeldY, a_queueSize, a_queueIsOfX, a_queueValue, a_queueDue, a_subStatus, a_subCode, a_subEnd, a_subDemand, a_subRequests, a_subDelivered, a_subWaiting, a_waitValue, a_history, a_taskWhat, a_taskPart, a_taskValue) (nI id) := by
  obtain ⟨st, co, en, dm, dv, ws, hh⟩ := s
  have hS0 := hS
  obtain ⟨a1, a2, a3, a4, a5, a6, a7, a8, a9, a10⟩ := hS
  have hcl : (nI id).toNatClampNeg = id := nI_clamp (by omega)
  have hin : vp_in (nI id) 3 := vp_in_nI hid (by decide)
  have a3' : a_subEnd (nI id).toNatClampNeg = nI en := by rw [hcl]; exact a3
  have a7' : a_subWaiting (nI id).toNatClampNeg = nI ws.length := by rw [hcl]; exact a7
  have a2' : a_subCode (nI id).toNatClampNeg = co := by rw [hcl]; exact a2
  refine ⟨hin, ?_⟩
  by_cases he : en = 0
  · rw [show sef (st, co, en, dm, dv, ws, hh) = (st, co, en, dm, dv, ws, hh) from by simp [sef, he]] at H
    exact br_t (by rw [a3', he]; rfl) (H _ (xe_effS hS0 (fun j hj s hs => hs)))
  · refine br_f (by rw [a3']; exact nI_ne0 (by omega) (by omega)) ⟨hin, ?_⟩
    by_cases hw : ws = []
    · refine br_t (by rw [a7', hw]; rfl) ⟨hin, ?_⟩
      by_cases h3 : en = 3
      · rw [show sef (st, co, en, dm, dv, ws, hh) = (2, co, en, dm, dv, [], hh) from by simp [sef, h3, hw]] at H
        refine br_t (by rw [a3', h3]; rfl) ⟨hin, ?_⟩
        rw [a2']
        exact xs_endSub hid hS0 H
      · rw [show sef (st, co, en, dm, dv, ws, hh) = (1, co, en, dm, dv, [], hh) from by simp [sef, h3, hw, he]] at H
        refine br_f (by rw [a3', show (3 : Int32) = nI 3 from rfl, nI_eq (by omega) (by decide)]; exact h3) ⟨hin, ?_⟩
        rw [a2']
        exact xs_endSub hid hS0 H
    · rw [show sef (st, co, en, dm, dv, ws, hh) = (st, co, en, dm, dv, ws, hh) from by simp [sef, hw]] at H
      exact br_f (by rw [a7']; exact nI_ne0 (by cases ws; exact absurd rfl hw; simp) (by omega)) (H _ (xe_effS hS0 (fun j hj s hs => hs)))
theorem xs_deliver {post : SX → Prop} {id t : Nat} {v : Int32} {s : Sb} (hid : id < 3) (ht : f_time = nI t) (hS : RepB a_subStatus a_subCode a_subEnd a_subDemand a_subDelivered a_subWaiting a_waitValue a_history id s) (H : ∀ u', EffS (f_time, f_sent, f_stageCount, f_tasks, a_sourceEnded, a_stageKind, a_stageA, a_stageB, a_stageParts, a_partStage, a_partUser, a_partX, a_partY, a_phase, a_beganAfter, a_due, a_count, a_held, a_heldY, a_hasHeld, a_hasHeldY, a_queueSize, a_queueIsOfX, a_queueValue, a_queueDue, a_subStatus, a_subCode, a_subEnd, a_subDemand, a_subRequests, a_subDelivered, a_subWaiting, a_waitValue, a_history, a_taskWhat, a_taskPart, a_taskValue) u' id (sdl t v s) → post u') : wpX_deliver post (f_time, f_sent, f_stageCount, f_tasks, a_sourceEnded, a_stageKind, a_stageA, a_stageB, a_stageParts, a_partStage, a_partUser, a_partX, a_partY, a_phase, a_beganAfter, a_due, a_count, a_held, a_heldY, a_hasHeld, a_hasHeldY, a_queueSize, a_queueIsOfX, a_queueValue, a_queueDue, a_subStatus, a_subCode, a_subEnd, a_subDemand, a_subRequests, a_subDelivered, a_subWaiting, a_waitValue, a_history, a_taskWhat, a_taskPart, a_taskValue) (nI id) v := by
  obtain ⟨st, co, en, dm, dv, ws, hh⟩ := s
  have hS0 := hS
  obtain ⟨a1, a2, a3, a4, a5, a6, a7, a8, a9, a10⟩ := hS
  have hcl : (nI id).toNatClampNeg = id := nI_clamp (by omega)
  have hin : vp_in (nI id) 3 := vp_in_nI hid (by decide)
  have a5' : a_subDemand (nI id).toNatClampNeg = dm := by rw [hcl]; exact a5
  have a6' : a_subDelivered (nI id).toNatClampNeg = dv := by rw [hcl]; exact a6
  have hjj : dj dv < 16 := Nat.mod_lt _ (by decide)
  have e3 : nI id * 16 + (a_subDelivered (nI id).toNatClampNeg &&& 15) = nI (16 * id + dj dv) := by
    rw [a6', pk_and dv (m := 15) 4 (by decide), show (16 : Int32) = nI 16 from rfl, pk_mul, nI_add, Nat.mul_comm]; rfl
  have i3 : vp_in (nI (16 * id + dj dv)) 48 := vp_in_nI (by omega) (by decide)
  have c3 : (nI (16 * id + dj dv)).toNatClampNeg = 16 * id + dj dv := nI_clamp (by omega)
  have hhs : ∀ j, j < 16 → vp_updL a_history (16 * id + dj dv) (hv t v) (16 * id + j) = vp_updL hh (dj dv) (hv t v) j := by
    intro j hj
    by_cases e : j = dj dv
    · rw [e]; exact pk_uLs.trans pk_uLs.symm
    · rw [pk_uLn (by omega), pk_uLn e]; exact a10 j hj
  have hfr : ∀ j, j ≠ id → ∀ r, r < 16 → vp_updL a_history (16 * id + dj dv) (hv t v) (16 * j + r) = a_history (16 * j + r) := fun j hj r hr => pk_uLn (by omega)
  refine ⟨hin, nm_r e3 ⟨i3, nm_r (e' := vp_updL a_history (16 * id + dj dv) (hv t v)) (by rw [c3, ht]; rfl) ⟨hin, hin, nm_r (e' := upd a_subDelivered id (dv + 1)) (by rw [a6', hcl]) ⟨hin, ?_⟩⟩⟩⟩
  by_cases hd : dm = 9223372036854775807
  · rw [show sdl t v (st, co, en, dm, dv, ws, hh) = (st, co, en, dm, dv + 1, ws, vp_updL hh (dj dv) (hv t v)) from by simp [sdl, dec1, hd]] at H
    refine br_t (by rw [a5']; exact hd) ?_
    exact H _ (xe_effS ⟨a1, a2, a3, a4, a5, pk_us, a7, a8, a9, hhs⟩ (fun j hj s hs => xs_frame hs rfl rfl rfl rfl (pk_un hj) rfl (fun _ _ => rfl) (hfr j hj)))
  · rw [show sdl t v (st, co, en, dm, dv, ws, hh) = (st, co, en, dm - 1, dv + 1, ws, vp_updL hh (dj dv) (hv t v)) from by simp [sdl, dec1, hd]] at H
    refine br_f (by rw [a5']; exact hd) ⟨hin, hin, nm_r (e' := vp_updL a_subDemand id (dm - 1)) (by rw [a5', hcl]) ?_⟩
    exact H _ (xe_effS ⟨a1, a2, a3, a4, pk_uLs, pk_us, a7, a8, a9, hhs⟩ (fun j hj s hs => xs_frame hs rfl rfl rfl (pk_uLn hj) (pk_un hj) rfl (fun _ _ => rfl) (hfr j hj)))
theorem xs_reach {post : SX → Prop} {id t w : Nat} {v : Int32} {s : Sb} (hid : id < 3) (ht : f_time = nI t) (hw : 1 ≤ w) (hw3 : w ≤ 3) (hS : RepB a_subStatus a_subCode a_subEnd a_subDemand a_subDelivered a_subWaiting a_waitValue a_history id s) (H : ∀ u', EffS (f_time, f_sent, f_stageCount, f_tasks, a_sourceEnded, a_stageKind, a_stageA, a_stageB, a_stageParts, a_partStage, a_partUser, a_partX, a_partY, a_phase, a_beganAfter, a_due, a_count, a_held, a_heldY, a_hasHeld, a_hasHeldY, a_queueSize, a_queueIsOfX, a_queueValue, a_queueDue, a_subStatus, a_subCode, a_subEnd, a_subDemand, a_subRequests, a_subDelivered, a_subWaiting, a_waitValue, a_history, a_taskWhat, a_taskPart, a_taskValue) u' id (sst t w v s) → post u') : wpX_reachSubscription post (f_time, f_sent, f_stageCount, f_tasks, a_sourceEnded, a_stageKind, a_stageA, a_stageB, a_stageParts, a_partStage, a_partUser, a_partX, a_partY, a_phase, a_beganAfter, a_due, a_count, a_held, a_heldY, a_hasHeld, a_hasHeldY, a_queueSize, a_queueIsOfX, a_queueValue, a_queueDue, a_subStatus, a_subCode, a_subEnd, a_subDemand, a_subRequests, a_subDelivered, a_subWaiting, a_waitValue, a_history, a_taskWhat, a_taskPart, a_taskValue) (nI id) (nI w) v := by
  obtain ⟨st, co, en, dm, dv, ws, hh⟩ := s
  have hS0 := hS
  obtain ⟨a1, a2, a3, a4, a5, a6, a7, a8, a9, a10⟩ := hS
  have hcl : (nI id).toNatClampNeg = id := nI_clamp (by omega)
  have hin : vp_in (nI id) 3 := vp_in_nI hid (by decide)
  have a1' : a_subStatus (nI id).toNatClampNeg = st := by rw [hcl]; exact a1
  have a5' : a_subDemand (nI id).toNatClampNeg = dm := by rw [hcl]; exact a5
  have a7' : a_subWaiting (nI id).toNatClampNeg = nI ws.length := by rw [hcl]; exact a7
  refine ⟨hin, ?_⟩
  by_cases hst : st = 0
  · refine br_t (by rw [a1']; exact hst) ?_
    by_cases h1 : w = 1
    · subst h1
      refine br_t rfl ⟨hin, ?_⟩
      by_cases hd : dm ≤ 0
      · refine br_t (by rw [a5']; exact hd) ⟨hin, ?_⟩
        by_cases h8 : ws.length < 8
        · rw [show sst t 1 v (st, co, en, dm, dv, ws, hh) = (st, co, en, dm, dv, ws ++ [v], hh) from by simp [sst, hst, hd, h8]] at H
          have e3 : nI id * 8 + a_subWaiting (nI id).toNatClampNeg = nI (8 * id + ws.length) := by
            rw [a7', show (8 : Int32) = nI 8 from rfl, pk_mul, nI_add, Nat.mul_comm]
          have c3 : (nI id * 8 + a_subWaiting (nI id).toNatClampNeg).toNatClampNeg = 8 * id + ws.length := by rw [e3]; exact nI_clamp (by omega)
          refine br_t (by rw [a7']; exact nI_lt (b := 8) h8 (by decide)) ⟨hin, by rw [e3]; exact vp_in_nI (by omega) (by decide), nm_r (e' := upd a_waitValue (8 * id + ws.length) v) (by rw [c3]) ⟨hin, hin, nm_r (e' := upd a_subWaiting id (nI (ws.length + 1))) (by rw [a7', nI_1, hcl]) ?_⟩⟩
          refine H _ (xe_effS ⟨a1, a2, a3, a4, a5, a6, ?_, by simp; omega, fun j e he => ?_, a10⟩ (fun j hj s hs => xs_frame hs rfl rfl rfl rfl rfl (pk_un hj) (fun r hr => pk_un (by omega)) (fun _ _ => rfl)))
          · rw [List.length_append]; exact pk_us
          · have hj : j < (ws ++ [v]).length := by
              rcases Nat.lt_or_ge j (ws ++ [v]).length with z | z
              · exact z
              · rw [List.getElem?_eq_none z] at he; exact absurd he (by simp)
            rw [List.length_append, List.length_singleton] at hj
            by_cases hjw : j = ws.length
            · subst hjw
              rw [List.getElem?_concat_length] at he
              cases he
              exact pk_us
            · rw [List.getElem?_append_left (by omega)] at he
              rw [pk_un (by omega)]
              exact a9 j e he
        · rw [show sst t 1 v (st, co, en, dm, dv, ws, hh) = (2, 7, en, dm, dv, [], hh) from by simp [sst, hst, hd, h8]] at H
          exact br_f (by rw [a7']; exact nI_nlt (b := 8) (by omega) (by omega)) (xs_endSub hid hS0 H)
      · rw [show sst t 1 v (st, co, en, dm, dv, ws, hh) = sdl t v (st, co, en, dm, dv, ws, hh) from by simp [sst, hst, hd]] at H
        exact br_f (by rw [a5']; exact hd) (xs_deliver hid ht hS0 H)
    · rw [show sst t w v (st, co, en, dm, dv, ws, hh) = sef (st, v, w, dm, dv, ws, hh) from by simp [sst, hst, h1]] at H
      refine br_f (by rw [show (1 : Int32) = nI 1 from rfl, nI_eq (by omega) (by decide)]; exact h1) ⟨hin, nm_r (e' := upd a_subEnd id (nI w)) (by rw [hcl]) ⟨hin, nm_r (e' := upd a_subCode id v) (by rw [hcl]) ?_⟩⟩
      refine xs_endIf (s := (st, v, w, dm, dv, ws, hh)) hid ⟨a1, pk_us, pk_us, by omega, a5, a6, a7, a8, a9, a10⟩ (fun u' he => H u' ?_)
      obtain ⟨z1, z2, z3, z4, z5, z6⟩ := he
      exact ⟨z1.trans (xe_st2.trans xe_st2.symm), z2.trans (xe_ph.trans xe_ph.symm), z3.trans (xe_pa.trans xe_pa.symm), z4.trans (xe_tk.trans xe_tk.symm), z5, fun j hj s hs => z6 j hj s (xe_ru' (xs_frame (xe_ru hs) rfl (pk_un hj) (pk_un hj) rfl rfl rfl (fun _ _ => rfl) (fun _ _ => rfl)))⟩
  · rw [show sst t w v (st, co, en, dm, dv, ws, hh) = (st, co, en, dm, dv, ws, hh) from by simp [sst, hst]] at H
    exact br_f (by rw [a1']; exact hst) (H _ (xe_effS hS0 (fun j hj s hs => hs)))
end
