section
variable {f_time : Int32} {f_sent : Int32} {f_stageCount : Int32} {f_tasks : Int32} {a_sourceEnded : (Nat → Int32)} {a_stageKind : (Nat → Int32)} {a_stageA : (Nat → Int32)} {a_stageB : (Nat → Int32)} {a_stageParts : (Nat → Int32)} {a_partStage : (Nat → Int32)} {a_partUser : (Nat → Int32)} {a_partX : (Nat → Int32)} {a_partY : (Nat → Int32)} {a_phase : (Nat → Int32)} {a_beganAfter : (Nat → Int32)} {a_due : (Nat → Int32)} {a_count : (Nat → Int32)} {a_held : (Nat → Int32)} {a_heldY : (Nat → Int32)} {a_hasHeld : (Nat → Int32)} {a_hasHeldY : (Nat → Int32)} {a_queueSize : (Nat → Int32)} {a_queueIsOfX : (Nat → Int32)} {a_queueValue : (Nat → Int32)} {a_queueDue : (Nat → Int32)} {a_subStatus : (Nat → Int32)} {a_subCode : (Nat → Int32)} {a_subEnd : (Nat → Int32)} {a_subDemand : (Nat → Int64)} {a_subRequests : (Nat → Int32)} {a_subDelivered : (Nat → Int32)} {a_subWaiting : (Nat → Int32)} {a_waitValue : (Nat → Int32)} {a_history : (Nat → Int64)} {a_taskWhat : (Nat → Int32)} {a_taskPart : (Nat → Int32)} {a_taskValue : (Nat → Int32)}
/-- the component's loop, once nothing is asked for any more: what is left moves to the front -/
theorem xd_shift {post : SX → Prop} {id g en : Nat} {st co : Int32} {dm : Int64} {dv : Int32} {ws : List Int32} {hh : Nat → Int64} (hid : id < 3) (hg : g ≤ ws.length) (hdm : dm ≤ 0) (h1 : a_subStatus id = st) (h2 : a_subCode id = co) (h3 : a_subEnd id = nI en ∧ en < 4) (h4 : a_subDemand id = dm) (h5 : a_subDelivered id = dv) (h6 : a_subWaiting id = nI ws.length) (h8 : ws.length ≤ 8) (h10 : ∀ j, j < 16 → a_history (16 * id + j) = hh j)
    (H : ∀ sw wv, RepB a_subStatus a_subCode a_subEnd a_subDemand a_subDelivered sw wv a_history id (st, co, en, dm, dv, ws.drop g, hh) → (∀ j, j ≠ id → sw j = a_subWaiting j ∧ ∀ r, r < 8 → wv (8 * j + r) = a_waitValue (8 * j + r)) → post (f_time, f_sent, f_stageCount, f_tasks, a_sourceEnded, a_stageKind, a_stageA, a_stageB, a_stageParts, a_partStage, a_partUser, a_partX, a_partY, a_phase, a_beganAfter, a_due, a_count, a_held, a_heldY, a_hasHeld, a_hasHeldY, a_queueSize, a_queueIsOfX, a_queueValue, a_queueDue, a_subStatus, a_subCode, a_subEnd, a_subDemand, a_subRequests, a_subDelivered, sw, wv, a_history, a_taskWhat, a_taskPart, a_taskValue)) :
    ∀ (e i : Nat) (wv : Nat → Int32), i + e = ws.length → g ≤ i → (∀ r x, i ≤ r → ws[r]? = some x → wv (8 * id + r) = x) → (∀ r x, r < i - g → ws[g + r]? = some x → wv (8 * id + r) = x) → (∀ j, j ≠ id → ∀ r, r < 8 → wv (8 * j + r) = a_waitValue (8 * j + r)) → wX_deliverWaiting_10 post (nI id) (nI (8 * id)) (e + 1) (nI g) (nI i) f_time f_sent f_stageCount f_tasks a_sourceEnded a_stageKind a_stageA a_stageB a_stageParts a_partStage a_partUser a_partX a_partY a_phase a_beganAfter a_due a_count a_held a_heldY a_hasHeld a_hasHeldY a_queueSize a_queueIsOfX a_queueValue a_queueDue a_subStatus a_subCode a_subEnd a_subDemand a_subRequests a_subDelivered a_subWaiting (wv) a_history a_taskWhat a_taskPart a_taskValue := by
  have hcl : (nI id).toNatClampNeg = id := nI_clamp (by omega)
  have hin : vp_in (nI id) 3 := vp_in_nI hid (by decide)
  intro e
  induction e with
  | zero =>
    intro i wv hi hgi hw1 hw2 hw3
    have : i = ws.length := by omega
    subst this
    refine ⟨hin, br_t (by rw [hcl, h6]; exact nI_le (Nat.le_refl _) (by omega)) ⟨hin, hin, nm_r (e' := upd a_subWaiting id (nI (ws.length - g))) (by rw [hcl, h6, pk_sub hg]) ?_⟩⟩
    refine H _ _ ⟨h1, h2, h3.1, h3.2, h4, h5, by rw [pk_us, List.length_drop], by rw [List.length_drop]; omega, fun r x hx => ?_, h10⟩ (fun j hj => ⟨pk_un hj, hw3 j hj⟩)
    rw [List.getElem?_drop] at hx
    refine hw2 r x ?_ hx
    rcases Nat.lt_or_ge (g + r) ws.length with y | y
    · omega
    · rw [List.getElem?_eq_none y] at hx; exact absurd hx (by simp)
  | succ e ih =>
    intro i wv hi hgi hw1 hw2 hw3
    have hil : i < ws.length := by omega
    have ea : nI (8 * id) + nI i = nI (8 * id + i) := nI_add _ _
    have eb : nI (8 * id + i) - nI g = nI (8 * id + (i - g)) := by rw [pk_sub (by omega)]; congr 1; omega
    have hca : (nI (8 * id + i)).toNatClampNeg = 8 * id + i := nI_clamp (by omega)
    have hcb : (nI (8 * id + (i - g))).toNatClampNeg = 8 * id + (i - g) := nI_clamp (by omega)
    refine ⟨hin, br_f (by rw [hcl, h6]; exact nI_ge hil (by omega)) ⟨hin, br_t (by rw [hcl, h4]; exact hdm) ?_⟩⟩
    rw [ea, eb]
    refine ⟨vp_in_nI (by omega) (by decide), vp_in_nI (by omega) (by decide), nm_r (e' := upd wv (8 * id + (i - g)) ws[i]) (by rw [hca, hcb, hw1 i ws[i] (Nat.le_refl _) (List.getElem?_eq_getElem hil)]) (nm_r (nI_1 i) ?_)⟩
    refine ih (i + 1) _ (by omega) (by omega) (fun r x hr hx => ?_) (fun r x hr hx => ?_) (fun j hj r hr => ?_)
    · rw [pk_un (by omega)]
      exact hw1 r x (by omega) hx
    · by_cases e1 : r = i - g
      · subst e1
        rw [pk_us]
        rw [show g + (i - g) = i from by omega, List.getElem?_eq_getElem hil] at hx
        exact Option.some.inj hx
      · rw [pk_un (by omega)]
        exact hw2 r x (by omega) hx
    · rw [pk_un (by omega)]
      exact hw3 j hj r hr
end
/-- the component's loop as long as something is asked for -/
theorem xd_loop {post : SX → Prop} {id t : Nat} {ws : List Int32} (hid : id < 3) (h8 : ws.length ≤ 8) {G : Sb} (u0 : SX)
    (H : ∀ u', x_st2 u' = x_st2 u0 → x_ph u' = x_ph u0 → x_pa u' = x_pa u0 → x_tk u' = x_tk u0 → RepU u' id G → (∀ j, j ≠ id → ∀ s, RepU u0 j s → RepU u' j s) → post u') :
    ∀ (e i : Nat) (u : SX) (st co : Int32) (en : Nat) (dm : Int64) (dv : Int32) (hh : Nat → Int64), i + e = ws.length → x_time u = nI t → x_st2 u = x_st2 u0 → x_ph u = x_ph u0 → x_pa u = x_pa u0 → x_tk u = x_tk u0 → RepU u id (st, co, en, dm, dv, ws, hh) → (∀ j, j ≠ id → ∀ s, RepU u0 j s → RepU u j s) → G = dlw t (ws.drop i) (st, co, en, dm, dv, ws, hh) → wX_deliverWaiting_10 post (nI id) (nI (8 * id)) (e + 1) (nI i) (nI i) (x_time u) (x_sent u) (x_stageCount u) (x_tasks u) (x_sourceEnded u) (x_stageKind u) (x_stageA u) (x_stageB u) (x_stageParts u) (x_partStage u) (x_partUser u) (x_partX u) (x_partY u) (x_phase u) (x_beganAfter u) (x_due u) (x_count u) (x_held u) (x_heldY u) (x_hasHeld u) (x_hasHeldY u) (x_queueSize u) (x_queueIsOfX u) (x_queueValue u) (x_queueDue u) (x_subStatus u) (x_subCode u) (x_subEnd u) (x_subDemand u) (x_subRequests u) (x_subDelivered u) (x_subWaiting u) (x_waitValue u) (x_history u) (x_taskWhat u) (x_taskPart u) (x_taskValue u) := by
  have hcl : (nI id).toNatClampNeg = id := nI_clamp (by omega)
  have hin : vp_in (nI id) 3 := vp_in_nI hid (by decide)
  intro e
  induction e with
  | zero =>
    intro i u st co en dm dv hh hi ht b1 b2 b3 b4 hR hO hG
    have hii : i = ws.length := by omega
    obtain ⟨f_time, f_sent, f_stageCount, f_tasks, a_sourceEnded, a_stageKind, a_stageA, a_stageB, a_stageParts, a_partStage, a_partUser, a_partX, a_partY, a_phase, a_beganAfter, a_due, a_count, a_held, a_heldY, a_hasHeld, a_hasHeldY, a_queueSize, a_queueIsOfX, a_queueValue, a_queueDue, a_subStatus, a_subCode, a_subEnd, a_subDemand, a_subRequests, a_subDelivered, a_subWaiting, a_waitValue, a_history, a_taskWhat, a_taskPart, a_taskValue⟩ := u
    obtain ⟨r1, r2, r3, r4, r5, r6, r7, r8, r9, r10⟩ := xe_ru hR
    rw [hii, List.drop_length] at hG
    rw [hii]
    refine ⟨hin, br_t (by rw [hcl]; show a_subWaiting id ≤ nI ws.length; rw [r7]; exact nI_le (Nat.le_refl _) (by omega)) ⟨hin, hin, nm_r (e' := upd a_subWaiting id (nI 0)) (by rw [hcl]; show upd a_subWaiting id (a_subWaiting id - nI ws.length) = _; rw [r7, pk_sub (Nat.le_refl _), Nat.sub_self]) ?_⟩⟩
    refine H (f_time, f_sent, f_stageCount, f_tasks, a_sourceEnded, a_stageKind, a_stageA, a_stageB, a_stageParts, a_partStage, a_partUser, a_partX, a_partY, a_phase, a_beganAfter, a_due, a_count, a_held, a_heldY, a_hasHeld, a_hasHeldY, a_queueSize, a_queueIsOfX, a_queueValue, a_queueDue, a_subStatus, a_subCode, a_subEnd, a_subDemand, a_subRequests, a_subDelivered, upd a_subWaiting id (nI 0), a_waitValue, a_history, a_taskWhat, a_taskPart, a_taskValue) (xe_st2.trans (xe_st2.symm.trans b1)) (xe_ph.trans (xe_ph.symm.trans b2)) (xe_pa.trans (xe_pa.symm.trans b3)) (xe_tk.trans (xe_tk.symm.trans b4)) ?_ (fun j hj s hs => xe_ru' (xs_frame (xe_ru (hO j hj s hs)) rfl rfl rfl rfl rfl (pk_un hj) (fun _ _ => rfl) (fun _ _ => rfl)))
    rw [hG]
    exact xe_ru' ⟨r1, r2, r3, r4, r5, r6, pk_us, Nat.zero_le _, fun j x hx => absurd hx (by simp), r10⟩
  | succ e ih =>
    intro i u st co en dm dv hh hi ht b1 b2 b3 b4 hR hO hG
    have hil : i < ws.length := by omega
    have hdr : ws.drop i = ws[i] :: ws.drop (i + 1) := List.drop_eq_getElem_cons hil
    rw [hdr] at hG
    by_cases hdm : dm ≤ 0
    · have hG' : G = (st, co, en, dm, dv, ws.drop i, hh) := by
        rw [hG, hdr]
        exact if_pos hdm
      obtain ⟨f_time, f_sent, f_stageCount, f_tasks, a_sourceEnded, a_stageKind, a_stageA, a_stageB, a_stageParts, a_partStage, a_partUser, a_partX, a_partY, a_phase, a_beganAfter, a_due, a_count, a_held, a_heldY, a_hasHeld, a_hasHeldY, a_queueSize, a_queueIsOfX, a_queueValue, a_queueDue, a_subStatus, a_subCode, a_subEnd, a_subDemand, a_subRequests, a_subDelivered, a_subWaiting, a_waitValue, a_history, a_taskWhat, a_taskPart, a_taskValue⟩ := u
      obtain ⟨r1, r2, r3, r4, r5, r6, r7, r8, r9, r10⟩ := xe_ru hR
      refine xd_shift (post := post) (g := i) hid (by omega) hdm r1 r2 ⟨r3, r4⟩ r5 r6 r7 h8 r10 (fun sw wv k1 k2 => ?_) (e + 1) i a_waitValue hi (Nat.le_refl _) (fun r x _ hx => r9 r x hx) (fun r x hr => by omega) (fun j _ r _ => rfl)
      refine H (f_time, f_sent, f_stageCount, f_tasks, a_sourceEnded, a_stageKind, a_stageA, a_stageB, a_stageParts, a_partStage, a_partUser, a_partX, a_partY, a_phase, a_beganAfter, a_due, a_count, a_held, a_heldY, a_hasHeld, a_hasHeldY, a_queueSize, a_queueIsOfX, a_queueValue, a_queueDue, a_subStatus, a_subCode, a_subEnd, a_subDemand, a_subRequests, a_subDelivered, sw, wv, a_history, a_taskWhat, a_taskPart, a_taskValue) (xe_st2.trans (xe_st2.symm.trans b1)) (xe_ph.trans (xe_ph.symm.trans b2)) (xe_pa.trans (xe_pa.symm.trans b3)) (xe_tk.trans (xe_tk.symm.trans b4)) ?_ (fun j hj s hs => xe_ru' (xs_frame (xe_ru (hO j hj s hs)) rfl rfl rfl rfl rfl (k2 j hj).1 (fun r hr => (k2 j hj).2 r hr) (fun _ _ => rfl)))
      rw [hG']
      exact xe_ru' k1
    · have hG' : G = dlw t (ws.drop (i + 1)) (sdl t ws[i] (st, co, en, dm, dv, ws, hh)) := by
        rw [hG]
        exact if_neg hdm
      have hstep : ∀ u1, EffS u u1 id (sdl t ws[i] (st, co, en, dm, dv, ws, hh)) → wX_deliverWaiting_10 post (nI id) (nI (8 * id)) (e + 1) (nI (i + 1)) (nI (i + 1)) (x_time u1) (x_sent u1) (x_stageCount u1) (x_tasks u1) (x_sourceEnded u1) (x_stageKind u1) (x_stageA u1) (x_stageB u1) (x_stageParts u1) (x_partStage u1) (x_partUser u1) (x_partX u1) (x_partY u1) (x_phase u1) (x_beganAfter u1) (x_due u1) (x_count u1) (x_held u1) (x_heldY u1) (x_hasHeld u1) (x_hasHeldY u1) (x_queueSize u1) (x_queueIsOfX u1) (x_queueValue u1) (x_queueDue u1) (x_subStatus u1) (x_subCode u1) (x_subEnd u1) (x_subDemand u1) (x_subRequests u1) (x_subDelivered u1) (x_subWaiting u1) (x_waitValue u1) (x_history u1) (x_taskWhat u1) (x_taskPart u1) (x_taskValue u1) := by
        intro u1 he
        obtain ⟨e1, e2, e3, e4, e5, e6⟩ := he
        exact ih (i + 1) u1 st co en (dec1 dm) (dv + 1) (vp_updL hh (dj dv) (hv t ws[i])) (by omega) ((xr_st2 e1).1.trans ht) (e1.trans b1) (e2.trans b2) (e3.trans b3) (e4.trans b4) e5 (fun j hj s hs => e6 j hj s (hO j hj s hs)) hG'
      obtain ⟨f_time, f_sent, f_stageCount, f_tasks, a_sourceEnded, a_stageKind, a_stageA, a_stageB, a_stageParts, a_partStage, a_partUser, a_partX, a_partY, a_phase, a_beganAfter, a_due, a_count, a_held, a_heldY, a_hasHeld, a_hasHeldY, a_queueSize, a_queueIsOfX, a_queueValue, a_queueDue, a_subStatus, a_subCode, a_subEnd, a_subDemand, a_subRequests, a_subDelivered, a_subWaiting, a_waitValue, a_history, a_taskWhat, a_taskPart, a_taskValue⟩ := u
      obtain ⟨r1, r2, r3, r4, r5, r6, r7, r8, r9, r10⟩ := xe_ru hR
      have hw := r9 i ws[i] (List.getElem?_eq_getElem hil)
      have ht' : f_time = nI t := ht
      have ea : nI (8 * id) + nI i = nI (8 * id + i) := nI_add _ _
      have hca : (nI (8 * id + i)).toNatClampNeg = 8 * id + i := nI_clamp (by omega)
      refine ⟨hin, br_f (by rw [hcl]; show ¬ a_subWaiting id ≤ nI i; rw [r7]; exact nI_ge hil (by omega)) ⟨hin, br_f (by rw [hcl]; show ¬ a_subDemand id ≤ 0; rw [r5]; exact hdm) ?_⟩⟩
      rw [ea]
      refine ⟨vp_in_nI (by omega) (by decide), ?_⟩
      rw [hca]
      show wpX_deliver _ (f_time, f_sent, f_stageCount, f_tasks, a_sourceEnded, a_stageKind, a_stageA, a_stageB, a_stageParts, a_partStage, a_partUser, a_partX, a_partY, a_phase, a_beganAfter, a_due, a_count, a_held, a_heldY, a_hasHeld, a_hasHeldY, a_queueSize, a_queueIsOfX, a_queueValue, a_queueDue, a_subStatus, a_subCode, a_subEnd, a_subDemand, a_subRequests, a_subDelivered, a_subWaiting, a_waitValue, a_history, a_taskWhat, a_taskPart, a_taskValue) (nI id) (a_waitValue (8 * id + i))
      rw [hw]
      refine xs_deliver hid ht' (xe_ru hR) (fun u1 he => ?_)
      have h2 := hstep u1 he
      obtain ⟨f_time, f_sent, f_stageCount, f_tasks, a_sourceEnded, a_stageKind, a_stageA, a_stageB, a_stageParts, a_partStage, a_partUser, a_partX, a_partY, a_phase, a_beganAfter, a_due, a_count, a_held, a_heldY, a_hasHeld, a_hasHeldY, a_queueSize, a_queueIsOfX, a_queueValue, a_queueDue, a_subStatus, a_subCode, a_subEnd, a_subDemand, a_subRequests, a_subDelivered, a_subWaiting, a_waitValue, a_history, a_taskWhat, a_taskPart, a_taskValue⟩ := u1
      exact nm_r (nI_1 i) (nm_r (nI_1 i) h2)
