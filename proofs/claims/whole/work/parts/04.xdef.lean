/-! ===== views of the component's state ===== -/
def x_time (u : SX) : Int32 := u.1
def x_sent (u : SX) : Int32 := u.2.1
def x_stageCount (u : SX) : Int32 := u.2.2.1
def x_tasks (u : SX) : Int32 := u.2.2.2.1
def x_sourceEnded (u : SX) : (Nat → Int32) := u.2.2.2.2.1
def x_stageKind (u : SX) : (Nat → Int32) := u.2.2.2.2.2.1
def x_stageA (u : SX) : (Nat → Int32) := u.2.2.2.2.2.2.1
def x_stageB (u : SX) : (Nat → Int32) := u.2.2.2.2.2.2.2.1
def x_stageParts (u : SX) : (Nat → Int32) := u.2.2.2.2.2.2.2.2.1
def x_partStage (u : SX) : (Nat → Int32) := u.2.2.2.2.2.2.2.2.2.1
def x_partUser (u : SX) : (Nat → Int32) := u.2.2.2.2.2.2.2.2.2.2.1
def x_partX (u : SX) : (Nat → Int32) := u.2.2.2.2.2.2.2.2.2.2.2.1
def x_partY (u : SX) : (Nat → Int32) := u.2.2.2.2.2.2.2.2.2.2.2.2.1
def x_phase (u : SX) : (Nat → Int32) := u.2.2.2.2.2.2.2.2.2.2.2.2.2.1
def x_beganAfter (u : SX) : (Nat → Int32) := u.2.2.2.2.2.2.2.2.2.2.2.2.2.2.1
def x_due (u : SX) : (Nat → Int32) := u.2.2.2.2.2.2.2.2.2.2.2.2.2.2.2.1
def x_count (u : SX) : (Nat → Int32) := u.2.2.2.2.2.2.2.2.2.2.2.2.2.2.2.2.1
def x_held (u : SX) : (Nat → Int32) := u.2.2.2.2.2.2.2.2.2.2.2.2.2.2.2.2.2.1
def x_heldY (u : SX) : (Nat → Int32) := u.2.2.2.2.2.2.2.2.2.2.2.2.2.2.2.2.2.2.1
def x_hasHeld (u : SX) : (Nat → Int32) := u.2.2.2.2.2.2.2.2.2.2.2.2.2.2.2.2.2.2.2.1
def x_hasHeldY (u : SX) : (Nat → Int32) := u.2.2.2.2.2.2.2.2.2.2.2.2.2.2.2.2.2.2.2.2.1
def x_queueSize (u : SX) : (Nat → Int32) := u.2.2.2.2.2.2.2.2.2.2.2.2.2.2.2.2.2.2.2.2.2.1
def x_queueIsOfX (u : SX) : (Nat → Int32) := u.2.2.2.2.2.2.2.2.2.2.2.2.2.2.2.2.2.2.2.2.2.2.1
def x_queueValue (u : SX) : (Nat → Int32) := u.2.2.2.2.2.2.2.2.2.2.2.2.2.2.2.2.2.2.2.2.2.2.2.1
def x_queueDue (u : SX) : (Nat → Int32) := u.2.2.2.2.2.2.2.2.2.2.2.2.2.2.2.2.2.2.2.2.2.2.2.2.1
def x_subStatus (u : SX) : (Nat → Int32) := u.2.2.2.2.2.2.2.2.2.2.2.2.2.2.2.2.2.2.2.2.2.2.2.2.2.1
def x_subCode (u : SX) : (Nat → Int32) := u.2.2.2.2.2.2.2.2.2.2.2.2.2.2.2.2.2.2.2.2.2.2.2.2.2.2.1
def x_subEnd (u : SX) : (Nat → Int32) := u.2.2.2.2.2.2.2.2.2.2.2.2.2.2.2.2.2.2.2.2.2.2.2.2.2.2.2.1
def x_subDemand (u : SX) : (Nat → Int64) := u.2.2.2.2.2.2.2.2.2.2.2.2.2.2.2.2.2.2.2.2.2.2.2.2.2.2.2.2.1
def x_subRequests (u : SX) : (Nat → Int32) := u.2.2.2.2.2.2.2.2.2.2.2.2.2.2.2.2.2.2.2.2.2.2.2.2.2.2.2.2.2.1
def x_subDelivered (u : SX) : (Nat → Int32) := u.2.2.2.2.2.2.2.2.2.2.2.2.2.2.2.2.2.2.2.2.2.2.2.2.2.2.2.2.2.2.1
def x_subWaiting (u : SX) : (Nat → Int32) := u.2.2.2.2.2.2.2.2.2.2.2.2.2.2.2.2.2.2.2.2.2.2.2.2.2.2.2.2.2.2.2.1
def x_waitValue (u : SX) : (Nat → Int32) := u.2.2.2.2.2.2.2.2.2.2.2.2.2.2.2.2.2.2.2.2.2.2.2.2.2.2.2.2.2.2.2.2.1
def x_history (u : SX) : (Nat → Int64) := u.2.2.2.2.2.2.2.2.2.2.2.2.2.2.2.2.2.2.2.2.2.2.2.2.2.2.2.2.2.2.2.2.2.1
def x_taskWhat (u : SX) : (Nat → Int32) := u.2.2.2.2.2.2.2.2.2.2.2.2.2.2.2.2.2.2.2.2.2.2.2.2.2.2.2.2.2.2.2.2.2.2.1
def x_taskPart (u : SX) : (Nat → Int32) := u.2.2.2.2.2.2.2.2.2.2.2.2.2.2.2.2.2.2.2.2.2.2.2.2.2.2.2.2.2.2.2.2.2.2.2.1
def x_taskValue (u : SX) : (Nat → Int32) := u.2.2.2.2.2.2.2.2.2.2.2.2.2.2.2.2.2.2.2.2.2.2.2.2.2.2.2.2.2.2.2.2.2.2.2.2
def x_st2 (u : SX) := (x_time u, x_sent u, x_stageCount u, x_sourceEnded u, x_stageKind u, x_stageA u, x_stageB u, x_stageParts u, x_partStage u, x_partUser u, x_partX u, x_partY u, x_subRequests u)
def x_sub (u : SX) := (x_subStatus u, x_subCode u, x_subEnd u, x_subDemand u, x_subDelivered u, x_subWaiting u, x_waitValue u, x_history u)
def x_ph (u : SX) := (x_phase u, x_beganAfter u)
def dI (d : Nat) : Int32 := if d = 0 then -1 else nI d
def bI (b : Bool) : Int32 := if b = true then 1 else 0
/-- the cells of part i show the state S -/
def RepA (du co he hY hH hHY qs qo qv qd : Nat → Int32) (i : Nat) : PSt → Prop
  | (d, c, h, hy, f, fy, qx, q, _, _) =>
    du i = dI d ∧ co i = nI c ∧ he i = h ∧ hY i = hy ∧ hH i = bI f ∧ hHY i = bI fy ∧ ((∃ e ∈ q, e.2 = 0) → qo i = bI qx) ∧ qs i = nI q.length ∧ q.length ≤ 8 ∧ ∀ j e, q[j]? = some e → qv (8 * i + j) = e.1 ∧ qd (8 * i + j) = dI e.2
def RepP (u : SX) (i : Nat) (S : PSt) : Prop := RepA (x_due u) (x_count u) (x_held u) (x_heldY u) (x_hasHeld u) (x_hasHeldY u) (x_queueSize u) (x_queueIsOfX u) (x_queueValue u) (x_queueDue u) i S
abbrev Tk : Type := Nat × Nat × Int32
def rps (tw tp tv : Nat → Int32) : List Tk → Prop
  | [] => True
  | e :: r => tw r.length = nI e.1 ∧ tp r.length = nI e.2.1 ∧ tv r.length = e.2.2 ∧ rps tw tp tv r
def RepS (u : SX) (R : List Tk) : Prop := x_tasks u = nI R.length ∧ rps (x_taskWhat u) (x_taskPart u) (x_taskValue u) R
def ots (i : Nat) (o : Otp) : List Tk := o.map (fun x => (x.1, i, x.2))
/-- a handler of part i: its cells show S', it pushed o, nothing else moved -/
def Eff (u u' : SX) (i : Nat) (S' : PSt) (o : Otp) (R : List Tk) : Prop :=
  x_st2 u' = x_st2 u ∧ x_sub u' = x_sub u ∧ x_ph u' = x_ph u ∧ RepP u' i S' ∧ (∀ j, j ≠ i → ∀ S, RepP u j S → RepP u' j S) ∧ RepS u' (ots i o ++ R)
theorem xd_bI_nar (b : Bool) : vp_nar .boolean (bI b) = bI b := by cases b <;> rfl
theorem xd_nar1 : vp_nar .boolean 1 = bI true := rfl
theorem xd_nar0 : vp_nar .boolean 0 = bI false := rfl
theorem xd_bI0 {b : Bool} : bI b = 0 ↔ b = false := by cases b <;> decide
theorem xd_bI1 {b : Bool} : bI b = 1 ↔ b = true := by cases b <;> decide
theorem xd_bI {b c : Bool} : bI b = bI c ↔ b = c := by cases b <;> cases c <;> decide
theorem xd_dI {d t : Nat} (hd : d < 1000) (ht : t < 1000) (h1 : 1 ≤ t) : dI d = nI t ↔ d = t := by
  unfold dI
  by_cases h : d = 0
  · rw [if_pos h]
    constructor
    · intro e
      have : (-1 : Int32) < 0 := by decide
      rw [e] at this
      exact absurd this (nI_pos (by omega))
    · intro e; omega
  · rw [if_neg h, nI_eq (by omega) (by omega)]
theorem xd_dIm {d : Nat} (hd : d < 1000) : dI d = -1 ↔ d = 0 := by
  unfold dI
  by_cases h : d = 0
  · rw [if_pos h]; exact ⟨fun _ => h, fun _ => rfl⟩
  · rw [if_neg h]
    constructor
    · intro e
      have : (-1 : Int32) < 0 := by decide
      rw [← e] at this
      exact absurd this (nI_pos (by omega))
    · intro e; exact absurd e h
theorem xd_dIp {d : Nat} (h : 1 ≤ d) : dI d = nI d := by unfold dI; rw [if_neg (by omega)]
theorem xd_rps_up {tw tp tv : Nat → Int32} {n : Nat} {x y z : Int32} : ∀ R : List Tk, R.length ≤ n → rps tw tp tv R → rps (upd tw n x) (upd tp n y) (upd tv n z) R
  | [], _, _ => True.intro
  | e :: r, hl, ⟨h1, h2, h3, h4⟩ => by
    have hl' : r.length < n := hl
    have hn : r.length ≠ n := by omega
    exact ⟨(pk_un hn).trans h1, (pk_un hn).trans h2, (pk_un hn).trans h3, xd_rps_up r (by omega) h4⟩
theorem xd_rps_push {tw tp tv : Nat → Int32} {R : List Tk} {w p : Nat} {v : Int32} (h : rps tw tp tv R) : rps (upd tw R.length (nI w)) (upd tp R.length (nI p)) (upd tv R.length v) ((w, p, v) :: R) :=
  ⟨pk_us, pk_us, pk_us, xd_rps_up R (Nat.le_refl _) h⟩
theorem xd_frame {du co he hY hH hHY qs qo qv qd du' co' he' hY' hH' hHY' qs' qo' qv' qd' : Nat → Int32} {j : Nat} {S : PSt} (h : RepA du co he hY hH hHY qs qo qv qd j S) (h1 : du' j = du j) (h2 : co' j = co j) (h3 : he' j = he j) (h4 : hY' j = hY j) (h5 : hH' j = hH j) (h6 : hHY' j = hHY j) (h8 : qs' j = qs j) (h7 : qo' j = qo j) (hq : ∀ r, r < 8 → qv' (8 * j + r) = qv (8 * j + r) ∧ qd' (8 * j + r) = qd (8 * j + r)) : RepA du' co' he' hY' hH' hHY' qs' qo' qv' qd' j S := by
  obtain ⟨d, c, hh, hy, f, fy, qx, q, ox, oy⟩ := S
  obtain ⟨a1, a2, a3, a4, a5, a6, a7, a8, a9, a10⟩ := h
  refine ⟨h1.trans a1, h2.trans a2, h3.trans a3, h4.trans a4, h5.trans a5, h6.trans a6, fun z => h7.trans (a7 z), h8.trans a8, a9, fun r e he => ?_⟩
  have hr : r < q.length := by
    rcases Nat.lt_or_ge r q.length with z | z
    · exact z
    · rw [List.getElem?_eq_none z] at he; exact absurd he (by simp)
  have := a10 r e he
  have h8 := hq r (by omega)
  exact ⟨h8.1.trans this.1, h8.2.trans this.2⟩
section
variable {f_time : Int32} {f_sent : Int32} {f_stageCount : Int32} {f_tasks : Int32} {a_sourceEnded : (Nat → Int32)} {a_stageKind : (Nat → Int32)} {a_stageA : (Nat → Int32)} {a_stageB : (Nat → Int32)} {a_stageParts : (Nat → Int32)} {a_partStage : (Nat → Int32)} {a_partUser : (Nat → Int32)} {a_partX : (Nat → Int32)} {a_partY : (Nat → Int32)} {a_phase : (Nat → Int32)} {a_beganAfter : (Nat → Int32)} {a_due : (Nat → Int32)} {a_count : (Nat → Int32)} {a_held : (Nat → Int32)} {a_heldY : (Nat → Int32)} {a_hasHeld : (Nat → Int32)} {a_hasHeldY : (Nat → Int32)} {a_queueSize : (Nat → Int32)} {a_queueIsOfX : (Nat → Int32)} {a_queueValue : (Nat → Int32)} {a_queueDue : (Nat → Int32)} {a_subStatus : (Nat → Int32)} {a_subCode : (Nat → Int32)} {a_subEnd : (Nat → Int32)} {a_subDemand : (Nat → Int64)} {a_subRequests : (Nat → Int32)} {a_subDelivered : (Nat → Int32)} {a_subWaiting : (Nat → Int32)} {a_waitValue : (Nat → Int32)} {a_history : (Nat → Int64)} {a_taskWhat : (Nat → Int32)} {a_taskPart : (Nat → Int32)} {a_taskValue : (Nat → Int32)}
theorem xe_st2 : x_st2 (f_time, f_sent, f_stageCount, f_tasks, a_sourceEnded, a_stageKind, a_stageA, a_stageB, a_stageParts, a_partStage, a_partUser, a_partX, a_partY, a_phase, a_beganAfter, a_due, a_count, a_held, a_heldY, a_hasHeld, a_hasHeldY, a_queueSize, a_queueIsOfX, a_queueValue, a_queueDue, a_subStatus, a_subCode, a_subEnd, a_subDemand, a_subRequests, a_subDelivered, a_subWaiting, a_waitValue, a_history, a_taskWhat, a_taskPart, a_taskValue) = (f_time, f_sent, f_stageCount, a_sourceEnded, a_stageKind, a_stageA, a_stageB, a_stageParts, a_partStage, a_partUser, a_partX, a_partY, a_subRequests) := rfl
theorem xe_sub : x_sub (f_time, f_sent, f_stageCount, f_tasks, a_sourceEnded, a_stageKind, a_stageA, a_stageB, a_stageParts, a_partStage, a_partUser, a_partX, a_partY, a_phase, a_beganAfter, a_due, a_count, a_held, a_heldY, a_hasHeld, a_hasHeldY, a_queueSize, a_queueIsOfX, a_queueValue, a_queueDue, a_subStatus, a_subCode, a_subEnd, a_subDemand, a_subRequests, a_subDelivered, a_subWaiting, a_waitValue, a_history, a_taskWhat, a_taskPart, a_taskValue) = (a_subStatus, a_subCode, a_subEnd, a_subDemand, a_subDelivered, a_subWaiting, a_waitValue, a_history) := rfl
theorem xe_ph : x_ph (f_time, f_sent, f_stageCount, f_tasks, a_sourceEnded, a_stageKind, a_stageA, a_stageB, a_stageParts, a_partStage, a_partUser, a_partX, a_partY, a_phase, a_beganAfter, a_due, a_count, a_held, a_heldY, a_hasHeld, a_hasHeldY, a_queueSize, a_queueIsOfX, a_queueValue, a_queueDue, a_subStatus, a_subCode, a_subEnd, a_subDemand, a_subRequests, a_subDelivered, a_subWaiting, a_waitValue, a_history, a_taskWhat, a_taskPart, a_taskValue) = (a_phase, a_beganAfter) := rfl
theorem xe_phase : x_phase (f_time, f_sent, f_stageCount, f_tasks, a_sourceEnded, a_stageKind, a_stageA, a_stageB, a_stageParts, a_partStage, a_partUser, a_partX, a_partY, a_phase, a_beganAfter, a_due, a_count, a_held, a_heldY, a_hasHeld, a_hasHeldY, a_queueSize, a_queueIsOfX, a_queueValue, a_queueDue, a_subStatus, a_subCode, a_subEnd, a_subDemand, a_subRequests, a_subDelivered, a_subWaiting, a_waitValue, a_history, a_taskWhat, a_taskPart, a_taskValue) = a_phase := rfl
theorem xe_began : x_beganAfter (f_time, f_sent, f_stageCount, f_tasks, a_sourceEnded, a_stageKind, a_stageA, a_stageB, a_stageParts, a_partStage, a_partUser, a_partX, a_partY, a_phase, a_beganAfter, a_due, a_count, a_held, a_heldY, a_hasHeld, a_hasHeldY, a_queueSize, a_queueIsOfX, a_queueValue, a_queueDue, a_subStatus, a_subCode, a_subEnd, a_subDemand, a_subRequests, a_subDelivered, a_subWaiting, a_waitValue, a_history, a_taskWhat, a_taskPart, a_taskValue) = a_beganAfter := rfl
theorem xe_rep {i : Nat} {S : PSt} (h : RepP (f_time, f_sent, f_stageCount, f_tasks, a_sourceEnded, a_stageKind, a_stageA, a_stageB, a_stageParts, a_partStage, a_partUser, a_partX, a_partY, a_phase, a_beganAfter, a_due, a_count, a_held, a_heldY, a_hasHeld, a_hasHeldY, a_queueSize, a_queueIsOfX, a_queueValue, a_queueDue, a_subStatus, a_subCode, a_subEnd, a_subDemand, a_subRequests, a_subDelivered, a_subWaiting, a_waitValue, a_history, a_taskWhat, a_taskPart, a_taskValue) i S) : RepA a_due a_count a_held a_heldY a_hasHeld a_hasHeldY a_queueSize a_queueIsOfX a_queueValue a_queueDue i S := h
theorem xe_rep' {i : Nat} {S : PSt} (h : RepA a_due a_count a_held a_heldY a_hasHeld a_hasHeldY a_queueSize a_queueIsOfX a_queueValue a_queueDue i S) : RepP (f_time, f_sent, f_stageCount, f_tasks, a_sourceEnded, a_stageKind, a_stageA, a_stageB, a_stageParts, a_partStage, a_partUser, a_partX, a_partY, a_phase, a_beganAfter, a_due, a_count, a_held, a_heldY, a_hasHeld, a_hasHeldY, a_queueSize, a_queueIsOfX, a_queueValue, a_queueDue, a_subStatus, a_subCode, a_subEnd, a_subDemand, a_subRequests, a_subDelivered, a_subWaiting, a_waitValue, a_history, a_taskWhat, a_taskPart, a_taskValue) i S := h
theorem xe_stk {R : List Tk} (h : RepS (f_time, f_sent, f_stageCount, f_tasks, a_sourceEnded, a_stageKind, a_stageA, a_stageB, a_stageParts, a_partStage, a_partUser, a_partX, a_partY, a_phase, a_beganAfter, a_due, a_count, a_held, a_heldY, a_hasHeld, a_hasHeldY, a_queueSize, a_queueIsOfX, a_queueValue, a_queueDue, a_subStatus, a_subCode, a_subEnd, a_subDemand, a_subRequests, a_subDelivered, a_subWaiting, a_waitValue, a_history, a_taskWhat, a_taskPart, a_taskValue) R) : f_tasks = nI R.length ∧ rps a_taskWhat a_taskPart a_taskValue R := h
theorem xe_stk' {R : List Tk} (h1 : f_tasks = nI R.length) (h2 : rps a_taskWhat a_taskPart a_taskValue R) : RepS (f_time, f_sent, f_stageCount, f_tasks, a_sourceEnded, a_stageKind, a_stageA, a_stageB, a_stageParts, a_partStage, a_partUser, a_partX, a_partY, a_phase, a_beganAfter, a_due, a_count, a_held, a_heldY, a_hasHeld, a_hasHeldY, a_queueSize, a_queueIsOfX, a_queueValue, a_queueDue, a_subStatus, a_subCode, a_subEnd, a_subDemand, a_subRequests, a_subDelivered, a_subWaiting, a_waitValue, a_history, a_taskWhat, a_taskPart, a_taskValue) R := ⟨h1, h2⟩
theorem xe_eff {i : Nat} {S' : PSt} {o : Otp} {R : List Tk} {tk' : Int32} {du' co' he' hY' hH' hHY' qs' qo' qv' qd' tw' tp' tv' : Nat → Int32} (h1 : RepA du' co' he' hY' hH' hHY' qs' qo' qv' qd' i S') (h2 : ∀ j, j ≠ i → ∀ S, RepA a_due a_count a_held a_heldY a_hasHeld a_hasHeldY a_queueSize a_queueIsOfX a_queueValue a_queueDue j S → RepA du' co' he' hY' hH' hHY' qs' qo' qv' qd' j S) (h3 : tk' = nI (ots i o ++ R).length) (h4 : rps tw' tp' tv' (ots i o ++ R)) :
    Eff (f_time, f_sent, f_stageCount, f_tasks, a_sourceEnded, a_stageKind, a_stageA, a_stageB, a_stageParts, a_partStage, a_partUser, a_partX, a_partY, a_phase, a_beganAfter, a_due, a_count, a_held, a_heldY, a_hasHeld, a_hasHeldY, a_queueSize, a_queueIsOfX, a_queueValue, a_queueDue, a_subStatus, a_subCode, a_subEnd, a_subDemand, a_subRequests, a_subDelivered, a_subWaiting, a_waitValue, a_history, a_taskWhat, a_taskPart, a_taskValue) (f_time, f_sent, f_stageCount, tk', a_sourceEnded, a_stageKind, a_stageA, a_stageB, a_stageParts, a_partStage, a_partUser, a_partX, a_partY, a_phase, a_beganAfter, du', co', he', hY', hH', hHY', qs', qo', qv', qd', a_subStatus, a_subCode, a_subEnd, a_subDemand, a_subRequests, a_subDelivered, a_subWaiting, a_waitValue, a_history, tw', tp', tv') i S' o R := ⟨xe_st2.trans xe_st2.symm, xe_sub.trans xe_sub.symm, xe_ph.trans xe_ph.symm, h1, h2, h3, h4⟩
theorem xw_push {post : SX → Prop} {w p : Int32} {v : Int32} {n : Nat} (hn : f_tasks = nI n) (h : n < 128) (H : post (f_time, f_sent, f_stageCount, nI (n + 1), a_sourceEnded, a_stageKind, a_stageA, a_stageB, a_stageParts, a_partStage, a_partUser, a_partX, a_partY, a_phase, a_beganAfter, a_due, a_count, a_held, a_heldY, a_hasHeld, a_hasHeldY, a_queueSize, a_queueIsOfX, a_queueValue, a_queueDue, a_subStatus, a_subCode, a_subEnd, a_subDemand, a_subRequests, a_subDelivered, a_subWaiting, a_waitValue, a_history, upd a_taskWhat n w, upd a_taskPart n p, upd a_taskValue n v)) : wpX_push post (f_time, f_sent, f_stageCount, f_tasks, a_sourceEnded, a_stageKind, a_stageA, a_stageB, a_stageParts, a_partStage, a_partUser, a_partX, a_partY, a_phase, a_beganAfter, a_due, a_count, a_held, a_heldY, a_hasHeld, a_hasHeldY, a_queueSize, a_queueIsOfX, a_queueValue, a_queueDue, a_subStatus, a_subCode, a_subEnd, a_subDemand, a_subRequests, a_subDelivered, a_subWaiting, a_waitValue, a_history, a_taskWhat, a_taskPart, a_taskValue) w p v := by
  subst hn
  have hc : (nI n).toNatClampNeg = n := nI_clamp (by omega)
  refine br_f (nI_ge (b := 128) h (by decide)) ⟨vp_in_nI h (by decide), fun x ex => ⟨vp_in_nI h (by decide), fun y ey => ⟨vp_in_nI h (by decide), fun z ez => fun t et => ?_⟩⟩⟩
  subst ex ey ez et
  rw [hc, nI_1]
  exact H
end
