/-! ===== the reference: its streams in arrays ===== -/
def y_stages (u : SY) : Int32 := u.1
def y_heard (u : SY) : Int32 := u.2.1
def y_now (u : SY) : Int32 := u.2.2.1
def y_calls (u : SY) : Int64 := u.2.2.2.1
def y_parts (u : SY) : Int32 := u.2.2.2.2.1
def y_start (u : SY) : Int64 := u.2.2.2.2.2.1
def y_at (u : SY) : Int32 := u.2.2.2.2.2.2.1
def y_nextX (u : SY) : Int32 := u.2.2.2.2.2.2.2.1
def y_nextY (u : SY) : Int32 := u.2.2.2.2.2.2.2.2.1
def y_x (u : SY) : Int32 := u.2.2.2.2.2.2.2.2.2.1
def y_y (u : SY) : Int32 := u.2.2.2.2.2.2.2.2.2.2.1
def y_kind (u : SY) : (Nat → Int32) := u.2.2.2.2.2.2.2.2.2.2.2.1
def y_opA (u : SY) : (Nat → Int32) := u.2.2.2.2.2.2.2.2.2.2.2.2.1
def y_opB (u : SY) : (Nat → Int32) := u.2.2.2.2.2.2.2.2.2.2.2.2.2.1
def y_heardBy (u : SY) : (Nat → Int32) := u.2.2.2.2.2.2.2.2.2.2.2.2.2.2.1
def y_what (u : SY) : (Nat → Int32) := u.2.2.2.2.2.2.2.2.2.2.2.2.2.2.2.1
def y_said (u : SY) : (Nat → Int32) := u.2.2.2.2.2.2.2.2.2.2.2.2.2.2.2.2.1
def y_when (u : SY) : (Nat → Int64) := u.2.2.2.2.2.2.2.2.2.2.2.2.2.2.2.2.2.1
def y_over (u : SY) : (Nat → Int32) := u.2.2.2.2.2.2.2.2.2.2.2.2.2.2.2.2.2.2.1
def y_part (u : SY) : (Nat → Int32) := u.2.2.2.2.2.2.2.2.2.2.2.2.2.2.2.2.2.2.2.1
def y_first (u : SY) : (Nat → Int32) := u.2.2.2.2.2.2.2.2.2.2.2.2.2.2.2.2.2.2.2.2.1
def y_second (u : SY) : (Nat → Int32) := u.2.2.2.2.2.2.2.2.2.2.2.2.2.2.2.2.2.2.2.2.2.1
def y_user (u : SY) : (Nat → Int32) := u.2.2.2.2.2.2.2.2.2.2.2.2.2.2.2.2.2.2.2.2.2.2.1
def y_goStage (u : SY) : (Nat → Int32) := u.2.2.2.2.2.2.2.2.2.2.2.2.2.2.2.2.2.2.2.2.2.2.2.1
def y_goStep (u : SY) : (Nat → Int32) := u.2.2.2.2.2.2.2.2.2.2.2.2.2.2.2.2.2.2.2.2.2.2.2.2.1
def y_done (u : SY) : (Nat → Int32) := u.2.2.2.2.2.2.2.2.2.2.2.2.2.2.2.2.2.2.2.2.2.2.2.2.2.1
def y_val (u : SY) : (Nat → Int32) := u.2.2.2.2.2.2.2.2.2.2.2.2.2.2.2.2.2.2.2.2.2.2.2.2.2.2.1
def y_mom (u : SY) : (Nat → Int64) := u.2.2.2.2.2.2.2.2.2.2.2.2.2.2.2.2.2.2.2.2.2.2.2.2.2.2.2.1
def y_cnt (u : SY) : (Nat → Int32) := u.2.2.2.2.2.2.2.2.2.2.2.2.2.2.2.2.2.2.2.2.2.2.2.2.2.2.2.2.1
def y_end (u : SY) : (Nat → Int32) := u.2.2.2.2.2.2.2.2.2.2.2.2.2.2.2.2.2.2.2.2.2.2.2.2.2.2.2.2.2.1
def y_endMom (u : SY) : (Nat → Int64) := u.2.2.2.2.2.2.2.2.2.2.2.2.2.2.2.2.2.2.2.2.2.2.2.2.2.2.2.2.2.2.1
def y_begun (u : SY) : (Nat → Int32) := u.2.2.2.2.2.2.2.2.2.2.2.2.2.2.2.2.2.2.2.2.2.2.2.2.2.2.2.2.2.2.2.1
def y_status (u : SY) : (Nat → Int32) := u.2.2.2.2.2.2.2.2.2.2.2.2.2.2.2.2.2.2.2.2.2.2.2.2.2.2.2.2.2.2.2.2.1
def y_stageOf (u : SY) : (Nat → Int32) := u.2.2.2.2.2.2.2.2.2.2.2.2.2.2.2.2.2.2.2.2.2.2.2.2.2.2.2.2.2.2.2.2.2.1
def y_began (u : SY) : (Nat → Int64) := u.2.2.2.2.2.2.2.2.2.2.2.2.2.2.2.2.2.2.2.2.2.2.2.2.2.2.2.2.2.2.2.2.2.2.1
def y_taken (u : SY) : (Nat → Int32) := u.2.2.2.2.2.2.2.2.2.2.2.2.2.2.2.2.2.2.2.2.2.2.2.2.2.2.2.2.2.2.2.2.2.2.2.1
def y_demand (u : SY) : (Nat → Int64) := u.2.2.2.2.2.2.2.2.2.2.2.2.2.2.2.2.2.2.2.2.2.2.2.2.2.2.2.2.2.2.2.2.2.2.2.2.1
def y_asked (u : SY) : (Nat → Int32) := u.2.2.2.2.2.2.2.2.2.2.2.2.2.2.2.2.2.2.2.2.2.2.2.2.2.2.2.2.2.2.2.2.2.2.2.2.2.1
def y_code (u : SY) : (Nat → Int32) := u.2.2.2.2.2.2.2.2.2.2.2.2.2.2.2.2.2.2.2.2.2.2.2.2.2.2.2.2.2.2.2.2.2.2.2.2.2.2.1
def y_waits (u : SY) : (Nat → Int32) := u.2.2.2.2.2.2.2.2.2.2.2.2.2.2.2.2.2.2.2.2.2.2.2.2.2.2.2.2.2.2.2.2.2.2.2.2.2.2.2.1
def y_waiting (u : SY) : (Nat → Int32) := u.2.2.2.2.2.2.2.2.2.2.2.2.2.2.2.2.2.2.2.2.2.2.2.2.2.2.2.2.2.2.2.2.2.2.2.2.2.2.2.2.1
def y_came (u : SY) : (Nat → Int32) := u.2.2.2.2.2.2.2.2.2.2.2.2.2.2.2.2.2.2.2.2.2.2.2.2.2.2.2.2.2.2.2.2.2.2.2.2.2.2.2.2.2.1
def y_given (u : SY) : (Nat → Int32) := u.2.2.2.2.2.2.2.2.2.2.2.2.2.2.2.2.2.2.2.2.2.2.2.2.2.2.2.2.2.2.2.2.2.2.2.2.2.2.2.2.2.2.1
def y_got (u : SY) : (Nat → Int64) := u.2.2.2.2.2.2.2.2.2.2.2.2.2.2.2.2.2.2.2.2.2.2.2.2.2.2.2.2.2.2.2.2.2.2.2.2.2.2.2.2.2.2.2
def evs (L : List (Int32 × Nat)) (z : Option (Int32 × Nat)) : List Ev := L.map (fun x => (1, x.1, x.2)) ++ (match z with | none => [] | some w => [(if w.1 = 0 then 2 else 3, w.1, w.2)])
def zok (z : Option (Int32 × Nat)) : Prop := ∀ w, z = some w → w.2 < 1000000000000000 ∧ ∃ j : Nat, j ≤ 9 ∧ w.1 = nI j
def YA (va : Nat → Int32) (mm : Nat → Int64) (cn en : Nat → Int32) (em : Nat → Int64) (q : Nat) (L : List (Int32 × Nat)) (z : Option (Int32 × Nat)) : Prop :=
  cn q = nI L.length ∧ L.length ≤ 255 ∧ (∀ i x, L[i]? = some x → va (256 * q + i) = x.1 ∧ mm (256 * q + i) = lN x.2 ∧ x.2 < 1000000000000000) ∧ zok z ∧ (z = none → en q = -1) ∧ (∀ w, z = some w → en q = w.1 ∧ em q = lN w.2)
/-- the other parts' streams stay -/
def YF (p : Nat) (va : Nat → Int32) (mm : Nat → Int64) (cn en : Nat → Int32) (em : Nat → Int64) (va' : Nat → Int32) (mm' : Nat → Int64) (cn' en' : Nat → Int32) (em' : Nat → Int64) : Prop :=
  ∀ q, q ≠ p → ∀ L z, YA va mm cn en em q L z → YA va' mm' cn' en' em' q L z
theorem yb_idx {L : List (Int32 × Nat)} {i : Nat} {x : Int32 × Nat} (h : L[i]? = some x) : i < L.length := by
  rcases Nat.lt_or_ge i L.length with z | z
  · exact z
  · rw [List.getElem?_eq_none z] at h; exact absurd h (by simp)
theorem yb_frame {p : Nat} {va va' : Nat → Int32} {mm mm' : Nat → Int64} {cn en cn' en' : Nat → Int32} {em em' : Nat → Int64} (h1 : ∀ q, q ≠ p → cn' q = cn q ∧ en' q = en q ∧ em' q = em q) (h2 : ∀ q, q ≠ p → ∀ i, i < 256 → va' (256 * q + i) = va (256 * q + i) ∧ mm' (256 * q + i) = mm (256 * q + i)) : YF p va mm cn en em va' mm' cn' en' em' := by
  intro q hq L z h
  obtain ⟨a1, a2, a3, a4, a5, a6⟩ := h
  obtain ⟨b1, b2, b3⟩ := h1 q hq
  refine ⟨b1.trans a1, a2, fun i x hx => ?_, a4, fun hz => b2.trans (a5 hz), fun w hw => ⟨b2.trans (a6 w hw).1, b3.trans (a6 w hw).2⟩⟩
  have hi := yb_idx hx
  have hh := h2 q hq i (by omega)
  have ha := a3 i x hx
  exact ⟨hh.1.trans ha.1, hh.2.trans ha.2.1, ha.2.2⟩
theorem yb_refl {p : Nat} {va : Nat → Int32} {mm : Nat → Int64} {cn en : Nat → Int32} {em : Nat → Int64} : YF p va mm cn en em va mm cn en em := fun _ _ _ _ h => h
theorem yb_trans {p : Nat} {va va' va2 : Nat → Int32} {mm mm' mm2 : Nat → Int64} {cn en cn' en' cn2 en2 : Nat → Int32} {em em' em2 : Nat → Int64} (h1 : YF p va mm cn en em va' mm' cn' en' em') (h2 : YF p va' mm' cn' en' em' va2 mm2 cn2 en2 em2) : YF p va mm cn en em va2 mm2 cn2 en2 em2 := fun q hq L z h => h2 q hq L z (h1 q hq L z h)
theorem yb_m1 {z : Option (Int32 × Nat)} (h : zok z) {en : Int32} (h1 : z = none → en = -1) (h2 : ∀ w, z = some w → en = w.1) : (en < 0 ↔ z = none) ∧ (0 ≤ en ↔ z ≠ none) ∧ (en = 0 ↔ ∃ m, z = some (0, m)) := by
  cases z with
  | none =>
    rw [h1 rfl]
    exact ⟨⟨fun _ => rfl, fun _ => by decide⟩, ⟨fun y => absurd y (by decide), fun y => absurd rfl y⟩, ⟨fun y => absurd y (by decide), fun ⟨m, y⟩ => by simp at y⟩⟩
  | some w =>
    obtain ⟨hm, j, hj, ej⟩ := h w rfl
    rw [h2 w rfl, ej]
    refine ⟨⟨fun y => absurd y (nI_pos (by omega)), fun y => by simp at y⟩, ⟨fun _ => by simp, fun _ => nI_pos' (by omega)⟩, ?_⟩
    constructor
    · intro y
      refine ⟨w.2, ?_⟩
      have : w.1 = 0 := by rw [ej]; exact y
      rw [← this]
    · rintro ⟨m, y⟩
      have y' : w = (0, m) := by simpa using y
      rw [← ej, y']
theorem yb_if {c d A B : Prop} (e : c ↔ d) (f : d → A) (g : ¬ d → B) : (c → A) ∧ (¬ c → B) := ⟨fun h => f (e.mp h), fun h => g (fun y => h (e.mpr y))⟩
section
variable {f_stages : Int32} {f_heard : Int32} {f_now : Int32} {f_calls : Int64} {f_parts : Int32} {f_start : Int64} {f_at : Int32} {f_nextX : Int32} {f_nextY : Int32} {f_x : Int32} {f_y : Int32} {a_kind : (Nat → Int32)} {a_opA : (Nat → Int32)} {a_opB : (Nat → Int32)} {a_heardBy : (Nat → Int32)} {a_what : (Nat → Int32)} {a_said : (Nat → Int32)} {a_when : (Nat → Int64)} {a_over : (Nat → Int32)} {a_part : (Nat → Int32)} {a_first : (Nat → Int32)} {a_second : (Nat → Int32)} {a_user : (Nat → Int32)} {a_goStage : (Nat → Int32)} {a_goStep : (Nat → Int32)} {a_done : (Nat → Int32)} {a_val : (Nat → Int32)} {a_mom : (Nat → Int64)} {a_cnt : (Nat → Int32)} {a_end : (Nat → Int32)} {a_endMom : (Nat → Int64)} {a_begun : (Nat → Int32)} {a_status : (Nat → Int32)} {a_stageOf : (Nat → Int32)} {a_began : (Nat → Int64)} {a_taken : (Nat → Int32)} {a_demand : (Nat → Int64)} {a_asked : (Nat → Int32)} {a_code : (Nat → Int32)} {a_waits : (Nat → Int32)} {a_waiting : (Nat → Int32)} {a_came : (Nat → Int32)} {a_given : (Nat → Int32)} {a_got : (Nat → Int64)}
theorem yw_put {post : SY → Prop} {p t m : Nat} {v : Int32} {L : List (Int32 × Nat)} (hp : p < 9) (hat : f_at = nI p) (hnow : f_now = nI t) (ht : t ≤ 200) (hm : m < 1000000000000000) (hY : YA a_val a_mom a_cnt a_end a_endMom p L none) (hl : L.length < 255)
    (H1 : tim m ≤ t → ∀ va mm cn, YA va mm cn a_end a_endMom p (L ++ [(v, m)]) none → YF p a_val a_mom a_cnt a_end a_endMom va mm cn a_end a_endMom → post (f_stages, f_heard, f_now, f_calls, f_parts, f_start, f_at, f_nextX, f_nextY, f_x, f_y, a_kind, a_opA, a_opB, a_heardBy, a_what, a_said, a_when, a_over, a_part, a_first, a_second, a_user, a_goStage, a_goStep, a_done, va, mm, cn, a_end, a_endMom, a_begun, a_status, a_stageOf, a_began, a_taken, a_demand, a_asked, a_code, a_waits, a_waiting, a_came, a_given, a_got))
    (H2 : ¬ tim m ≤ t → post (f_stages, f_heard, f_now, f_calls, f_parts, f_start, f_at, f_nextX, f_nextY, f_x, f_y, a_kind, a_opA, a_opB, a_heardBy, a_what, a_said, a_when, a_over, a_part, a_first, a_second, a_user, a_goStage, a_goStep, a_done, a_val, a_mom, a_cnt, a_end, a_endMom, a_begun, a_status, a_stageOf, a_began, a_taken, a_demand, a_asked, a_code, a_waits, a_waiting, a_came, a_given, a_got)) : wpY_put post (f_stages, f_heard, f_now, f_calls, f_parts, f_start, f_at, f_nextX, f_nextY, f_x, f_y, a_kind, a_opA, a_opB, a_heardBy, a_what, a_said, a_when, a_over, a_part, a_first, a_second, a_user, a_goStage, a_goStep, a_done, a_val, a_mom, a_cnt, a_end, a_endMom, a_begun, a_status, a_stageOf, a_began, a_taken, a_demand, a_asked, a_code, a_waits, a_waiting, a_came, a_given, a_got) v (lN m) := by
  obtain ⟨a1, a2, a3, a4, a5, a6⟩ := hY
  have hcl : f_at.toNatClampNeg = p := by rw [hat]; exact nI_clamp (by omega)
  have hin : vp_in f_at 9 := by rw [hat]; exact vp_in_nI hp (by decide)
  have a1' : a_cnt f_at.toNatClampNeg = nI L.length := by rw [hcl]; exact a1
  have hti : tim m < 1000 := by unfold tim; omega
  have ei : 256 * f_at + a_cnt f_at.toNatClampNeg = nI (256 * p + L.length) := by
    rw [a1', hat, show (256 : Int32) = nI 256 from rfl, pk_mul, nI_add]
  have hii : vp_in (256 * f_at + a_cnt f_at.toNatClampNeg) 2304 := by rw [ei]; exact vp_in_nI (by omega) (by decide)
  have hci : (256 * f_at + a_cnt f_at.toNatClampNeg).toNatClampNeg = 256 * p + L.length := by rw [ei]; exact nI_clamp (by omega)
  have hle : ((lN m) >>> ((41 : Int32).toInt64 &&& 63)).toInt32 ≤ f_now ↔ tim m ≤ t := by rw [ts_time (by omega), hnow, nI_leI (by omega) (by omega)]
  refine yb_if hle (fun h => ⟨hin, hii, nm_r (e' := upd a_val (256 * p + L.length) v) (by rw [hci]) ⟨hin, hin, nm_r (e' := upd a_cnt p (nI (L.length + 1))) (by rw [a1', hcl, nI_1]) ⟨hii, nm_r (e' := vp_updL a_mom (256 * p + L.length) (lN m)) (by rw [hci]) ?_⟩⟩⟩) H2
  refine H1 h _ _ _ ⟨?_, by simp; omega, fun i x hx => ?_, a4, a5, a6⟩ (yb_frame (fun q hq => ⟨pk_un hq, rfl, rfl⟩) (fun q hq i hi => ⟨pk_un (by omega), pk_uLn (by omega)⟩))
  · rw [pk_us]; simp
  · have hi := yb_idx hx
    rw [List.length_append, List.length_singleton] at hi
    by_cases e : i = L.length
    · subst e
      rw [List.getElem?_concat_length] at hx
      cases hx
      exact ⟨pk_us, pk_uLs, hm⟩
    · rw [List.getElem?_append_left (by omega)] at hx
      rw [pk_un (by omega), pk_uLn (by omega)]
      exact a3 i x hx
theorem yw_stop {post : SY → Prop} {p t m j : Nat} {v : Int32} {L : List (Int32 × Nat)} (hp : p < 9) (hat : f_at = nI p) (hnow : f_now = nI t) (ht : t ≤ 200) (hm : m < 1000000000000000) (hj : j ≤ 9) (hv : v = nI j) (hY : YA a_val a_mom a_cnt a_end a_endMom p L none)
    (H1 : tim m ≤ t → ∀ en em, YA a_val a_mom a_cnt en em p L (some (v, m)) → YF p a_val a_mom a_cnt a_end a_endMom a_val a_mom a_cnt en em → post (f_stages, f_heard, f_now, f_calls, f_parts, f_start, f_at, f_nextX, f_nextY, f_x, f_y, a_kind, a_opA, a_opB, a_heardBy, a_what, a_said, a_when, a_over, a_part, a_first, a_second, a_user, a_goStage, a_goStep, a_done, a_val, a_mom, a_cnt, en, em, a_begun, a_status, a_stageOf, a_began, a_taken, a_demand, a_asked, a_code, a_waits, a_waiting, a_came, a_given, a_got))
    (H2 : ¬ tim m ≤ t → post (f_stages, f_heard, f_now, f_calls, f_parts, f_start, f_at, f_nextX, f_nextY, f_x, f_y, a_kind, a_opA, a_opB, a_heardBy, a_what, a_said, a_when, a_over, a_part, a_first, a_second, a_user, a_goStage, a_goStep, a_done, a_val, a_mom, a_cnt, a_end, a_endMom, a_begun, a_status, a_stageOf, a_began, a_taken, a_demand, a_asked, a_code, a_waits, a_waiting, a_came, a_given, a_got)) : wpY_stop post (f_stages, f_heard, f_now, f_calls, f_parts, f_start, f_at, f_nextX, f_nextY, f_x, f_y, a_kind, a_opA, a_opB, a_heardBy, a_what, a_said, a_when, a_over, a_part, a_first, a_second, a_user, a_goStage, a_goStep, a_done, a_val, a_mom, a_cnt, a_end, a_endMom, a_begun, a_status, a_stageOf, a_began, a_taken, a_demand, a_asked, a_code, a_waits, a_waiting, a_came, a_given, a_got) v (lN m) := by
  obtain ⟨a1, a2, a3, a4, a5, a6⟩ := hY
  have hcl : f_at.toNatClampNeg = p := by rw [hat]; exact nI_clamp (by omega)
  have hin : vp_in f_at 9 := by rw [hat]; exact vp_in_nI hp (by decide)
  have hti : tim m < 1000 := by unfold tim; omega
  have hle : ((lN m) >>> ((41 : Int32).toInt64 &&& 63)).toInt32 ≤ f_now ↔ tim m ≤ t := by rw [ts_time (by omega), hnow, nI_leI (by omega) (by omega)]
  refine yb_if hle (fun h => ⟨hin, nm_r (e' := upd a_end p v) (by rw [hcl]) ⟨hin, nm_r (e' := vp_updL a_endMom p (lN m)) (by rw [hcl]) ?_⟩⟩) H2
  refine H1 h _ _ ⟨a1, a2, a3, fun w hw => ?_, fun y => by simp at y, fun w hw => ?_⟩ (yb_frame (fun q hq => ⟨rfl, pk_un hq, pk_uLn hq⟩) (fun q hq i hi => ⟨rfl, rfl⟩))
  · cases hw; exact ⟨hm, j, hj, hv⟩
  · cases hw; exact ⟨pk_us, pk_uLs⟩
theorem yw_of {post : Int64 → Prop} {q i : Nat} {L : List (Int32 × Nat)} {z : Option (Int32 × Nat)} {x : Int32 × Nat} (hq : q < 9) (hY : YA a_val a_mom a_cnt a_end a_endMom q L z) (hx : L[i]? = some x) (H : post (lN x.2)) : wpY_of post (f_stages, f_heard, f_now, f_calls, f_parts, f_start, f_at, f_nextX, f_nextY, f_x, f_y, a_kind, a_opA, a_opB, a_heardBy, a_what, a_said, a_when, a_over, a_part, a_first, a_second, a_user, a_goStage, a_goStep, a_done, a_val, a_mom, a_cnt, a_end, a_endMom, a_begun, a_status, a_stageOf, a_began, a_taken, a_demand, a_asked, a_code, a_waits, a_waiting, a_came, a_given, a_got) (nI q) (nI i) := by
  have hi := yb_idx hx
  have ha := hY.2.2.1 i x hx
  have hl := hY.2.1
  have e : 256 * nI q + nI i = nI (256 * q + i) := by rw [show (256 : Int32) = nI 256 from rfl, pk_mul, nI_add]
  have hc : (256 * nI q + nI i).toNatClampNeg = 256 * q + i := by rw [e]; exact nI_clamp (by omega)
  refine ⟨by rw [e]; exact vp_in_nI (by omega) (by decide), ?_⟩
  rw [hc, ha.2.1]
  exact H
theorem yw_word {post : Int32 → Prop} {q i : Nat} {L : List (Int32 × Nat)} {z : Option (Int32 × Nat)} {x : Int32 × Nat} (hq : q < 9) (hY : YA a_val a_mom a_cnt a_end a_endMom q L z) (hx : L[i]? = some x) (H : post x.1) : wpY_word post (f_stages, f_heard, f_now, f_calls, f_parts, f_start, f_at, f_nextX, f_nextY, f_x, f_y, a_kind, a_opA, a_opB, a_heardBy, a_what, a_said, a_when, a_over, a_part, a_first, a_second, a_user, a_goStage, a_goStep, a_done, a_val, a_mom, a_cnt, a_end, a_endMom, a_begun, a_status, a_stageOf, a_began, a_taken, a_demand, a_asked, a_code, a_waits, a_waiting, a_came, a_given, a_got) (nI q) (nI i) := by
  have hi := yb_idx hx
  have ha := hY.2.2.1 i x hx
  have hl := hY.2.1
  have e : 256 * nI q + nI i = nI (256 * q + i) := by rw [show (256 : Int32) = nI 256 from rfl, pk_mul, nI_add]
  have hc : (256 * nI q + nI i).toNatClampNeg = 256 * q + i := by rw [e]; exact nI_clamp (by omega)
  refine ⟨by rw [e]; exact vp_in_nI (by omega) (by decide), ?_⟩
  rw [hc, ha.1]
  exact H
theorem yw_later {post : Int64 → Prop} {p m b : Nat} (hp : p < 9) (hat : f_at = nI p) (hm : m < 1000000000000000) (hb : b ≤ 1000) (H : post (lN (tm (tim m + b) p))) : wpY_later post (f_stages, f_heard, f_now, f_calls, f_parts, f_start, f_at, f_nextX, f_nextY, f_x, f_y, a_kind, a_opA, a_opB, a_heardBy, a_what, a_said, a_when, a_over, a_part, a_first, a_second, a_user, a_goStage, a_goStep, a_done, a_val, a_mom, a_cnt, a_end, a_endMom, a_begun, a_status, a_stageOf, a_began, a_taken, a_demand, a_asked, a_code, a_waits, a_waiting, a_came, a_given, a_got) (lN m) (nI b) := by
  have hti : tim m < 1000 := by unfold tim; omega
  show post (((((((((lN m) >>> ((41 : Int32).toInt64 &&& 63)).toInt32 + nI b).toInt64) <<< ((41 : Int32).toInt64 &&& 63)) ||| (0 <<< ((40 : Int32).toInt64 &&& 63))) ||| (f_at.toInt64 <<< ((8 : Int32).toInt64 &&& 63))) ||| 0))
  rw [ts_time (by omega), nI_add, nI_l (by omega), hat, nI_l (by omega)]
  have := ts_mo (t := tim m + b) (ph := 0) (nu := p) (by omega) (by decide) (by omega)
  rw [show lN 0 = (0 : Int64) from by decide] at this
  rw [this, ← tm_mo]
  exact H
end
