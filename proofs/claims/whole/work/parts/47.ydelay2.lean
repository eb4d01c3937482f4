/-! ===== the reference: delay ===== -/
theorem yk_lolen {bn c : Nat} {P : List (Int32 × Nat)} : (dlo bn c P).length ≤ P.length := List.length_filter_le _ _
def cw (p bn m : Nat) (P : List (Int32 × Nat)) : Nat := (P.filter (fun x => decide (m < tm (due bn x) p))).length
theorem yk_take {L : List (Int32 × Nat)} {i : Nat} {x : Int32 × Nat} (h : L[i]? = some x) : L.take (i + 1) = L.take i ++ [x] := by
  rw [List.take_add_one, h]; rfl
theorem yk_cw {p bn m : Nat} {P : List (Int32 × Nat)} (hp : p < 9) (hb : 1 ≤ bn) (hf : ∀ x ∈ P, m ≠ tm (due bn x) p) : cw p bn m P = (dhi bn (ckm p m) P).length := by
  unfold cw dhi
  congr 1
  refine List.filter_congr (fun x hx => ?_)
  have h := yt_lt (p := p) (m := m) (T := due bn x) hp (by unfold due; omega) (hf x hx)
  refine decide_eq_decide.mpr ⟨fun y => ?_, fun y => ?_⟩
  · rcases Nat.lt_or_ge (ckm p m) (due bn x) with w | w
    · exact w
    · have := h.mpr w; omega
  · rcases Nat.lt_or_ge m (tm (due bn x) p) with w | w
    · exact w
    · exfalso
      have h3 : tm (due bn x) p < m := Nat.lt_of_le_of_ne w (fun z => hf x hx z.symm)
      have := h.mp h3
      omega
section
variable {f_stages : Int32} {f_heard : Int32} {f_now : Int32} {f_calls : Int64} {f_parts : Int32} {f_start : Int64} {f_at : Int32} {f_nextX : Int32} {f_nextY : Int32} {f_x : Int32} {f_y : Int32} {a_kind : (Nat → Int32)} {a_opA : (Nat → Int32)} {a_opB : (Nat → Int32)} {a_heardBy : (Nat → Int32)} {a_what : (Nat → Int32)} {a_said : (Nat → Int32)} {a_when : (Nat → Int64)} {a_over : (Nat → Int32)} {a_part : (Nat → Int32)} {a_first : (Nat → Int32)} {a_second : (Nat → Int32)} {a_user : (Nat → Int32)} {a_goStage : (Nat → Int32)} {a_goStep : (Nat → Int32)} {a_done : (Nat → Int32)} {a_val : (Nat → Int32)} {a_mom : (Nat → Int64)} {a_cnt : (Nat → Int32)} {a_end : (Nat → Int32)} {a_endMom : (Nat → Int64)} {a_begun : (Nat → Int32)} {a_status : (Nat → Int32)} {a_stageOf : (Nat → Int32)} {a_began : (Nat → Int64)} {a_taken : (Nat → Int32)} {a_demand : (Nat → Int64)} {a_asked : (Nat → Int32)} {a_code : (Nat → Int32)} {a_waits : (Nat → Int32)} {a_waiting : (Nat → Int32)} {a_came : (Nat → Int32)} {a_given : (Nat → Int32)} {a_got : (Nat → Int64)}
theorem yk_err {post : SY → Prop} {p t m j : Nat} {v : Int32} {A : List (Int32 × Nat)} (hp : p < 9) (hat : f_at = nI p) (hnow : f_now = nI t) (ht : t ≤ 200) (hm : m < 1000000000000000) (hmt : tim m ≤ t) (hj : j ≤ 9) (hv : v = nI j) (hA : ∀ x ∈ A, x.2 ≤ m) {va : Nat → Int32} {mm : Nat → Int64}
    (K : ∀ cn en em, YA va mm cn en em p A (some (v, m)) → YF p a_val a_mom a_cnt a_end a_endMom va mm cn en em → post (f_stages, f_heard, f_now, f_calls, f_parts, f_start, f_at, f_nextX, f_nextY, f_x, f_y, a_kind, a_opA, a_opB, a_heardBy, a_what, a_said, a_when, a_over, a_part, a_first, a_second, a_user, a_goStage, a_goStep, a_done, va, mm, cn, en, em, a_begun, a_status, a_stageOf, a_began, a_taken, a_demand, a_asked, a_code, a_waits, a_waiting, a_came, a_given, a_got)) :
    ∀ (e : Nat) (B : List (Int32 × Nat)) (cn : Nat → Int32), B.length = e → (∀ x ∈ B, m < x.2) → YA va mm cn a_end a_endMom p (A ++ B) none → YF p a_val a_mom a_cnt a_end a_endMom va mm cn a_end a_endMom → wY_error_0 post v (lN m) f_stages f_heard f_now f_calls f_parts f_start f_at f_nextX f_nextY f_x f_y (e + 1) a_kind a_opA a_opB a_heardBy a_what a_said a_when a_over a_part a_first a_second a_user a_goStage a_goStep a_done (va) (mm) (cn) a_end a_endMom a_begun a_status a_stageOf a_began a_taken a_demand a_asked a_code a_waits a_waiting a_came a_given a_got := by
  have hcl : f_at.toNatClampNeg = p := by rw [hat]; exact nI_clamp (by omega)
  have hin : vp_in f_at 9 := by rw [hat]; exact vp_in_nI hp (by decide)
  intro e
  induction e with
  | zero =>
    intro B cn hB hBm hY hF
    have hB0 : B = [] := List.length_eq_zero_iff.mp hB
    subst hB0
    rw [List.append_nil] at hY
    have h58 : wY_error_58 post v (lN m) f_stages f_heard f_now f_calls f_parts f_start f_at f_nextX f_nextY f_x f_y a_kind a_opA a_opB a_heardBy a_what a_said a_when a_over a_part a_first a_second a_user a_goStage a_goStep a_done (va) (mm) (cn) a_end a_endMom a_begun a_status a_stageOf a_began a_taken a_demand a_asked a_code a_waits a_waiting a_came a_given a_got := yw_stop hp hat hnow ht hm hj hv hY (fun _ en em k1 k2 => K cn en em k1 (yb_trans hF k2)) (fun w => absurd hmt w)
    refine ⟨hin, ?_⟩
    rw [hcl, hY.1]
    have hl := hY.2.1
    rcases Nat.eq_zero_or_pos A.length with y | y
    · exact br_t (by rw [y]; decide) h58
    · obtain ⟨x, hx⟩ : ∃ x, A[A.length - 1]? = some x := ⟨_, List.getElem?_eq_getElem (by omega)⟩
      have hxa := hY.2.2.1 _ x hx
      have ei : 256 * f_at + nI A.length - 1 = nI (256 * p + (A.length - 1)) := by
        rw [hat, show (256 : Int32) = nI 256 from rfl, pk_mul, nI_add, show (1 : Int32) = nI 1 from rfl, pk_sub (by omega)]; congr 1; omega
      have hci : (256 * f_at + nI A.length - 1).toNatClampNeg = 256 * p + (A.length - 1) := by rw [ei]; exact nI_clamp (by omega)
      refine br_f (nI_nle y (by omega)) ⟨hin, by rw [ei]; exact vp_in_nI (by omega) (by decide), br_t ?_ h58⟩
      rw [hci, hxa.2.1]
      exact (pk_lLE (by omega) (by omega)).mpr (hA x (List.mem_of_getElem? hx))
  | succ e ih =>
    intro B cn hB hBm hY hF
    obtain ⟨B', x, rfl⟩ : ∃ B' x, B = B' ++ [x] := ⟨B.dropLast, B.getLast (by intro z; rw [z] at hB; simp at hB), (List.dropLast_concat_getLast _).symm⟩
    have hB' : B'.length = e := by simpa using hB
    have hl := hY.2.1
    have hlen : (A ++ (B' ++ [x])).length = A.length + B'.length + 1 := by simp; omega
    rw [hlen] at hl
    have hxg : (A ++ (B' ++ [x]))[A.length + B'.length]? = some x := by
      rw [← List.append_assoc, show A.length + B'.length = (A ++ B').length from by simp]
      exact List.getElem?_concat_length
    have hxa := hY.2.2.1 _ x hxg
    have hc1 : cn f_at.toNatClampNeg = nI (A.length + B'.length + 1) := by rw [hcl, hY.1, hlen]
    have ei : 256 * f_at + cn f_at.toNatClampNeg - 1 = nI (256 * p + (A.length + B'.length)) := by
      rw [hc1, hat, show (256 : Int32) = nI 256 from rfl, pk_mul, nI_add, show (1 : Int32) = nI 1 from rfl, pk_sub (by omega)]; congr 1
    have hci : (256 * f_at + cn f_at.toNatClampNeg - 1).toNatClampNeg = 256 * p + (A.length + B'.length) := by rw [ei]; exact nI_clamp (by omega)
    have hxm : m < x.2 := hBm x (by simp)
    refine ⟨hin, br_f (by rw [hc1]; exact nI_nle (by omega) (by omega)) ⟨hin, by rw [ei]; exact vp_in_nI (by omega) (by decide), br_f ?_ ⟨hin, hin, nm_r (e' := upd cn p (nI (A.length + B'.length))) (by rw [hc1, hcl, nI_pred]) ?_⟩⟩⟩
    · rw [hci, hxa.2.1]
      intro w
      have := (pk_lLE (by omega) (by omega)).mp w
      omega
    · have hY2 : YA va mm (upd cn p (nI (A.length + B'.length))) a_end a_endMom p (A ++ B') none := by
        refine ⟨by rw [pk_us]; simp, by simp; omega, fun i y hy => ?_, hY.2.2.2.1, hY.2.2.2.2.1, hY.2.2.2.2.2⟩
        have hi := yb_idx hy
        refine hY.2.2.1 i y ?_
        rw [← List.append_assoc, List.getElem?_append_left hi]
        exact hy
      exact ih B' _ hB' (fun y hy => hBm y (List.mem_append.mpr (Or.inl hy))) hY2 (yb_trans hF (yb_frame (fun q hq => ⟨pk_un hq, rfl, rfl⟩) (fun q hq i hi => ⟨rfl, rfl⟩)))
theorem yk_error {post : SY → Prop} {p t m j : Nat} {v : Int32} {A B : List (Int32 × Nat)} (hp : p < 9) (hat : f_at = nI p) (hnow : f_now = nI t) (ht : t ≤ 200) (hm : m < 1000000000000000) (hmt : tim m ≤ t) (hj : j ≤ 9) (hv : v = nI j) (hA : ∀ x ∈ A, x.2 ≤ m) (hB : ∀ x ∈ B, m < x.2) (hY : YA a_val a_mom a_cnt a_end a_endMom p (A ++ B) none)
    (K : ∀ cn en em, YA a_val a_mom cn en em p A (some (v, m)) → YF p a_val a_mom a_cnt a_end a_endMom a_val a_mom cn en em → post (f_stages, f_heard, f_now, f_calls, f_parts, f_start, f_at, f_nextX, f_nextY, f_x, f_y, a_kind, a_opA, a_opB, a_heardBy, a_what, a_said, a_when, a_over, a_part, a_first, a_second, a_user, a_goStage, a_goStep, a_done, a_val, a_mom, cn, en, em, a_begun, a_status, a_stageOf, a_began, a_taken, a_demand, a_asked, a_code, a_waits, a_waiting, a_came, a_given, a_got)) : wpY_error post (f_stages, f_heard, f_now, f_calls, f_parts, f_start, f_at, f_nextX, f_nextY, f_x, f_y, a_kind, a_opA, a_opB, a_heardBy, a_what, a_said, a_when, a_over, a_part, a_first, a_second, a_user, a_goStage, a_goStep, a_done, a_val, a_mom, a_cnt, a_end, a_endMom, a_begun, a_status, a_stageOf, a_began, a_taken, a_demand, a_asked, a_code, a_waits, a_waiting, a_came, a_given, a_got) v (lN m) :=
  ⟨B.length + 1, yk_err hp hat hnow ht hm hmt hj hv hA (va := a_val) (mm := a_mom) K B.length B a_cnt rfl hB hY yb_refl⟩
/-- counting those that wait -/
theorem yk_cnt {post : SY → Prop} {J : Int32 → Int32 → Int32 → Int32 → Int64 → Int32 → Int64 → Int32 → Int32 → Int32 → Int32 → Int32 → (Nat → Int32) → (Nat → Int32) → (Nat → Int32) → (Nat → Int32) → (Nat → Int32) → (Nat → Int32) → (Nat → Int64) → (Nat → Int32) → (Nat → Int32) → (Nat → Int32) → (Nat → Int32) → (Nat → Int32) → (Nat → Int32) → (Nat → Int32) → (Nat → Int32) → (Nat → Int32) → (Nat → Int64) → (Nat → Int32) → (Nat → Int32) → (Nat → Int64) → (Nat → Int32) → (Nat → Int32) → (Nat → Int32) → (Nat → Int64) → (Nat → Int32) → (Nat → Int64) → (Nat → Int32) → (Nat → Int32) → (Nat → Int32) → (Nat → Int32) → (Nat → Int32) → (Nat → Int32) → (Nat → Int64) → Prop} {p xq i m : Nat} {b : Int32} {L : List (Int32 × Nat)} {z : Option (Int32 × Nat)} (hp : p < 9) (hat : f_at = nI p) (hxq : xq < 9) (hfx : f_x = nI xq) (hb : b = nI (cl b)) (hb30 : cl b ≤ 30) (hm : m < 1000000000000000) (hx : YA a_val a_mom a_cnt a_end a_endMom xq L z) (htL : ∀ x ∈ L, tim x.2 ≤ 200) (hi : i < L.length)
    (H1 : cw p (cl b) m (L.take i) < 8 → wpY_word (fun r_192 => (wpY_later (fun r_237 => (wpY_put (fun u => match u with | (f_stages, f_heard, f_now, f_calls, f_parts, f_start, f_at, f_nextX, f_nextY, f_x, f_y, a_kind, a_opA, a_opB, a_heardBy, a_what, a_said, a_when, a_over, a_part, a_first, a_second, a_user, a_goStage, a_goStep, a_done, a_val, a_mom, a_cnt, a_end, a_endMom, a_begun, a_status, a_stageOf, a_began, a_taken, a_demand, a_asked, a_code, a_waits, a_waiting, a_came, a_given, a_got) => (∀ x : Int32, x = nI i + 1 → J x f_stages f_heard f_now f_calls f_parts f_start f_at f_nextX f_nextY f_x f_y a_kind a_opA a_opB a_heardBy a_what a_said a_when a_over a_part a_first a_second a_user a_goStage a_goStep a_done a_val a_mom a_cnt a_end a_endMom a_begun a_status a_stageOf a_began a_taken a_demand a_asked a_code a_waits a_waiting a_came a_given a_got)) (f_stages, f_heard, f_now, f_calls, f_parts, f_start, f_at, f_nextX, f_nextY, f_x, f_y, a_kind, a_opA, a_opB, a_heardBy, a_what, a_said, a_when, a_over, a_part, a_first, a_second, a_user, a_goStage, a_goStep, a_done, a_val, a_mom, a_cnt, a_end, a_endMom, a_begun, a_status, a_stageOf, a_began, a_taken, a_demand, a_asked, a_code, a_waits, a_waiting, a_came, a_given, a_got) r_192 r_237)) (f_stages, f_heard, f_now, f_calls, f_parts, f_start, f_at, f_nextX, f_nextY, f_x, f_y, a_kind, a_opA, a_opB, a_heardBy, a_what, a_said, a_when, a_over, a_part, a_first, a_second, a_user, a_goStage, a_goStep, a_done, a_val, a_mom, a_cnt, a_end, a_endMom, a_begun, a_status, a_stageOf, a_began, a_taken, a_demand, a_asked, a_code, a_waits, a_waiting, a_came, a_given, a_got) (lN m) b)) (f_stages, f_heard, f_now, f_calls, f_parts, f_start, f_at, f_nextX, f_nextY, f_x, f_y, a_kind, a_opA, a_opB, a_heardBy, a_what, a_said, a_when, a_over, a_part, a_first, a_second, a_user, a_goStage, a_goStep, a_done, a_val, a_mom, a_cnt, a_end, a_endMom, a_begun, a_status, a_stageOf, a_began, a_taken, a_demand, a_asked, a_code, a_waits, a_waiting, a_came, a_given, a_got) f_x (nI i))
    (H2 : ¬ cw p (cl b) m (L.take i) < 8 → wpY_error (fun u => match u with | (f_stages, f_heard, f_now, f_calls, f_parts, f_start, f_at, f_nextX, f_nextY, f_x, f_y, a_kind, a_opA, a_opB, a_heardBy, a_what, a_said, a_when, a_over, a_part, a_first, a_second, a_user, a_goStage, a_goStep, a_done, a_val, a_mom, a_cnt, a_end, a_endMom, a_begun, a_status, a_stageOf, a_began, a_taken, a_demand, a_asked, a_code, a_waits, a_waiting, a_came, a_given, a_got) => post (f_stages, f_heard, f_now, f_calls, f_parts, f_start, f_at, f_nextX, f_nextY, f_x, f_y, a_kind, a_opA, a_opB, a_heardBy, a_what, a_said, a_when, a_over, a_part, a_first, a_second, a_user, a_goStage, a_goStep, a_done, a_val, a_mom, a_cnt, a_end, a_endMom, a_begun, a_status, a_stageOf, a_began, a_taken, a_demand, a_asked, a_code, a_waits, a_waiting, a_came, a_given, a_got)) (f_stages, f_heard, f_now, f_calls, f_parts, f_start, f_at, f_nextX, f_nextY, f_x, f_y, a_kind, a_opA, a_opB, a_heardBy, a_what, a_said, a_when, a_over, a_part, a_first, a_second, a_user, a_goStage, a_goStep, a_done, a_val, a_mom, a_cnt, a_end, a_endMom, a_begun, a_status, a_stageOf, a_began, a_taken, a_demand, a_asked, a_code, a_waits, a_waiting, a_came, a_given, a_got) 8 (lN m)) :
    ∀ (e j : Nat), j + e = i → wY_delay_31 post J b (nI i) (lN m) f_stages f_heard f_now f_calls f_parts f_start f_at f_nextX f_nextY f_x f_y a_kind a_opA a_opB a_heardBy a_what a_said a_when a_over a_part a_first a_second a_user a_goStage a_goStep a_done a_val a_mom a_cnt a_end a_endMom a_begun a_status a_stageOf a_began a_taken a_demand a_asked a_code a_waits a_waiting a_came a_given a_got (e + 1) (nI (cw p (cl b) m (L.take j))) (nI j) := by
  have hl := hx.2.1
  have hcwl : ∀ j, cw p (cl b) m (L.take j) ≤ j := fun j => Nat.le_trans (List.length_filter_le _ _) (by rw [List.length_take]; omega)
  intro e
  induction e with
  | zero =>
    intro j hj
    have : j = i := by omega
    subst this
    have hcj := hcwl j
    refine br_t (nI_le (Nat.le_refl _) (by omega)) ?_
    by_cases h8 : cw p (cl b) m (L.take j) < 8
    · exact br_t (nI_lt (b := 8) h8 (by decide)) (H1 h8)
    · exact br_f (nI_nlt (b := 8) (by omega) (by omega)) (H2 h8)
  | succ e ih =>
    intro j hj
    obtain ⟨x, hxj⟩ : ∃ x, L[j]? = some x := ⟨_, List.getElem?_eq_getElem (by omega)⟩
    have hxm := (hx.2.2.1 j x hxj).2.2
    have hxt := htL x (List.mem_of_getElem? hxj)
    have hdm : tm (due (cl b) x) p < 1000000000000000 := by unfold tm due; omega
    have hih := ih (j + 1) (by omega)
    rw [yk_take hxj] at hih
    refine br_f (nI_ge (by omega) (by omega)) ?_
    rw [hfx]
    refine yw_of (f_x := nI xq) hxq hx hxj ?_
    rw [← hfx]
    refine yt_later hb hp hat hxm (by omega) ?_
    by_cases hle : tm (tim x.2 + cl b) p ≤ m
    · have e1 : cw p (cl b) m (L.take j ++ [x]) = cw p (cl b) m (L.take j) := by
        unfold cw
        rw [List.filter_append, List.filter_cons_of_neg (by unfold due; simp; omega)]
        simp
      rw [e1] at hih
      exact br_t ((pk_lLE (by unfold due at hdm; omega) (by omega)).mpr hle) (nm_r (nI_1 j) hih)
    · have e1 : cw p (cl b) m (L.take j ++ [x]) = cw p (cl b) m (L.take j) + 1 := by
        unfold cw
        rw [List.filter_append, List.filter_cons_of_pos (by unfold due; simp; omega)]
        simp
      rw [e1] at hih
      exact br_f (fun w => hle ((pk_lLE (by unfold due at hdm; omega) (by omega)).mp w)) (nm_r (nI_1 _) (nm_r (nI_1 j) hih))
end
