/-! ===== the reference: interval ===== -/
def ivl (p t0 aa n : Nat) : List (Int32 × Nat) := (List.range n).map (fun j => (nI j, tm (t0 + aa * (j + 1)) p))
theorem yi_snoc (p t0 aa n : Nat) : ivl p t0 aa (n + 1) = ivl p t0 aa n ++ [(nI n, tm (t0 + aa * (n + 1)) p)] := by
  unfold ivl; rw [List.range_succ, List.map_append]; rfl
theorem yi_len (p t0 aa n : Nat) : (ivl p t0 aa n).length = n := by unfold ivl; simp
theorem yi_mach {p c0 t0 : Nat} {a b : Int32} (hp : p < 9) (ha : 5 ≤ cl a) (hc0 : c0 ≤ t0) : ∀ d : Nat, ∃ n, (tms p c0 d).foldl (stp 1 a b) (ini 1 a b t0, []) = ((t0 + cl a * (n + 1), n, 0, 0, false, false, false, [], false, false), evs (ivl p t0 (cl a) n) none) ∧ (n = 0 ∨ t0 + cl a * n ≤ c0 + d) ∧ c0 + d < t0 + cl a * (n + 1) := by
  intro d
  induction d with
  | zero =>
    refine ⟨0, ?_, Or.inl rfl, by omega⟩
    show (ini 1 a b t0, []) = _
    simp [ini, evs, ivl]
  | succ d ih =>
    obtain ⟨n, h1, h2, h3⟩ := ih
    rw [tp_tms, tp_foldl_snoc, h1, rn_stp_go (yo_fin _)]
    have et : tim (tm (c0 + d + 1) p) = c0 + d + 1 := tim_tm hp
    have er : rsp 1 a b (t0 + cl a * (n + 1), n, 0, 0, false, false, false, [], false, false) (2, 0, 0, tm (c0 + d + 1) p) = fi 1 a b (c0 + d + 1) (t0 + cl a * (n + 1), n, 0, 0, false, false, false, [], false, false) := by
      show (if (2 : Nat) = 2 then fi 1 a b (tim (tm (c0 + d + 1) p)) _ else _) = _
      rw [if_pos rfl, et]
    dsimp only
    rw [er]
    by_cases hd : t0 + cl a * (n + 1) = c0 + d + 1
    · refine ⟨n + 1, ?_, Or.inr (by omega), ?_⟩
      · simp only [fi, if_pos hd]
        rw [yi_snoc, yo_snoc]
        have e2 : c0 + d + 1 + cl a = t0 + cl a * (n + 1 + 1) := by rw [Nat.mul_add (cl a) (n + 1) 1]; omega
        rw [e2, hd]
        rfl
      · rw [Nat.mul_add (cl a) (n + 1) 1]; omega
    · refine ⟨n, ?_, ?_, by omega⟩
      · simp only [fi, if_neg hd]
        simp [ems]
      · rcases h2 with y | y
        · exact Or.inl y
        · exact Or.inr (by omega)
section
variable {f_stages : Int32} {f_heard : Int32} {f_now : Int32} {f_calls : Int64} {f_parts : Int32} {f_start : Int64} {f_at : Int32} {f_nextX : Int32} {f_nextY : Int32} {f_x : Int32} {f_y : Int32} {a_kind : (Nat → Int32)} {a_opA : (Nat → Int32)} {a_opB : (Nat → Int32)} {a_heardBy : (Nat → Int32)} {a_what : (Nat → Int32)} {a_said : (Nat → Int32)} {a_when : (Nat → Int64)} {a_over : (Nat → Int32)} {a_part : (Nat → Int32)} {a_first : (Nat → Int32)} {a_second : (Nat → Int32)} {a_user : (Nat → Int32)} {a_goStage : (Nat → Int32)} {a_goStep : (Nat → Int32)} {a_done : (Nat → Int32)} {a_val : (Nat → Int32)} {a_mom : (Nat → Int64)} {a_cnt : (Nat → Int32)} {a_end : (Nat → Int32)} {a_endMom : (Nat → Int64)} {a_begun : (Nat → Int32)} {a_status : (Nat → Int32)} {a_stageOf : (Nat → Int32)} {a_began : (Nat → Int64)} {a_taken : (Nat → Int32)} {a_demand : (Nat → Int64)} {a_asked : (Nat → Int32)} {a_code : (Nat → Int32)} {a_waits : (Nat → Int32)} {a_waiting : (Nat → Int32)} {a_came : (Nat → Int32)} {a_given : (Nat → Int32)} {a_got : (Nat → Int64)}
theorem yi_loop {post : SY → Prop} {p t fr : Nat} {a : Int32} (hp : p < 9) (hat : f_at = nI p) (hnow : f_now = nI t) (ht : t ≤ 200) (hfr : fr < 1000000000000000) (hft : tim fr ≤ t) (ha : 5 ≤ cl a) (ha2 : cl a ≤ 50) (hai : a = nI (cl a))
    (K : ∀ va mm cn n, YA va mm cn a_end a_endMom p (ivl p (tim fr) (cl a) n) none → YF p a_val a_mom a_cnt a_end a_endMom va mm cn a_end a_endMom → (n = 0 ∨ tim fr + cl a * n ≤ t) → t < tim fr + cl a * (n + 1) → post (f_stages, f_heard, f_now, f_calls, f_parts, f_start, f_at, f_nextX, f_nextY, f_x, f_y, a_kind, a_opA, a_opB, a_heardBy, a_what, a_said, a_when, a_over, a_part, a_first, a_second, a_user, a_goStage, a_goStep, a_done, va, mm, cn, a_end, a_endMom, a_begun, a_status, a_stageOf, a_began, a_taken, a_demand, a_asked, a_code, a_waits, a_waiting, a_came, a_given, a_got)) :
    ∀ (e n : Nat) (va : Nat → Int32) (mm : Nat → Int64) (cn : Nat → Int32), n + e = 201 → (n = 0 ∨ tim fr + cl a * n ≤ t) → YA va mm cn a_end a_endMom p (ivl p (tim fr) (cl a) n) none → YF p a_val a_mom a_cnt a_end a_endMom va mm cn a_end a_endMom → wY_stream_137 post a (lN fr) (e + 1) (nI n) f_stages f_heard f_now f_calls f_parts f_start f_at f_nextX f_nextY f_x f_y a_kind a_opA a_opB a_heardBy a_what a_said a_when a_over a_part a_first a_second a_user a_goStage a_goStep a_done (va) (mm) (cn) a_end a_endMom a_begun a_status a_stageOf a_began a_taken a_demand a_asked a_code a_waits a_waiting a_came a_given a_got := by
  intro e
  induction e with
  | zero =>
    intro n va mm cn hn h2 hY hF
    exfalso
    rcases h2 with y | y
    · omega
    · have : 5 * n ≤ cl a * n := Nat.mul_le_mul_right _ ha
      omega
  | succ e ih =>
    intro n va mm cn hn h2 hY hF
    have hn41 : n ≤ 40 := by
      rcases h2 with y | y
      · omega
      · have : 5 * n ≤ cl a * n := Nat.mul_le_mul_right _ ha
        omega
    have hmb : cl a * (n + 1) ≤ 50 * (n + 1) := Nat.mul_le_mul_right _ ha2
    show (_ → _) ∧ (_ → _)
    have eb : a * (nI n + 1) = nI (cl a * (n + 1)) := by rw [nI_1]; rw (config := {occs := .pos [1]}) [hai]; rw [pk_mul]
    rw [ts_time (by omega), eb, nI_add, hnow]
    by_cases hlt : t < tim fr + cl a * (n + 1)
    · refine br_t (nI_lt hlt (by omega)) ?_
      rw [← hnow]
      exact K va mm cn n hY hF h2 hlt
    · refine br_f (nI_nlt (by omega) (by omega)) ?_
      rw [← hnow]
      refine yw_later hp hat hfr (by omega) ?_
      refine yw_put hp hat hnow ht (by unfold tm; omega) hY (by rw [yi_len]; omega) (fun _ va2 mm2 cn2 g1 g2 => nm_r (nI_1 n) ?_) (fun y => ?_)
      · rw [← yi_snoc] at g1
        exact ih (n + 1) va2 mm2 cn2 (by omega) (Or.inr (by omega)) g1 (yb_trans hF g2)
      · rw [tim_tm hp] at y
        omega
theorem yi_ivl {post : SY → Prop} {p t fr : Nat} {a b : Int32} {lg : List Lg} {Hx Hy : List Ev} (ho : opk 1 a b) (hp : p < 9) (hat : f_at = nI p) (hnow : f_now = nI t) (ht : t ≤ 200) (hfr : fr < 1000000000000000) (hft : tim fr ≤ t) (hck : ckm p fr ≤ t) (hY : YA a_val a_mom a_cnt a_end a_endMom p [] none)
    (K : ∀ va mm cn en em L' z', YA va mm cn en em p L' z' → evs L' z' = (RR 1 a b p fr lg t Hx Hy).2 → YF p a_val a_mom a_cnt a_end a_endMom va mm cn en em → L'.length ≤ 40 → post (f_stages, f_heard, f_now, f_calls, f_parts, f_start, f_at, f_nextX, f_nextY, f_x, f_y, a_kind, a_opA, a_opB, a_heardBy, a_what, a_said, a_when, a_over, a_part, a_first, a_second, a_user, a_goStage, a_goStep, a_done, va, mm, cn, en, em, a_begun, a_status, a_stageOf, a_began, a_taken, a_demand, a_asked, a_code, a_waits, a_waiting, a_came, a_given, a_got)) :
    ∃ n137 : Nat, wY_stream_137 post a (lN fr) n137 0 f_stages f_heard f_now f_calls f_parts f_start f_at f_nextX f_nextY f_x f_y a_kind a_opA a_opB a_heardBy a_what a_said a_when a_over a_part a_first a_second a_user a_goStage a_goStep a_done a_val a_mom a_cnt a_end a_endMom a_begun a_status a_stageOf a_began a_taken a_demand a_asked a_code a_waits a_waiting a_came a_given a_got := by
  have h1 := ho.2.2.1 rfl
  refine ⟨202, yi_loop hp hat hnow ht hfr hft h1.1 h1.2.1 h1.2.2 (fun va mm cn n g1 g2 g3 g4 => ?_) 201 0 a_val a_mom a_cnt rfl (Or.inl rfl) hY yb_refl⟩
  refine K va mm cn a_end a_endMom _ none g1 ?_ g2 ?_
  · have hc0 : ckm p fr ≤ tim fr := by unfold ckm; split <;> omega
    obtain ⟨n', m1, m2, m3⟩ := yi_mach (b := b) (c0 := ckm p fr) (t0 := tim fr) hp h1.1 hc0 (t - ckm p fr)
    rw [show ckm p fr + (t - ckm p fr) = t from by omega] at m2 m3
    have hnn : n' = n := by
      rcases Nat.lt_trichotomy n' n with y | y | y
      · exfalso
        have : cl a * (n' + 1) ≤ cl a * n := Nat.mul_le_mul_left _ y
        omega
      · exact y
      · exfalso
        have : cl a * (n + 1) ≤ cl a * n' := Nat.mul_le_mul_left _ y
        omega
    subst hnn
    unfold RR
    rw [if_neg (by decide), if_neg (by decide)]
    unfold inp
    rw [if_pos rfl, m1]
  · rw [yi_len]
    rcases g3 with y | y
    · omega
    · have : 5 * n ≤ cl a * n := Nat.mul_le_mul_right _ h1.1
      omega
end
