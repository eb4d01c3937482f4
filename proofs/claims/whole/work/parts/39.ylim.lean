/-! ===== the reference: limit, quiet ===== -/
theorem yt_app (p c0 : Nat) : ∀ D2 D1 : Nat, tms p c0 (D1 + D2) = tms p c0 D1 ++ tms p (c0 + D1) D2 := by
  intro D2
  induction D2 with
  | zero => intro D1; simp [tms]
  | succ D2 ih =>
    intro D1
    rw [show D1 + (D2 + 1) = (D1 + D2) + 1 from rfl, tp_tms, ih, tp_tms, List.append_assoc, show c0 + (D1 + D2) + 1 = c0 + D1 + D2 + 1 from by omega]
theorem yt_same {p c0 k : Nat} {a b : Int32} {S : PSt} {O : List Ev} (hp : p < 9) : ∀ D : Nat, (∀ T, c0 < T → T ≤ c0 + D → fi k a b T S = (S, [])) → (tms p c0 D).foldl (stp k a b) (S, O) = (S, O) := by
  intro D
  induction D with
  | zero => intro _; rfl
  | succ D ih =>
    intro h
    rw [tp_tms, tp_foldl_snoc, ih (fun T h1 h2 => h T h1 (by omega))]
    rcases Bool.eq_false_or_eq_true (fin O) with y | y
    · exact rn_stp_fin y
    · rw [rn_stp_go y]
      have e : rsp k a b S (2, 0, 0, tm (c0 + D + 1) p) = (S, []) := by
        show (if (2 : Nat) = 2 then fi k a b (tim (tm (c0 + D + 1) p)) S else _) = _
        rw [if_pos rfl, tim_tm hp]
        exact h _ (by omega) (by omega)
      rw [e]
      simp [ems]
theorem yt_one {p c0 k T D : Nat} {a b : Int32} {S S' : PSt} {o : Otp} {O : List Ev} (hp : p < 9) (hO : fin O = false) (h1 : c0 < T) (h2 : T ≤ c0 + D) (hq : ∀ T', c0 < T' → T' < T → fi k a b T' S = (S, [])) (hT : fi k a b T S = (S', o)) : (tms p c0 D).foldl (stp k a b) (S, O) = (tms p T (c0 + D - T)).foldl (stp k a b) (S', O ++ ems (tm T p) o) := by
  have e : (T - 1 - c0) + (1 + (c0 + D - T)) = D := by omega
  have h3 : tms p (T - 1) 1 = [(2, 0, 0, tm T p)] := by
    show [] ++ [(2, 0, 0, tm (T - 1 + 0 + 1) p)] = _
    rw [show T - 1 + 0 + 1 = T from by omega]
    rfl
  have e2 : tms p c0 D = tms p c0 (T - 1 - c0) ++ ([(2, 0, 0, tm T p)] ++ tms p T (c0 + D - T)) := by
    have e4 := yt_app p c0 (1 + (c0 + D - T)) (T - 1 - c0)
    rw [yt_app p _ (c0 + D - T) 1, e, show c0 + (T - 1 - c0) = T - 1 from by omega, h3, show T - 1 + 1 = T from by omega] at e4
    exact e4
  rw [e2, List.foldl_append, yt_same hp _ (fun T' h3 h4 => hq T' h3 (by omega)), List.foldl_append]
  congr 1
  show stp k a b (S, O) (2, 0, 0, tm T p) = _
  rw [rn_stp_go hO]
  have e3 : rsp k a b S (2, 0, 0, tm T p) = (S', o) := by
    show (if (2 : Nat) = 2 then fi k a b (tim (tm T p)) S else _) = _
    rw [if_pos rfl, tim_tm hp, hT]
  rw [e3]
theorem yt_arith (n z p m : Nat) (hp : p < 9) (h : (n + 1) * z ≤ m) (hz : 2304 ≤ z) : n * z + p * 256 ≤ m := by
  rw [Nat.add_mul, Nat.one_mul] at h
  omega
theorem yt_ck {p m : Nat} (hp : p < 9) : tm (ckm p m) p ≤ m ∨ tim m = 0 := by
  unfold ckm
  have h1 : tim m * 2199023255552 ≤ m := by unfold tim; omega
  by_cases h : m < tm (tim m) p
  · rw [if_pos h]
    rcases Nat.eq_zero_or_pos (tim m) with y | y
    · exact Or.inr y
    · left
      obtain ⟨n, hn⟩ : ∃ n, tim m = n + 1 := ⟨tim m - 1, by omega⟩
      rw [hn] at h1 ⊢
      exact yt_arith n 2199023255552 p m hp h1 (by decide)
  · rw [if_neg h]; left; exact Nat.not_lt.mp h
theorem yt_ck2 {p m : Nat} (hp : p < 9) : m < tm (ckm p m + 1) p := by
  unfold ckm
  have h2 : m < (tim m + 1) * 2199023255552 := by unfold tim; omega
  have h3 : (tim m + 1) * 2199023255552 ≤ tm (tim m + 1) p := by unfold tm; exact Nat.le_add_right _ _
  by_cases h : m < tm (tim m) p
  · rw [if_pos h]
    rcases Nat.eq_zero_or_pos (tim m) with y | y
    · rw [y] at h2 h3 ⊢
      exact Nat.lt_of_lt_of_le h2 h3
    · rw [show tim m - 1 + 1 = tim m from by omega]; exact h
  · rw [if_neg h]; exact Nat.lt_of_lt_of_le h2 h3
theorem yt_lt {p m T : Nat} (hp : p < 9) (hT : 1 ≤ T) (hne : m ≠ tm T p) : tm T p < m ↔ T ≤ ckm p m := by
  constructor
  · intro h
    rcases Nat.lt_or_ge (ckm p m) T with y | y
    · exfalso
      have h2 := yt_ck2 (m := m) hp
      have : tm (ckm p m + 1) p ≤ tm T p := by
        unfold tm
        exact Nat.add_le_add_right (Nat.mul_le_mul_right _ y) _
      omega
    · exact y
  · intro h
    rcases yt_ck (m := m) hp with y | y
    · have : tm T p ≤ tm (ckm p m) p := by
        unfold tm
        exact Nat.add_le_add_right (Nat.mul_le_mul_right _ h) _
      omega
    · exfalso
      have : ckm p m = 0 := by unfold ckm; split <;> omega
      omega
theorem yt_cktim {p m : Nat} : ckm p m ≤ tim m := by unfold ckm; split <;> omega
theorem yt_feedn (p c0 c : Nat) : feed p c0 [] c = tms p c0 (c - c0) := rfl
theorem yt_feedi (p c0 c : Nat) (x : Int32 × Nat) (r : List (Int32 × Nat)) (z : Option (Int32 × Nat)) : feed p c0 (evs (x :: r) z) c = tms p c0 (ckm p x.2 - c0) ++ (0, 1, x.1, x.2) :: feed p (ckm p x.2) (evs r z) c := rfl
theorem yt_feede (p c0 c : Nat) (v : Int32) (m : Nat) : feed p c0 (evs [] (some (v, m))) c = tms p c0 (ckm p m - c0) ++ (0, (if v = 0 then 2 else 3), v, m) :: tms p (ckm p m) (c - ckm p m) := rfl
theorem yt_finend (Lo : List (Int32 × Nat)) (v : Int32) (m : Nat) : fin (evs Lo (some (v, m))) = true := by
  rw [yo_end, rn_fin_app]
  by_cases h : v = 0
  · rw [if_pos h]; simp [fin]
  · rw [if_neg h]; simp [fin]
theorem yt_end {k : Nat} {a b : Int32} {S : PSt} {Lo : List (Int32 × Nat)} {v : Int32} {m : Nat} (h13 : 13 ≤ k) (h15 : k ≤ 15) : stp k a b (S, evs Lo none) (0, (if v = 0 then 2 else 3), v, m) = (S, evs Lo (some (v, m))) := by
  rw [rn_stp_go (yo_fin Lo), yo_end]
  obtain ⟨d, c, h, hy, f, fy, qx, q, ox, oy⟩ := S
  have hk : k = 13 ∨ k = 14 ∨ k = 15 := by omega
  by_cases h0 : v = 0
  · subst h0
    rcases hk with e | e | e <;> subst e <;> rfl
  · rw [if_neg h0]
    rcases hk with e | e | e <;> subst e <;> rfl
def FRa (p : Nat) (L : List (Int32 × Nat)) (z : Option (Int32 × Nat)) : Prop := (∀ x ∈ L, ∀ T, x.2 ≠ tm T p) ∧ (∀ w, z = some w → ∀ T, w.2 ≠ tm T p)
section
variable {f_stages : Int32} {f_heard : Int32} {f_now : Int32} {f_calls : Int64} {f_parts : Int32} {f_start : Int64} {f_at : Int32} {f_nextX : Int32} {f_nextY : Int32} {f_x : Int32} {f_y : Int32} {a_kind : (Nat → Int32)} {a_opA : (Nat → Int32)} {a_opB : (Nat → Int32)} {a_heardBy : (Nat → Int32)} {a_what : (Nat → Int32)} {a_said : (Nat → Int32)} {a_when : (Nat → Int64)} {a_over : (Nat → Int32)} {a_part : (Nat → Int32)} {a_first : (Nat → Int32)} {a_second : (Nat → Int32)} {a_user : (Nat → Int32)} {a_goStage : (Nat → Int32)} {a_goStep : (Nat → Int32)} {a_done : (Nat → Int32)} {a_val : (Nat → Int32)} {a_mom : (Nat → Int64)} {a_cnt : (Nat → Int32)} {a_end : (Nat → Int32)} {a_endMom : (Nat → Int64)} {a_begun : (Nat → Int32)} {a_status : (Nat → Int32)} {a_stageOf : (Nat → Int32)} {a_began : (Nat → Int64)} {a_taken : (Nat → Int32)} {a_demand : (Nat → Int64)} {a_asked : (Nat → Int32)} {a_code : (Nat → Int32)} {a_waits : (Nat → Int32)} {a_waiting : (Nat → Int32)} {a_came : (Nat → Int32)} {a_given : (Nat → Int32)} {a_got : (Nat → Int64)}
theorem yt_later {post : Int64 → Prop} {p m bn : Nat} {b : Int32} (hbe : b = nI bn) (hp : p < 9) (hat : f_at = nI p) (hm : m < 1000000000000000) (hb : bn ≤ 1000) (H : post (lN (tm (tim m + bn) p))) : wpY_later post (f_stages, f_heard, f_now, f_calls, f_parts, f_start, f_at, f_nextX, f_nextY, f_x, f_y, a_kind, a_opA, a_opB, a_heardBy, a_what, a_said, a_when, a_over, a_part, a_first, a_second, a_user, a_goStage, a_goStep, a_done, a_val, a_mom, a_cnt, a_end, a_endMom, a_begun, a_status, a_stageOf, a_began, a_taken, a_demand, a_asked, a_code, a_waits, a_waiting, a_came, a_given, a_got) (lN m) b := by
  subst hbe
  exact yw_later hp hat hm hb H
theorem yt_lim {post : SY → Prop} {p xq t : Nat} {a b : Int32} {L : List (Int32 × Nat)} {z : Option (Int32 × Nat)} {RES : List Ev} {cx : Nat} {h hy : Int32} {f fy qx ox oy : Bool} {q : List (Int32 × Nat)} (hp : p < 9) (hxq : xq < 9) (hpx : xq ≠ p) (hat : f_at = nI p) (hfx : f_x = nI xq) (hnow : f_now = nI t) (ht : t ≤ 200) (hL : ∀ x ∈ L, tim x.2 ≤ t) (hz : ∀ w, z = some w → tim w.2 ≤ t) (hL250 : L.length ≤ 250) (hb : 1 ≤ cl b ∧ cl b ≤ 30 ∧ b = nI (cl b)) (hfree : FRa p L z)
    (K : ∀ va mm cn en em L' z', YA va mm cn en em p L' z' → evs L' z' = RES → YF p a_val a_mom a_cnt a_end a_endMom va mm cn en em → L'.length ≤ L.length → post (f_stages, f_heard, f_now, f_calls, f_parts, f_start, f_at, f_nextX, f_nextY, f_x, f_y, a_kind, a_opA, a_opB, a_heardBy, a_what, a_said, a_when, a_over, a_part, a_first, a_second, a_user, a_goStage, a_goStep, a_done, va, mm, cn, en, em, a_begun, a_status, a_stageOf, a_began, a_taken, a_demand, a_asked, a_code, a_waits, a_waiting, a_came, a_given, a_got)) :
    ∀ (r : List (Int32 × Nat)) (i due c0 : Nat) (Lo : List (Int32 × Nat)) (va : Nat → Int32) (mm : Nat → Int64) (cn : Nat → Int32), L.drop i = r → i ≤ L.length → Lo.length ≤ i → c0 < due → c0 ≤ t → due ≤ 300 → YA va mm cn a_end a_endMom p Lo none → YA va mm cn a_end a_endMom xq L z → YF p a_val a_mom a_cnt a_end a_endMom va mm cn a_end a_endMom → RES = ((feed p c0 (evs r z) t).foldl (stp 15 a b) ((due, cx, h, hy, f, fy, qx, q, ox, oy), evs Lo none)).2 → wY_limit_11 post b (r.length + 1) (lN (tm due p)) (nI i) f_stages f_heard f_now f_calls f_parts f_start f_at f_nextX f_nextY f_x f_y a_kind a_opA a_opB a_heardBy a_what a_said a_when a_over a_part a_first a_second a_user a_goStage a_goStep a_done (va) (mm) (cn) a_end a_endMom a_begun a_status a_stageOf a_began a_taken a_demand a_asked a_code a_waits a_waiting a_came a_given a_got := by
  have hcl : f_x.toNatClampNeg = xq := by rw [hfx]; exact nI_clamp (by omega)
  have hin : vp_in f_x 9 := by rw [hfx]; exact vp_in_nI hxq (by decide)
  have fno : ∀ due T : Nat, T ≠ due → fi 15 a b T (due, cx, h, hy, f, fy, qx, q, ox, oy) = ((due, cx, h, hy, f, fy, qx, q, ox, oy), []) := fun due T hT => by
    have hne : ¬ due = T := fun y => hT y.symm
    simp only [fi, if_neg hne]
  have fyes : ∀ due : Nat, fi 15 a b due (due, cx, h, hy, f, fy, qx, q, ox, oy) = ((0, cx, h, hy, f, fy, qx, q, ox, oy), [(3, 9)]) := fun due => by simp only [fi, if_true]
  -- the timer strikes
  have strike : ∀ (due c0 D : Nat) (Lo : List (Int32 × Nat)) (rest : List Inp), c0 < due → due ≤ c0 + D → ((tms p c0 D ++ rest).foldl (stp 15 a b) ((due, cx, h, hy, f, fy, qx, q, ox, oy), evs Lo none)).2 = evs Lo (some (9, tm due p)) := by
    intro due c0 D Lo rest h1 h2
    rw [List.foldl_append, yt_one hp (yo_fin Lo) h1 h2 (fun T' h3 h4 => fno due T' (by omega)) (fyes due)]
    have hf : fin (evs Lo none ++ ems (tm due p) [(3, 9)]) = true := by rw [rn_fin_app]; simp [ems, fin]
    rw [rn_fold_fin (tms p due (c0 + D - due)) _ hf, rn_fold_fin rest _ hf, yo_end]
    rfl
  have pass : ∀ (due c0 D : Nat) (Lo : List (Int32 × Nat)), ¬ due ≤ c0 + D → c0 < due → (tms p c0 D).foldl (stp 15 a b) ((due, cx, h, hy, f, fy, qx, q, ox, oy), evs Lo none) = ((due, cx, h, hy, f, fy, qx, q, ox, oy), evs Lo none) := fun due c0 D Lo h1 h2 => yt_same hp D (fun T h3 h4 => fno due T (by omega))
  have stop9 : ∀ (due : Nat) (Lo : List (Int32 × Nat)) (va : Nat → Int32) (mm : Nat → Int64) (cn : Nat → Int32), due ≤ 300 → Lo.length ≤ L.length → YA va mm cn a_end a_endMom p Lo none → YF p a_val a_mom a_cnt a_end a_endMom va mm cn a_end a_endMom → (due ≤ t → evs Lo (some (9, tm due p)) = RES) → (¬ due ≤ t → evs Lo none = RES) → wpY_stop (fun u => match u with | (f_stages, f_heard, f_now, f_calls, f_parts, f_start, f_at, f_nextX, f_nextY, f_x, f_y, a_kind, a_opA, a_opB, a_heardBy, a_what, a_said, a_when, a_over, a_part, a_first, a_second, a_user, a_goStage, a_goStep, a_done, a_val, a_mom, a_cnt, a_end, a_endMom, a_begun, a_status, a_stageOf, a_began, a_taken, a_demand, a_asked, a_code, a_waits, a_waiting, a_came, a_given, a_got) => post (f_stages, f_heard, f_now, f_calls, f_parts, f_start, f_at, f_nextX, f_nextY, f_x, f_y, a_kind, a_opA, a_opB, a_heardBy, a_what, a_said, a_when, a_over, a_part, a_first, a_second, a_user, a_goStage, a_goStep, a_done, a_val, a_mom, a_cnt, a_end, a_endMom, a_begun, a_status, a_stageOf, a_began, a_taken, a_demand, a_asked, a_code, a_waits, a_waiting, a_came, a_given, a_got)) (f_stages, f_heard, f_now, f_calls, f_parts, f_start, f_at, f_nextX, f_nextY, f_x, f_y, a_kind, a_opA, a_opB, a_heardBy, a_what, a_said, a_when, a_over, a_part, a_first, a_second, a_user, a_goStage, a_goStep, a_done, va, mm, cn, a_end, a_endMom, a_begun, a_status, a_stageOf, a_began, a_taken, a_demand, a_asked, a_code, a_waits, a_waiting, a_came, a_given, a_got) 9 (lN (tm due p)) := by
    intro due Lo va mm cn h1 h2 hY hF h3 h4
    refine yw_stop (j := 9) hp hat hnow ht (by unfold tm; omega) (by decide) rfl hY (fun y en em k1 k2 => K va mm cn en em Lo _ k1 (h3 ?_) (yb_trans hF k2) h2) (fun y => K va mm cn a_end a_endMom Lo none hY (h4 ?_) hF h2)
    · rw [tim_tm hp] at y; exact y
    · rw [tim_tm hp] at y; exact y
  intro r
  induction r with
  | nil =>
    intro i due c0 Lo va mm cn hr hiL hLo hc0 hct hdue hY hx hF hT
    have hiL2 : L.length ≤ i := List.drop_eq_nil_iff.mp hr
    obtain ⟨b1, b2, b3⟩ := yb_m1 hx.2.2.2.1 hx.2.2.2.2.1 (fun w hw => (hx.2.2.2.2.2 w hw).1)
    refine ⟨hin, br_t (by rw [hcl, hx.1]; exact nI_le hiL2 (by omega)) ⟨hin, ?_⟩⟩
    cases z with
    | none =>
      refine br_t (by rw [hcl]; exact b1.mpr rfl) (stop9 due Lo va mm cn hdue (by omega) hY hF (fun y => ?_) (fun y => ?_))
      · rw [hT]
        have := strike due c0 (t - c0) Lo [] hc0 (by omega)
        rw [List.append_nil] at this
        exact this.symm
      · rw [hT, show feed p c0 (evs [] none) t = tms p c0 (t - c0) from rfl, pass due c0 (t - c0) Lo (by omega) hc0]
    | some w =>
      obtain ⟨v, m⟩ := w
      obtain ⟨hm1, j, hj, ej⟩ := hx.2.2.2.1 (v, m) rfl
      have hev0 := hx.2.2.2.2.2 (v, m) rfl
      have hmt := hz _ rfl
      have hmt' : tim m ≤ t := hmt
      have hlt := yt_lt (p := p) (m := m) (T := due) hp (by omega) (hfree.2 _ rfl due)
      have hckt := yt_cktim (p := p) (m := m)
      refine br_f (by rw [hcl]; exact fun y => by have := b1.mp y; simp at this) ⟨hin, ?_⟩
      have hem : a_endMom f_x.toNatClampNeg = lN m := by rw [hcl]; exact hev0.2
      have hev : a_end f_x.toNatClampNeg = v := by rw [hcl]; exact hev0.1
      rw [yt_feede] at hT
      by_cases hle : tm due p ≤ m
      · have hdk : due ≤ ckm p m := hlt.mp (Nat.lt_of_le_of_ne hle (fun y => hfree.2 _ rfl due y.symm))
        refine br_t (by rw [hem]; exact (pk_lLE (by unfold tm; omega) (by omega)).mpr hle) (stop9 due Lo va mm cn hdue (by omega) hY hF (fun y => ?_) (fun y => by omega))
        rw [hT]
        exact (strike due c0 _ Lo _ hc0 (by omega)).symm
      · have hdk : ¬ due ≤ ckm p m := fun y => hle (Nat.le_of_lt (hlt.mpr y))
        refine br_f (by rw [hem]; exact fun y => hle ((pk_lLE (by unfold tm; omega) (by omega)).mp y)) ⟨hin, hin, ?_⟩
        rw [hev, hem]
        refine yw_stop hp hat hnow ht hm1 hj ej hY (fun _ en em k1 k2 => K va mm cn en em Lo _ k1 ?_ (yb_trans hF k2) (by omega)) (fun y => absurd hmt y)
        rw [hT, List.foldl_append, pass due c0 _ Lo (by omega) hc0, List.foldl_cons, yt_end (by decide) (by decide), rn_fold_fin _ _ (yt_finend Lo v m)]
  | cons x r ih =>
    intro i due c0 Lo va mm cn hr hiL hLo hc0 hct hdue hY hx hF hT
    have hxi : L[i]? = some x := by rw [← List.head?_drop, hr]; rfl
    have hil := yb_idx hxi
    have hr' : L.drop (i + 1) = r := by rw [← List.drop_drop, hr]; rfl
    have hxmem := List.mem_of_getElem? hxi
    have hxt := hL x hxmem
    have hxm := (hx.2.2.1 i x hxi).2.2
    have hlt := yt_lt (p := p) (m := x.2) (T := due) hp (by omega) (hfree.1 x hxmem due)
    have hckt := yt_cktim (p := p) (m := x.2)
    rw [yt_feedi] at hT
    refine ⟨hin, br_f (by rw [hcl, hx.1]; exact nI_ge hil (by omega)) ?_⟩
    rw [hfx]
    refine yw_of (f_x := nI xq) hxq hx hxi ?_
    rw [← hfx]
    by_cases hle : x.2 ≤ tm due p
    · have hdk : ¬ due ≤ ckm p x.2 := fun y => by have := hlt.mpr y; omega
      refine br_t ((pk_lLE (by omega) (by unfold tm; omega)).mpr hle) ?_
      rw [hfx]
      refine yw_word (f_x := nI xq) hxq hx hxi (yw_of (f_x := nI xq) hxq hx hxi ?_)
      rw [← hfx]
      refine yw_put hp hat hnow ht hxm hY (by omega) (fun _ va2 mm2 cn2 g1 g2 => ?_) (fun y => absurd hxt y)
      rw [hfx]
      refine yw_of (f_x := nI xq) hxq (g2 xq hpx _ _ hx) hxi ?_
      rw [← hfx]
      refine yt_later hb.2.2 hp hat hxm (by omega) (nm_r (nI_1 i) ?_)
      refine ih (i + 1) (tim x.2 + cl b) (ckm p x.2) (Lo ++ [(x.1, x.2)]) va2 mm2 cn2 hr' (by omega) (by simp; omega) (by omega) (by omega) (by omega) g1 (g2 xq hpx _ _ hx) (yb_trans hF g2) ?_
      rw [hT, List.foldl_append, pass due c0 _ Lo (by omega) hc0, List.foldl_cons, yo_item, yo_snoc]
      rfl
    · have hdk : due ≤ ckm p x.2 := hlt.mp (by omega)
      refine br_f (fun y => hle ((pk_lLE (by omega) (by unfold tm; omega)).mp y)) (stop9 due Lo va mm cn hdue (by omega) hY hF (fun y => ?_) (fun y => by omega))
      rw [hT]
      exact (strike due c0 _ Lo _ hc0 (by omega)).symm
end
