/-! ===== the reference: sample ===== -/
theorem ys_tms {p c0 D T cx : Nat} {a b h hy : Int32} {f fy qx ox oy : Bool} {q : List (Int32 × Nat)} {O : List Ev} (hp : p < 9) (hd : c0 + D < T) : (tms p c0 D).foldl (stp 14 a b) ((T, cx, h, hy, f, fy, qx, q, ox, oy), O) = ((T, cx, h, hy, f, fy, qx, q, ox, oy), O) :=
  yt_same hp _ (fun U h3 h4 => by
    have hne : ¬ T = U := by omega
    simp only [fi, if_neg hne])
theorem ys_hear {a b : Int32} {d cx : Nat} {h hy : Int32} {f fy qx ox oy : Bool} {q : List (Int32 × Nat)} {Lo : List (Int32 × Nat)} {x : Int32 × Nat} : stp 14 a b ((d, cx, h, hy, f, fy, qx, q, ox, oy), evs Lo none) (0, 1, x.1, x.2) = ((d, cx, x.1, hy, true, fy, qx, q, ox, oy), evs Lo none) := by
  rw [yo_item]
  show ((d, cx, x.1, hy, true, fy, qx, q, ox, oy), evs Lo none ++ []) = _
  rw [List.append_nil]
def sap (p T : Nat) (f : Bool) (h : Int32) : List (Int32 × Nat) := if f = true then [(h, tm T p)] else []
theorem ys_fire1 {p c0 D T cx : Nat} {a b h hy : Int32} {f fy qx ox oy : Bool} {q : List (Int32 × Nat)} {Lo : List (Int32 × Nat)} (hp : p < 9) (h1 : c0 < T) (h2 : T ≤ c0 + D) : (tms p c0 D).foldl (stp 14 a b) ((T, cx, h, hy, f, fy, qx, q, ox, oy), evs Lo none) = (tms p T (c0 + D - T)).foldl (stp 14 a b) ((T + cl b, cx, h, hy, false, fy, qx, q, ox, oy), evs (Lo ++ sap p T f h) none) := by
  rw [yt_one (S' := (T + cl b, cx, h, hy, false, fy, qx, q, ox, oy)) (o := if f = true then [(1, h)] else []) hp (yo_fin Lo) h1 h2 (fun U h3 h4 => by
    have hne : ¬ T = U := by omega
    simp only [fi, if_neg hne]) (by simp only [fi, if_true])]
  congr 2
  unfold sap
  cases f
  · simp [ems]
  · simp [ems, evs]
/-- the due strikes before the next event -/
theorem ys_fire {p c0 t T cx : Nat} {a b h hy : Int32} {f fy qx ox oy : Bool} {q : List (Int32 × Nat)} {Lo r : List (Int32 × Nat)} {z : Option (Int32 × Nat)} (hp : p < 9) (h1 : c0 < T) (hr : ∀ x, r.head? = some x → T ≤ ckm p x.2) (hz : ∀ w, z = some w → T ≤ ckm p w.2) (ht : T ≤ t) : (feed p c0 (evs r z) t).foldl (stp 14 a b) ((T, cx, h, hy, f, fy, qx, q, ox, oy), evs Lo none) = (feed p T (evs r z) t).foldl (stp 14 a b) ((T + cl b, cx, h, hy, false, fy, qx, q, ox, oy), evs (Lo ++ sap p T f h) none) := by
  cases r with
  | nil =>
    cases z with
    | none =>
      show (tms p c0 (t - c0)).foldl _ _ = (tms p T (t - T)).foldl _ _
      rw [ys_fire1 hp h1 (by omega), show c0 + (t - c0) - T = t - T from by omega]
    | some w =>
      obtain ⟨v, m⟩ := w
      have hm : T ≤ ckm p m := hz _ rfl
      rw [yt_feede, yt_feede, List.foldl_append, List.foldl_append, ys_fire1 hp h1 (by omega), show c0 + (ckm p m - c0) - T = ckm p m - T from by omega]
  | cons x r =>
    have hm : T ≤ ckm p x.2 := hr _ rfl
    rw [yt_feedi, yt_feedi, List.foldl_append, List.foldl_append, ys_fire1 hp h1 (by omega), show c0 + (ckm p x.2 - c0) - T = ckm p x.2 - T from by omega]
/-- nothing strikes any more -/
theorem ys_over {p t T cx : Nat} {a b hy : Int32} {fy qx ox oy : Bool} {q : List (Int32 × Nat)} {Lo : List (Int32 × Nat)} {z : Option (Int32 × Nat)} (hp : p < 9) (hz : ∀ w, z = some w → ckm p w.2 < T) (ht : z = none → t < T) : ∀ (r : List (Int32 × Nat)) (c0 : Nat) (h : Int32) (f : Bool), c0 < T → (∀ x ∈ r, ckm p x.2 < T) → ((feed p c0 (evs r z) t).foldl (stp 14 a b) ((T, cx, h, hy, f, fy, qx, q, ox, oy), evs Lo none)).2 = evs Lo z := by
  intro r
  induction r with
  | nil =>
    intro c0 h f hc hr
    cases z with
    | none =>
      have := ht rfl
      rw [show feed p c0 (evs [] none) t = tms p c0 (t - c0) from rfl, ys_tms hp (by omega)]
    | some w =>
      obtain ⟨v, m⟩ := w
      have hm : ckm p m < T := hz _ rfl
      rw [yt_feede, List.foldl_append, ys_tms hp (by omega), List.foldl_cons, yt_end (by decide) (by decide), rn_fold_fin _ _ (yt_finend Lo v m)]
  | cons x r ih =>
    intro c0 h f hc hr
    have hm := hr x (by simp)
    rw [yt_feedi, List.foldl_append, ys_tms hp (by omega), List.foldl_cons, ys_hear]
    exact ih _ _ _ hm (fun y hy => hr y (by simp [hy]))
section
variable {f_stages : Int32} {f_heard : Int32} {f_now : Int32} {f_calls : Int64} {f_parts : Int32} {f_start : Int64} {f_at : Int32} {f_nextX : Int32} {f_nextY : Int32} {f_x : Int32} {f_y : Int32} {a_kind : (Nat → Int32)} {a_opA : (Nat → Int32)} {a_opB : (Nat → Int32)} {a_heardBy : (Nat → Int32)} {a_what : (Nat → Int32)} {a_said : (Nat → Int32)} {a_when : (Nat → Int64)} {a_over : (Nat → Int32)} {a_part : (Nat → Int32)} {a_first : (Nat → Int32)} {a_second : (Nat → Int32)} {a_user : (Nat → Int32)} {a_goStage : (Nat → Int32)} {a_goStep : (Nat → Int32)} {a_done : (Nat → Int32)} {a_val : (Nat → Int32)} {a_mom : (Nat → Int64)} {a_cnt : (Nat → Int32)} {a_end : (Nat → Int32)} {a_endMom : (Nat → Int64)} {a_begun : (Nat → Int32)} {a_status : (Nat → Int32)} {a_stageOf : (Nat → Int32)} {a_began : (Nat → Int64)} {a_taken : (Nat → Int32)} {a_demand : (Nat → Int64)} {a_asked : (Nat → Int32)} {a_code : (Nat → Int32)} {a_waits : (Nat → Int32)} {a_waiting : (Nat → Int32)} {a_came : (Nat → Int32)} {a_given : (Nat → Int32)} {a_got : (Nat → Int64)}
theorem ys_moment {post : Int64 → Prop} {p T : Nat} (hp : p < 9) (hat : f_at = nI p) (hT : T ≤ 1000) (H : post (lN (tm T p))) : wpY_moment post (f_stages, f_heard, f_now, f_calls, f_parts, f_start, f_at, f_nextX, f_nextY, f_x, f_y, a_kind, a_opA, a_opB, a_heardBy, a_what, a_said, a_when, a_over, a_part, a_first, a_second, a_user, a_goStage, a_goStep, a_done, a_val, a_mom, a_cnt, a_end, a_endMom, a_begun, a_status, a_stageOf, a_began, a_taken, a_demand, a_asked, a_code, a_waits, a_waiting, a_came, a_given, a_got) (nI T).toInt64 0 f_at.toInt64 0 := by
  show post ((((((nI T).toInt64) <<< ((41 : Int32).toInt64 &&& 63)) ||| (0 <<< ((40 : Int32).toInt64 &&& 63))) ||| (f_at.toInt64 <<< ((8 : Int32).toInt64 &&& 63))) ||| 0)
  rw [nI_l (by omega), hat, nI_l (by omega)]
  have := ts_mo (t := T) (ph := 0) (nu := p) (by omega) (by decide) (by omega)
  rw [show lN 0 = (0 : Int64) from by decide] at this
  rw [this, ← tm_mo]
  exact H
theorem ys_in {post : SY → Prop} {J : Int32 → Int32 → Int32 → Int32 → Int32 → Int64 → Int32 → Int64 → Int32 → Int32 → Int32 → Int32 → Int32 → (Nat → Int32) → (Nat → Int32) → (Nat → Int32) → (Nat → Int32) → (Nat → Int32) → (Nat → Int32) → (Nat → Int64) → (Nat → Int32) → (Nat → Int32) → (Nat → Int32) → (Nat → Int32) → (Nat → Int32) → (Nat → Int32) → (Nat → Int32) → (Nat → Int32) → (Nat → Int32) → (Nat → Int64) → (Nat → Int32) → (Nat → Int32) → (Nat → Int64) → (Nat → Int32) → (Nat → Int32) → (Nat → Int32) → (Nat → Int64) → (Nat → Int32) → (Nat → Int64) → (Nat → Int32) → (Nat → Int32) → (Nat → Int32) → (Nat → Int32) → (Nat → Int32) → (Nat → Int32) → (Nat → Int64) → Prop} {p xq t T old : Nat} {a b : Int32} {L Lo : List (Int32 × Nat)} {z : Option (Int32 × Nat)} {RES : List Ev} {cx : Nat} {hy : Int32} {fy qx ox oy : Bool} {q : List (Int32 × Nat)} (hp : p < 9) (hxq : xq < 9) (hpx : xq ≠ p) (hat : f_at = nI p) (hfx : f_x = nI xq) (hnow : f_now = nI t) (ht : t ≤ 200) (hL250 : L.length ≤ 250) (hb : 1 ≤ cl b ∧ cl b ≤ 30 ∧ b = nI (cl b)) (hfree : FRa p L z) (hTt : T ≤ t) (hT1 : 1 ≤ T) (hz : ∀ w, z = some w → T ≤ ckm p w.2) (hold : Lo.length ≤ old)
    (hY : YA a_val a_mom a_cnt a_end a_endMom p Lo none) (hx : YA a_val a_mom a_cnt a_end a_endMom xq L z)
    (K : ∀ (i : Nat) (h : Int32) (Lo' : List (Int32 × Nat)) va mm cn, i ≤ L.length → Lo'.length ≤ i → YA va mm cn a_end a_endMom p Lo' none → YF p a_val a_mom a_cnt a_end a_endMom va mm cn a_end a_endMom → RES = ((feed p T (evs (L.drop i) z) t).foldl (stp 14 a b) ((T + cl b, cx, h, hy, false, fy, qx, q, ox, oy), evs Lo' none)).2 → J (nI i) (nI (T + cl b)) f_stages f_heard f_now f_calls f_parts f_start f_at f_nextX f_nextY f_x f_y a_kind a_opA a_opB a_heardBy a_what a_said a_when a_over a_part a_first a_second a_user a_goStage a_goStep a_done (va) (mm) (cn) a_end a_endMom a_begun a_status a_stageOf a_began a_taken a_demand a_asked a_code a_waits a_waiting a_came a_given a_got) :
    ∀ (r : List (Int32 × Nat)) (i c1 : Nat) (h : Int32) (f : Bool), L.drop i = r → i ≤ L.length → old ≤ i → c1 < T → f = decide (old < i) → (old < i → ∃ m, L[i - 1]? = some (h, m)) → RES = ((feed p c1 (evs r z) t).foldl (stp 14 a b) ((T, cx, h, hy, f, fy, qx, q, ox, oy), evs Lo none)).2 → wY_sample_71 post J b (nI T) (lN (tm T p)) (nI old) f_stages f_heard f_now f_calls f_parts f_start f_at f_nextX f_nextY f_x f_y a_kind a_opA a_opB a_heardBy a_what a_said a_when a_over a_part a_first a_second a_user a_goStage a_goStep a_done a_val a_mom a_cnt a_end a_endMom a_begun a_status a_stageOf a_began a_taken a_demand a_asked a_code a_waits a_waiting a_came a_given a_got (r.length + 1) (nI i) := by
  have hcl : f_x.toNatClampNeg = xq := by rw [hfx]; exact nI_clamp (by omega)
  have hin : vp_in f_x 9 := by rw [hfx]; exact vp_in_nI hxq (by decide)
  have hTb : nI T + b = nI (T + cl b) := by rw [← nI_add, ← hb.2.2]
  have hleave : ∀ (r : List (Int32 × Nat)) (i c1 : Nat) (h : Int32) (f : Bool), L.drop i = r → i ≤ L.length → old ≤ i → c1 < T → f = decide (old < i) → (old < i → ∃ m, L[i - 1]? = some (h, m)) → (∀ x, r.head? = some x → T ≤ ckm p x.2) → RES = ((feed p c1 (evs r z) t).foldl (stp 14 a b) ((T, cx, h, hy, f, fy, qx, q, ox, oy), evs Lo none)).2 → wY_sample_107 post J b (nI i) (nI T) (lN (tm T p)) (nI old) f_stages f_heard f_now f_calls f_parts f_start f_at f_nextX f_nextY f_x f_y a_kind a_opA a_opB a_heardBy a_what a_said a_when a_over a_part a_first a_second a_user a_goStage a_goStep a_done a_val a_mom a_cnt a_end a_endMom a_begun a_status a_stageOf a_began a_taken a_demand a_asked a_code a_waits a_waiting a_came a_given a_got := by
    intro r i c1 h f hr hi1 hi2 hc1 hf hh hhd hT
    rw [ys_fire hp hc1 hhd hz hTt, ← hr] at hT
    by_cases ho : old < i
    · have hf1 : f = true := by rw [hf]; exact decide_eq_true ho
      obtain ⟨m, hm⟩ := hh ho
      subst hf1
      refine br_f (nI_ge ho (by omega)) ?_
      rw [hfx, show (1 : Int32) = nI 1 from rfl, pk_sub (by omega)]
      refine yw_word (f_x := nI xq) hxq hx hm ?_
      rw [← hfx]
      refine yw_put hp hat hnow ht (by unfold tm; omega) hY (by omega) (fun y va mm cn k1 k2 => nm_r hTb ?_) (fun y => absurd hTt (by rw [tim_tm hp] at y; exact y))
      exact K i h _ va mm cn hi1 (by simp; omega) k1 k2 hT
    · have hf1 : f = false := by rw [hf]; exact decide_eq_false ho
      subst hf1
      refine br_t (nI_le (by omega) (by omega)) (nm_r hTb ?_)
      have e : Lo ++ sap p T false h = Lo := List.append_nil Lo
      rw [e] at hT
      exact K i h Lo a_val a_mom a_cnt hi1 (by omega) hY yb_refl hT
  intro r
  induction r with
  | nil =>
    intro i c1 h f hr hi1 hi2 hc1 hf hh hT
    have hiL2 : L.length ≤ i := List.drop_eq_nil_iff.mp hr
    exact ⟨hin, br_t (by rw [hcl, hx.1]; exact nI_le hiL2 (by omega)) (hleave [] i c1 h f hr hi1 hi2 hc1 hf hh (fun x y => by simp at y) hT)⟩
  | cons x r ih =>
    intro i c1 h f hr hi1 hi2 hc1 hf hh hT
    have hxi : L[i]? = some x := by rw [← List.head?_drop, hr]; rfl
    have hil := yb_idx hxi
    have hr' : L.drop (i + 1) = r := by rw [← List.drop_drop, hr]; rfl
    have hxmem := List.mem_of_getElem? hxi
    have hxm := (hx.2.2.1 i x hxi).2.2
    have hlt := yt_lt (p := p) (m := x.2) (T := T) hp hT1 (hfree.1 x hxmem T)
    refine ⟨hin, br_f (by rw [hcl, hx.1]; exact nI_ge hil (by omega)) ?_⟩
    rw [hfx]
    refine yw_of (f_x := nI xq) hxq hx hxi ?_
    rw [← hfx]
    by_cases hle : tm T p ≤ x.2
    · have hdk : T ≤ ckm p x.2 := hlt.mp (Nat.lt_of_le_of_ne hle (fun w => hfree.1 x hxmem T w.symm))
      exact br_t ((pk_lLE (by unfold tm; omega) (by omega)).mpr hle) (hleave (x :: r) i c1 h f hr hi1 hi2 hc1 hf hh (fun y hy0 => by cases hy0; exact hdk) hT)
    · have hdk : ¬ T ≤ ckm p x.2 := fun w => hle (Nat.le_of_lt (hlt.mpr w))
      refine br_f (fun w => hle ((pk_lLE (by unfold tm; omega) (by omega)).mp w)) (nm_r (nI_1 i) ?_)
      refine ih (i + 1) (ckm p x.2) x.1 true hr' (by omega) (by omega) (by omega) (by rw [decide_eq_true (show old < i + 1 by omega)]) (fun _ => ⟨x.2, by rw [Nat.add_sub_cancel]; exact hxi⟩) ?_
      rw [hT, yt_feedi, List.foldl_append, ys_tms hp (by omega), List.foldl_cons, ys_hear]
theorem ys_loop {post : SY → Prop} {p xq t : Nat} {a b : Int32} {L : List (Int32 × Nat)} {z : Option (Int32 × Nat)} {RES : List Ev} {cx : Nat} {hy : Int32} {fy qx ox oy : Bool} {q : List (Int32 × Nat)} (hp : p < 9) (hxq : xq < 9) (hpx : xq ≠ p) (hat : f_at = nI p) (hfx : f_x = nI xq) (hnow : f_now = nI t) (ht : t ≤ 200) (hL : ∀ x ∈ L, tim x.2 ≤ t) (hz : ∀ w, z = some w → tim w.2 ≤ t) (hL250 : L.length ≤ 250) (hb : 1 ≤ cl b ∧ cl b ≤ 30 ∧ b = nI (cl b)) (hfree : FRa p L z) (hsrt : SRT L z)
    (K : ∀ va mm cn en em L' z', YA va mm cn en em p L' z' → evs L' z' = RES → YF p a_val a_mom a_cnt a_end a_endMom va mm cn en em → L'.length ≤ L.length → post (f_stages, f_heard, f_now, f_calls, f_parts, f_start, f_at, f_nextX, f_nextY, f_x, f_y, a_kind, a_opA, a_opB, a_heardBy, a_what, a_said, a_when, a_over, a_part, a_first, a_second, a_user, a_goStage, a_goStep, a_done, va, mm, cn, en, em, a_begun, a_status, a_stageOf, a_began, a_taken, a_demand, a_asked, a_code, a_waits, a_waiting, a_came, a_given, a_got)) :
    ∀ (D i T c1 : Nat) (h : Int32) (Lo : List (Int32 × Nat)) (va : Nat → Int32) (mm : Nat → Int64) (cn : Nat → Int32), t < T + D → i ≤ L.length → Lo.length ≤ i → c1 < T → T ≤ 300 → YA va mm cn a_end a_endMom p Lo none → YA va mm cn a_end a_endMom xq L z → YF p a_val a_mom a_cnt a_end a_endMom va mm cn a_end a_endMom → RES = ((feed p c1 (evs (L.drop i) z) t).foldl (stp 14 a b) ((T, cx, h, hy, false, fy, qx, q, ox, oy), evs Lo none)).2 → wY_sample_12 post b (D + 1) (nI i) (nI T) f_stages f_heard f_now f_calls f_parts f_start f_at f_nextX f_nextY f_x f_y a_kind a_opA a_opB a_heardBy a_what a_said a_when a_over a_part a_first a_second a_user a_goStage a_goStep a_done (va) (mm) (cn) a_end a_endMom a_begun a_status a_stageOf a_began a_taken a_demand a_asked a_code a_waits a_waiting a_came a_given a_got := by
  have hcl : f_x.toNatClampNeg = xq := by rw [hfx]; exact nI_clamp (by omega)
  have hin : vp_in f_x 9 := by rw [hfx]; exact vp_in_nI hxq (by decide)
  have over : ∀ (i T c1 : Nat) (h : Int32) (Lo : List (Int32 × Nat)) (va : Nat → Int32) (mm : Nat → Int64) (cn : Nat → Int32), i ≤ L.length → Lo.length ≤ i → c1 < T → (∀ x ∈ L, ckm p x.2 < T) → (∀ w, z = some w → ckm p w.2 < T) → (z = none → t < T) → YA va mm cn a_end a_endMom p Lo none → YA va mm cn a_end a_endMom xq L z → YF p a_val a_mom a_cnt a_end a_endMom va mm cn a_end a_endMom → RES = ((feed p c1 (evs (L.drop i) z) t).foldl (stp 14 a b) ((T, cx, h, hy, false, fy, qx, q, ox, oy), evs Lo none)).2 → wY_sample_141 post f_stages f_heard f_now f_calls f_parts f_start f_at f_nextX f_nextY f_x f_y a_kind a_opA a_opB a_heardBy a_what a_said a_when a_over a_part a_first a_second a_user a_goStage a_goStep a_done (va) (mm) (cn) a_end a_endMom a_begun a_status a_stageOf a_began a_taken a_demand a_asked a_code a_waits a_waiting a_came a_given a_got := by
    intro i T c1 h Lo va mm cn hiL hLo hc1 hLk hzk htk hY hx hF hT
    rw [ys_over hp hzk htk _ _ _ _ hc1 (fun x hx0 => hLk x (List.mem_of_mem_drop hx0))] at hT
    obtain ⟨b1, b2, b3⟩ := yb_m1 hx.2.2.2.1 hx.2.2.2.2.1 (fun w hw => (hx.2.2.2.2.2 w hw).1)
    refine ⟨hin, ?_⟩
    cases z with
    | none => exact br_t (by rw [hcl]; exact b1.mpr rfl) (K va mm cn a_end a_endMom Lo none hY hT.symm hF (by omega))
    | some w =>
      obtain ⟨v, m⟩ := w
      obtain ⟨hm1, j, hj, ej⟩ := hx.2.2.2.1 (v, m) rfl
      have hev0 := hx.2.2.2.2.2 (v, m) rfl
      refine br_f (by rw [hcl]; exact fun y => by have := b1.mp y; simp at this) ⟨hin, hin, ?_⟩
      rw [show a_end f_x.toNatClampNeg = v from by rw [hcl]; exact hev0.1, show a_endMom f_x.toNatClampNeg = lN m from by rw [hcl]; exact hev0.2]
      exact yw_stop hp hat hnow ht hm1 hj ej hY (fun _ en em h1 h2 => K va mm cn en em Lo (some (v, m)) h1 hT.symm (yb_trans hF h2) (by omega)) (fun y => absurd (hz _ rfl) y)
  intro D
  induction D with
  | zero =>
    intro i T c1 h Lo va mm cn hD hiL hLo hc1 hT3 hY hx hF hT
    refine br_t (by rw [hnow]; exact nI_lt (by omega) (by omega)) (over i T c1 h Lo va mm cn hiL hLo hc1 (fun x hx0 => ?_) (fun w hw => ?_) (fun _ => by omega) hY hx hF hT)
    · have := hL x hx0
      have := yt_cktim (p := p) (m := x.2)
      omega
    · have := hz w hw
      have := yt_cktim (p := p) (m := w.2)
      omega
  | succ D ih =>
    intro i T c1 h Lo va mm cn hD hiL hLo hc1 hT3 hY hx hF hT
    by_cases hTt : t < T
    · refine br_t (by rw [hnow]; exact nI_lt hTt (by omega)) (over i T c1 h Lo va mm cn hiL hLo hc1 (fun x hx0 => ?_) (fun w hw => ?_) (fun _ => by omega) hY hx hF hT)
      · have := hL x hx0
        have := yt_cktim (p := p) (m := x.2)
        omega
      · have := hz w hw
        have := yt_cktim (p := p) (m := w.2)
        omega
    · refine br_f (by rw [hnow]; exact fun w => hTt ((nI_ltI (by omega) (by omega)).mp w)) (ys_moment hp hat (by omega) ⟨hin, ?_⟩)
      obtain ⟨b1, b2, b3⟩ := yb_m1 hx.2.2.2.1 hx.2.2.2.2.1 (fun w hw => (hx.2.2.2.2.2 w hw).1)
      have inner : (∀ w, z = some w → T ≤ ckm p w.2) → ∃ n71 : Nat, wY_sample_71 post (wY_sample_12 post b (D + 1)) b (nI T) (lN (tm T p)) (nI i) f_stages f_heard f_now f_calls f_parts f_start f_at f_nextX f_nextY f_x f_y a_kind a_opA a_opB a_heardBy a_what a_said a_when a_over a_part a_first a_second a_user a_goStage a_goStep a_done (va) (mm) (cn) a_end a_endMom a_begun a_status a_stageOf a_began a_taken a_demand a_asked a_code a_waits a_waiting a_came a_given a_got n71 (nI i) := fun hzT =>
        ⟨(L.drop i).length + 1, ys_in (a_val := va) (a_mom := mm) (a_cnt := cn) (a := a) (cx := cx) (hy := hy) (fy := fy) (qx := qx) (ox := ox) (oy := oy) (q := q) (RES := RES) hp hxq hpx hat hfx hnow ht hL250 hb hfree (by omega) (by omega) hzT hLo hY hx (fun i' h' Lo' va' mm' cn' q1 q2 q3 q4 q5 => ih i' (T + cl b) T h' Lo' va' mm' cn' (by omega) q1 q2 (by omega) (by omega) q3 (q4 xq hpx _ _ hx) (yb_trans hF q4) q5) (L.drop i) i c1 h false rfl hiL (Nat.le_refl i) hc1 (by simp) (fun y => absurd y (Nat.lt_irrefl i)) hT⟩
      cases z with
      | none => exact br_t (by rw [hcl]; exact b1.mpr rfl) (inner (fun w hw => by simp at hw))
      | some w =>
        obtain ⟨v, m⟩ := w
        obtain ⟨hm1, j, hj, ej⟩ := hx.2.2.2.1 (v, m) rfl
        have hev0 := hx.2.2.2.2.2 (v, m) rfl
        have hem : a_endMom f_x.toNatClampNeg = lN m := by rw [hcl]; exact hev0.2
        have hlt := yt_lt (p := p) (m := m) (T := T) hp (by omega) (hfree.2 _ rfl _)
        refine br_f (by rw [hcl]; exact fun y => by have := b1.mp y; simp at this) ⟨hin, ?_⟩
        by_cases hle : tm T p ≤ m
        · have hdk : T ≤ ckm p m := hlt.mp (Nat.lt_of_le_of_ne hle (fun y => hfree.2 _ rfl _ y.symm))
          exact br_t (by rw [hem]; exact (pk_lLE (by unfold tm; omega) (by omega)).mpr hle) (inner (fun w hw => by cases hw; exact hdk))
        · have hdk : ¬ T ≤ ckm p m := fun y => hle (Nat.le_of_lt (hlt.mpr y))
          refine br_f (by rw [hem]; exact fun y => hle ((pk_lLE (by unfold tm; omega) (by omega)).mp y)) (over i T c1 h Lo va mm cn hiL hLo hc1 (fun x hx0 => ?_) (fun w hw => by cases hw; exact Nat.not_le.mp hdk) (fun y => by simp at y) hY hx hF hT)
          have := yk_ck (p := p) hp (hsrt.2 _ rfl x hx0)
          have e : ckm p (v, m).2 = ckm p m := rfl
          omega
end
