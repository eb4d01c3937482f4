/-! ===== the reference: one ===== -/
theorem yo_snoc (Lo : List (Int32 × Nat)) (v : Int32) (m : Nat) : evs (Lo ++ [(v, m)]) none = evs Lo none ++ [(1, v, m)] := by simp [evs]
theorem yo_end (Lo : List (Int32 × Nat)) (v : Int32) (m : Nat) : evs Lo (some (v, m)) = evs Lo none ++ [(if v = 0 then 2 else 3, v, m)] := by simp [evs]
theorem yo_fin (Lo : List (Int32 × Nat)) : fin (evs Lo none) = false := by simp [evs, fin]
theorem yo_item {k : Nat} {a b : Int32} {S : PSt} {Lo : List (Int32 × Nat)} {v : Int32} {m : Nat} : stp k a b (S, evs Lo none) (0, 1, v, m) = ((hi k b (tim m) true v S).1, evs Lo none ++ ems m (hi k b (tim m) true v S).2) := by
  rw [rn_stp_go (yo_fin Lo)]
  rfl
theorem yo_tgc (x : Int32 × Nat) (r : List (Int32 × Nat)) (z : Option (Int32 × Nat)) : tg 0 (evs (x :: r) z) = (0, 1, x.1, x.2) :: tg 0 (evs r z) := by simp [evs, tg]
section
variable {f_stages : Int32} {f_heard : Int32} {f_now : Int32} {f_calls : Int64} {f_parts : Int32} {f_start : Int64} {f_at : Int32} {f_nextX : Int32} {f_nextY : Int32} {f_x : Int32} {f_y : Int32} {a_kind : (Nat → Int32)} {a_opA : (Nat → Int32)} {a_opB : (Nat → Int32)} {a_heardBy : (Nat → Int32)} {a_what : (Nat → Int32)} {a_said : (Nat → Int32)} {a_when : (Nat → Int64)} {a_over : (Nat → Int32)} {a_part : (Nat → Int32)} {a_first : (Nat → Int32)} {a_second : (Nat → Int32)} {a_user : (Nat → Int32)} {a_goStage : (Nat → Int32)} {a_goStep : (Nat → Int32)} {a_done : (Nat → Int32)} {a_val : (Nat → Int32)} {a_mom : (Nat → Int64)} {a_cnt : (Nat → Int32)} {a_end : (Nat → Int32)} {a_endMom : (Nat → Int64)} {a_begun : (Nat → Int32)} {a_status : (Nat → Int32)} {a_stageOf : (Nat → Int32)} {a_began : (Nat → Int64)} {a_taken : (Nat → Int32)} {a_demand : (Nat → Int64)} {a_asked : (Nat → Int32)} {a_code : (Nat → Int32)} {a_waits : (Nat → Int32)} {a_waiting : (Nat → Int32)} {a_came : (Nat → Int32)} {a_given : (Nat → Int32)} {a_got : (Nat → Int64)}
/-- behind the items: the end goes on -/
theorem yo_fin1 {post : SY → Prop} {p xq t k : Nat} {a b : Int32} {L Lo : List (Int32 × Nat)} {z : Option (Int32 × Nat)} {S : PSt} {va : Nat → Int32} {mm : Nat → Int64} {cn : Nat → Int32} (hp : p < 9) (hxq : xq < 9) (hat : f_at = nI p) (hfx : f_x = nI xq) (hnow : f_now = nI t) (ht : t ≤ 200) (hx : YA va mm cn a_end a_endMom xq L z) (hz : ∀ w, z = some w → tim w.2 ≤ t) (hY : YA va mm cn a_end a_endMom p Lo none) (hF : YF p a_val a_mom a_cnt a_end a_endMom va mm cn a_end a_endMom)
    (hm : ∀ v m, z = some (v, m) → (stp k a b (S, evs Lo none) (0, (if v = 0 then 2 else 3), v, m)).2 = evs Lo none ++ [(if v = 0 then 2 else 3, v, m)])
    (K : ∀ en em z', YA va mm cn en em p Lo z' → evs Lo z' = ((tg 0 (evs [] z)).foldl (stp k a b) (S, evs Lo none)).2 → YF p a_val a_mom a_cnt a_end a_endMom va mm cn en em → post (f_stages, f_heard, f_now, f_calls, f_parts, f_start, f_at, f_nextX, f_nextY, f_x, f_y, a_kind, a_opA, a_opB, a_heardBy, a_what, a_said, a_when, a_over, a_part, a_first, a_second, a_user, a_goStage, a_goStep, a_done, va, mm, cn, en, em, a_begun, a_status, a_stageOf, a_began, a_taken, a_demand, a_asked, a_code, a_waits, a_waiting, a_came, a_given, a_got)) :
    wY_one_351 post f_stages f_heard f_now f_calls f_parts f_start f_at f_nextX f_nextY f_x f_y a_kind a_opA a_opB a_heardBy a_what a_said a_when a_over a_part a_first a_second a_user a_goStage a_goStep a_done (va) (mm) (cn) a_end a_endMom a_begun a_status a_stageOf a_began a_taken a_demand a_asked a_code a_waits a_waiting a_came a_given a_got := by
  have hcl : f_x.toNatClampNeg = xq := by rw [hfx]; exact nI_clamp (by omega)
  have hin : vp_in f_x 9 := by rw [hfx]; exact vp_in_nI hxq (by decide)
  obtain ⟨b1, b2, b3⟩ := yb_m1 hx.2.2.2.1 hx.2.2.2.2.1 (fun w hw => (hx.2.2.2.2.2 w hw).1)
  refine ⟨hin, ?_⟩
  cases z with
  | none =>
    refine br_t (by rw [hcl]; exact b1.mpr rfl) ?_
    exact K a_end a_endMom none hY rfl hF
  | some w =>
    obtain ⟨v, m⟩ := w
    obtain ⟨hm1, j, hj, ej⟩ := hx.2.2.2.1 (v, m) rfl
    have he := hx.2.2.2.2.2 (v, m) rfl
    refine br_f (by rw [hcl]; exact fun y => by have := b1.mp y; simp at this) ⟨hin, hin, ?_⟩
    rw [show a_end f_x.toNatClampNeg = v from by rw [hcl]; exact he.1, show a_endMom f_x.toNatClampNeg = lN m from by rw [hcl]; exact he.2]
    refine yw_stop hp hat hnow ht hm1 hj ej hY (fun _ en em h1 h2 => K en em (some (v, m)) h1 ?_ (yb_trans hF h2)) (fun y => absurd (hz _ rfl) y)
    show evs Lo (some (v, m)) = (stp k a b (S, evs Lo none) (0, (if v = 0 then 2 else 3), v, m)).2
    rw [hm v m rfl, yo_end]
/-- the head of an iteration -/
theorem yo_head {post : SY → Prop} {xq i n : Nat} {k : Int32} {b sum nn : Int32} {last : Int64} {L : List (Int32 × Nat)} {z : Option (Int32 × Nat)} {x : Int32 × Nat} {va : Nat → Int32} {mm : Nat → Int64} {cn : Nat → Int32} (hxq : xq < 9) (hfx : f_x = nI xq) (hx : YA va mm cn a_end a_endMom xq L z) (hi : L[i]? = some x)
    (H : ∀ sm : Bool, (sm = true ↔ ∃ y, 0 < i ∧ L[i - 1]? = some y ∧ y.1 = x.1) → wY_one_78 post (wY_one_13 post k b n) k b sum nn last (nI i) x.1 (lN x.2) (bI sm) f_stages f_heard f_now f_calls f_parts f_start f_at f_nextX f_nextY f_x f_y a_kind a_opA a_opB a_heardBy a_what a_said a_when a_over a_part a_first a_second a_user a_goStage a_goStep a_done (va) (mm) (cn) a_end a_endMom a_begun a_status a_stageOf a_began a_taken a_demand a_asked a_code a_waits a_waiting a_came a_given a_got) :
    wY_one_13 post k b (n + 1) sum nn last (nI i) f_stages f_heard f_now f_calls f_parts f_start f_at f_nextX f_nextY f_x f_y a_kind a_opA a_opB a_heardBy a_what a_said a_when a_over a_part a_first a_second a_user a_goStage a_goStep a_done (va) (mm) (cn) a_end a_endMom a_begun a_status a_stageOf a_began a_taken a_demand a_asked a_code a_waits a_waiting a_came a_given a_got := by
  have hil := yb_idx hi
  have hl := hx.2.1
  have hcl : f_x.toNatClampNeg = xq := by rw [hfx]; exact nI_clamp (by omega)
  have hin : vp_in f_x 9 := by rw [hfx]; exact vp_in_nI hxq (by decide)
  refine ⟨hin, br_f (by rw [hcl, hx.1]; exact nI_ge hil (by omega)) ?_⟩
  rw [hfx]
  refine yw_word (f_x := nI xq) hxq hx hi (yw_of (f_x := nI xq) hxq hx hi ?_)
  rw [← hfx]
  by_cases h0 : i = 0
  · subst h0
    exact br_t (by decide) (H false ⟨fun y => absurd y (by decide), fun ⟨y, hy, _⟩ => by omega⟩)
  · refine br_f (nI_nle (by omega) (by omega)) ?_
    obtain ⟨y, hy⟩ : ∃ y, L[i - 1]? = some y := ⟨L[i - 1]'(by omega), List.getElem?_eq_getElem (by omega)⟩
    rw [hfx, show nI i - 1 = nI (i - 1) from by rw [show (1 : Int32) = nI 1 from rfl, pk_sub (by omega)]]
    refine yw_word (f_x := nI xq) hxq hx hy ?_
    rw [← hfx]
    by_cases hyx : y.1 = x.1
    · exact br_t hyx (H true ⟨fun _ => ⟨y, by omega, hy, hyx⟩, fun _ => rfl⟩)
    · exact br_f hyx (H false ⟨fun q => absurd q (by decide), fun ⟨y', _, hy', he⟩ => by rw [hy] at hy'; cases hy'; exact absurd he hyx⟩)
theorem yo_loop3 {post : SY → Prop} {p xq t : Nat} {a b : Int32} {L : List (Int32 × Nat)} {z : Option (Int32 × Nat)} {RES : List Ev} {d : Nat} {hy : Int32} {fy qx ox oy : Bool} {q : List (Int32 × Nat)} (hp : p < 9) (hxq : xq < 9) (hpx : xq ≠ p) (hat : f_at = nI p) (hfx : f_x = nI xq) (hnow : f_now = nI t) (ht : t ≤ 200) (hL : ∀ x ∈ L, tim x.2 ≤ t) (hz : ∀ w, z = some w → tim w.2 ≤ t) (hL250 : L.length ≤ 250) {c : Nat} {h : Int32} {f : Bool}
    (K : ∀ va mm cn en em L' z', YA va mm cn en em p L' z' → evs L' z' = RES → YF p a_val a_mom a_cnt a_end a_endMom va mm cn en em → L'.length ≤ L.length + 1 → post (f_stages, f_heard, f_now, f_calls, f_parts, f_start, f_at, f_nextX, f_nextY, f_x, f_y, a_kind, a_opA, a_opB, a_heardBy, a_what, a_said, a_when, a_over, a_part, a_first, a_second, a_user, a_goStage, a_goStep, a_done, va, mm, cn, en, em, a_begun, a_status, a_stageOf, a_began, a_taken, a_demand, a_asked, a_code, a_waits, a_waiting, a_came, a_given, a_got)) :
    ∀ (r : List (Int32 × Nat)) (i : Nat) (sum : Int32) (nn : Int32) (last : Int64) (Lo : List (Int32 × Nat)) (va : Nat → Int32) (mm : Nat → Int64) (cn : Nat → Int32), L.drop i = r → i ≤ L.length → Lo.length ≤ i → YA va mm cn a_end a_endMom p Lo none → YA va mm cn a_end a_endMom xq L z → YF p a_val a_mom a_cnt a_end a_endMom va mm cn a_end a_endMom → RES = ((tg 0 (evs r z)).foldl (stp 3 a b) ((d, c, h, hy, f, fy, qx, q, ox, oy), evs Lo none)).2 → wY_one_13 post (nI 3) b (r.length + 1) sum nn last (nI i) f_stages f_heard f_now f_calls f_parts f_start f_at f_nextX f_nextY f_x f_y a_kind a_opA a_opB a_heardBy a_what a_said a_when a_over a_part a_first a_second a_user a_goStage a_goStep a_done (va) (mm) (cn) a_end a_endMom a_begun a_status a_stageOf a_began a_taken a_demand a_asked a_code a_waits a_waiting a_came a_given a_got := by
  have hcl : f_x.toNatClampNeg = xq := by rw [hfx]; exact nI_clamp (by omega)
  have hin : vp_in f_x 9 := by rw [hfx]; exact vp_in_nI hxq (by decide)
  intro r
  induction r with
  | nil =>
    intro i sum nn last Lo va mm cn hr hiL hLo hY hx hF hT 
    have hiL2 : L.length ≤ i := List.drop_eq_nil_iff.mp hr
    obtain ⟨b1, b2, b3⟩ := yb_m1 hx.2.2.2.1 hx.2.2.2.2.1 (fun w hw => (hx.2.2.2.2.2 w hw).1)
    refine ⟨hin, br_t (by rw [hcl, hx.1]; exact nI_le hiL2 (by omega)) ⟨hin, ?_⟩⟩
    have goon : wY_one_318 post (nI 3) nn f_stages f_heard f_now f_calls f_parts f_start f_at f_nextX f_nextY f_x f_y a_kind a_opA a_opB a_heardBy a_what a_said a_when a_over a_part a_first a_second a_user a_goStage a_goStep a_done (va) (mm) (cn) a_end a_endMom a_begun a_status a_stageOf a_began a_taken a_demand a_asked a_code a_waits a_waiting a_came a_given a_got := by
      have h351 : wY_one_351 post f_stages f_heard f_now f_calls f_parts f_start f_at f_nextX f_nextY f_x f_y a_kind a_opA a_opB a_heardBy a_what a_said a_when a_over a_part a_first a_second a_user a_goStage a_goStep a_done (va) (mm) (cn) a_end a_endMom a_begun a_status a_stageOf a_began a_taken a_demand a_asked a_code a_waits a_waiting a_came a_given a_got := yo_fin1 (k := 3) (a := a) (b := b) (S := (d, c, h, hy, f, fy, qx, q, ox, oy)) hp hxq hat hfx hnow ht hx hz hY hF (fun v m hv => ?_) (fun en em z' h1 h2 h3 => K va mm cn en em Lo z' h1 (h2.trans hT.symm) h3 (by omega))
      · refine ⟨hin, ?_⟩
        by_cases he : a_end f_x.toNatClampNeg = 0
        · exact br_t he (br_f (by decide) h351)
        · exact br_f he h351
      · rw [rn_stp_go (yo_fin Lo)]
        by_cases hv0 : v = 0
        · subst hv0; rfl
        · rw [if_neg hv0]; rfl
    by_cases he : a_end f_x.toNatClampNeg = 0
    · exact br_t he (br_f (by decide) goon)
    · exact br_f he goon
  | cons x r ih =>
    intro i sum nn last Lo va mm cn hr hiL hLo hY hx hF hT 
    have hxi : L[i]? = some x := by rw [← List.head?_drop, hr]; rfl
    have hil := yb_idx hxi
    have hr' : L.drop (i + 1) = r := by rw [← List.drop_drop, hr]; rfl
    have hxt := hL x (List.mem_of_getElem? hxi)
    have hxm := (hx.2.2.1 i x hxi).2.2
    refine yo_head hxq hfx hx hxi (fun sm hsm => ?_)
    rw [yo_tgc, List.foldl_cons, yo_item] at hT
    refine br_t rfl ?_
    refine yw_put hp hat hnow ht hxm hY (by omega) (fun _ va2 mm2 cn2 g1 g2 => ?_) (fun y => absurd hxt y)
    refine br_f (by decide) ?_
    refine nm_e (nm_e (br_f (by decide) ?_))
    refine br_f (by decide) ?_
    refine br_f (by decide) ?_
    refine br_f (by decide) ?_
    refine br_f (by decide) ?_
    refine br_f (by decide) ?_
    refine br_f (by decide) (nm_r (nI_1 i) ?_)
    refine ih (i + 1) (sum + x.1) (nn + 1) last (Lo ++ [(x.1 + b, x.2)]) va2 mm2 cn2 hr' (by omega) (by simp; omega) g1 (g2 xq hpx _ _ hx) (yb_trans hF g2) ?_ 
    rw [yo_snoc]; exact hT
theorem yo_loop4 {post : SY → Prop} {p xq t : Nat} {a b : Int32} {L : List (Int32 × Nat)} {z : Option (Int32 × Nat)} {RES : List Ev} {d : Nat} {hy : Int32} {fy qx ox oy : Bool} {q : List (Int32 × Nat)} (hp : p < 9) (hxq : xq < 9) (hpx : xq ≠ p) (hat : f_at = nI p) (hfx : f_x = nI xq) (hnow : f_now = nI t) (ht : t ≤ 200) (hL : ∀ x ∈ L, tim x.2 ≤ t) (hz : ∀ w, z = some w → tim w.2 ≤ t) (hL250 : L.length ≤ 250) {c : Nat} {h : Int32} {f : Bool}
    (K : ∀ va mm cn en em L' z', YA va mm cn en em p L' z' → evs L' z' = RES → YF p a_val a_mom a_cnt a_end a_endMom va mm cn en em → L'.length ≤ L.length + 1 → post (f_stages, f_heard, f_now, f_calls, f_parts, f_start, f_at, f_nextX, f_nextY, f_x, f_y, a_kind, a_opA, a_opB, a_heardBy, a_what, a_said, a_when, a_over, a_part, a_first, a_second, a_user, a_goStage, a_goStep, a_done, va, mm, cn, en, em, a_begun, a_status, a_stageOf, a_began, a_taken, a_demand, a_asked, a_code, a_waits, a_waiting, a_came, a_given, a_got)) :
    ∀ (r : List (Int32 × Nat)) (i : Nat) (sum : Int32) (nn : Int32) (last : Int64) (Lo : List (Int32 × Nat)) (va : Nat → Int32) (mm : Nat → Int64) (cn : Nat → Int32), L.drop i = r → i ≤ L.length → Lo.length ≤ i → YA va mm cn a_end a_endMom p Lo none → YA va mm cn a_end a_endMom xq L z → YF p a_val a_mom a_cnt a_end a_endMom va mm cn a_end a_endMom → RES = ((tg 0 (evs r z)).foldl (stp 4 a b) ((d, c, h, hy, f, fy, qx, q, ox, oy), evs Lo none)).2 → wY_one_13 post (nI 4) b (r.length + 1) sum nn last (nI i) f_stages f_heard f_now f_calls f_parts f_start f_at f_nextX f_nextY f_x f_y a_kind a_opA a_opB a_heardBy a_what a_said a_when a_over a_part a_first a_second a_user a_goStage a_goStep a_done (va) (mm) (cn) a_end a_endMom a_begun a_status a_stageOf a_began a_taken a_demand a_asked a_code a_waits a_waiting a_came a_given a_got := by
  have hcl : f_x.toNatClampNeg = xq := by rw [hfx]; exact nI_clamp (by omega)
  have hin : vp_in f_x 9 := by rw [hfx]; exact vp_in_nI hxq (by decide)
  intro r
  induction r with
  | nil =>
    intro i sum nn last Lo va mm cn hr hiL hLo hY hx hF hT 
    have hiL2 : L.length ≤ i := List.drop_eq_nil_iff.mp hr
    obtain ⟨b1, b2, b3⟩ := yb_m1 hx.2.2.2.1 hx.2.2.2.2.1 (fun w hw => (hx.2.2.2.2.2 w hw).1)
    refine ⟨hin, br_t (by rw [hcl, hx.1]; exact nI_le hiL2 (by omega)) ⟨hin, ?_⟩⟩
    have goon : wY_one_318 post (nI 4) nn f_stages f_heard f_now f_calls f_parts f_start f_at f_nextX f_nextY f_x f_y a_kind a_opA a_opB a_heardBy a_what a_said a_when a_over a_part a_first a_second a_user a_goStage a_goStep a_done (va) (mm) (cn) a_end a_endMom a_begun a_status a_stageOf a_began a_taken a_demand a_asked a_code a_waits a_waiting a_came a_given a_got := by
      have h351 : wY_one_351 post f_stages f_heard f_now f_calls f_parts f_start f_at f_nextX f_nextY f_x f_y a_kind a_opA a_opB a_heardBy a_what a_said a_when a_over a_part a_first a_second a_user a_goStage a_goStep a_done (va) (mm) (cn) a_end a_endMom a_begun a_status a_stageOf a_began a_taken a_demand a_asked a_code a_waits a_waiting a_came a_given a_got := yo_fin1 (k := 4) (a := a) (b := b) (S := (d, c, h, hy, f, fy, qx, q, ox, oy)) hp hxq hat hfx hnow ht hx hz hY hF (fun v m hv => ?_) (fun en em z' h1 h2 h3 => K va mm cn en em Lo z' h1 (h2.trans hT.symm) h3 (by omega))
      · refine ⟨hin, ?_⟩
        by_cases he : a_end f_x.toNatClampNeg = 0
        · exact br_t he (br_f (by decide) h351)
        · exact br_f he h351
      · rw [rn_stp_go (yo_fin Lo)]
        by_cases hv0 : v = 0
        · subst hv0; rfl
        · rw [if_neg hv0]; rfl
    by_cases he : a_end f_x.toNatClampNeg = 0
    · exact br_t he (br_f (by decide) goon)
    · exact br_f he goon
  | cons x r ih =>
    intro i sum nn last Lo va mm cn hr hiL hLo hY hx hF hT 
    have hxi : L[i]? = some x := by rw [← List.head?_drop, hr]; rfl
    have hil := yb_idx hxi
    have hr' : L.drop (i + 1) = r := by rw [← List.drop_drop, hr]; rfl
    have hxt := hL x (List.mem_of_getElem? hxi)
    have hxm := (hx.2.2.1 i x hxi).2.2
    refine yo_head hxq hfx hx hxi (fun sm hsm => ?_)
    rw [yo_tgc, List.foldl_cons, yo_item] at hT
    refine br_f (by decide) ?_
    by_cases hv : x.1 ≤ b
    · refine br_t rfl (br_t hv ?_)
      refine nm_e (nm_e (br_f (by decide) ?_))
      refine br_f (by decide) ?_
      refine br_f (by decide) ?_
      refine br_f (by decide) ?_
      refine br_f (by decide) ?_
      refine br_f (by decide) ?_
      refine br_f (by decide) (nm_r (nI_1 i) ?_)
      refine ih (i + 1) (sum + x.1) (nn + 1) last Lo va mm cn hr' (by omega) (by omega) hY hx hF ?_ 
      have e : hi 4 b (tim x.2) true x.1 (d, c, h, hy, f, fy, qx, q, ox, oy) = ((d, c, h, hy, f, fy, qx, q, ox, oy), []) := by simp [hi, hv]
      rw [e] at hT
      simpa [ems] using hT
    · refine br_t rfl (br_f hv ?_)
      refine yw_put hp hat hnow ht hxm hY (by omega) (fun _ va2 mm2 cn2 g1 g2 => ?_) (fun y => absurd hxt y)
      refine nm_e (nm_e (br_f (by decide) ?_))
      refine br_f (by decide) ?_
      refine br_f (by decide) ?_
      refine br_f (by decide) ?_
      refine br_f (by decide) ?_
      refine br_f (by decide) ?_
      refine br_f (by decide) (nm_r (nI_1 i) ?_)
      refine ih (i + 1) (sum + x.1) (nn + 1) last (Lo ++ [(x.1, x.2)]) va2 mm2 cn2 hr' (by omega) (by simp; omega) g1 (g2 xq hpx _ _ hx) (yb_trans hF g2) ?_ 
      have e : hi 4 b (tim x.2) true x.1 (d, c, h, hy, f, fy, qx, q, ox, oy) = ((d, c, h, hy, f, fy, qx, q, ox, oy), [(1, x.1)]) := by simp [hi, hv]
      rw [e] at hT
      rw [yo_snoc]; exact hT
theorem yo_loop5 {post : SY → Prop} {p xq t : Nat} {a b : Int32} {L : List (Int32 × Nat)} {z : Option (Int32 × Nat)} {RES : List Ev} {d : Nat} {hy : Int32} {fy qx ox oy : Bool} {q : List (Int32 × Nat)} (hp : p < 9) (hxq : xq < 9) (hpx : xq ≠ p) (hat : f_at = nI p) (hfx : f_x = nI xq) (hnow : f_now = nI t) (ht : t ≤ 200) (hL : ∀ x ∈ L, tim x.2 ≤ t) (hz : ∀ w, z = some w → tim w.2 ≤ t) (hL250 : L.length ≤ 250) {c : Nat} {f : Bool}
    (K : ∀ va mm cn en em L' z', YA va mm cn en em p L' z' → evs L' z' = RES → YF p a_val a_mom a_cnt a_end a_endMom va mm cn en em → L'.length ≤ L.length + 1 → post (f_stages, f_heard, f_now, f_calls, f_parts, f_start, f_at, f_nextX, f_nextY, f_x, f_y, a_kind, a_opA, a_opB, a_heardBy, a_what, a_said, a_when, a_over, a_part, a_first, a_second, a_user, a_goStage, a_goStep, a_done, va, mm, cn, en, em, a_begun, a_status, a_stageOf, a_began, a_taken, a_demand, a_asked, a_code, a_waits, a_waiting, a_came, a_given, a_got)) :
    ∀ (r : List (Int32 × Nat)) (i : Nat) (h : Int32) (sum : Int32) (nn : Int32) (last : Int64) (Lo : List (Int32 × Nat)) (va : Nat → Int32) (mm : Nat → Int64) (cn : Nat → Int32), L.drop i = r → i ≤ L.length → Lo.length ≤ i → YA va mm cn a_end a_endMom p Lo none → YA va mm cn a_end a_endMom xq L z → YF p a_val a_mom a_cnt a_end a_endMom va mm cn a_end a_endMom → RES = ((tg 0 (evs r z)).foldl (stp 5 a b) ((d, c, h, hy, f, fy, qx, q, ox, oy), evs Lo none)).2 → h = b + sum → wY_one_13 post (nI 5) b (r.length + 1) sum nn last (nI i) f_stages f_heard f_now f_calls f_parts f_start f_at f_nextX f_nextY f_x f_y a_kind a_opA a_opB a_heardBy a_what a_said a_when a_over a_part a_first a_second a_user a_goStage a_goStep a_done (va) (mm) (cn) a_end a_endMom a_begun a_status a_stageOf a_began a_taken a_demand a_asked a_code a_waits a_waiting a_came a_given a_got := by
  have hcl : f_x.toNatClampNeg = xq := by rw [hfx]; exact nI_clamp (by omega)
  have hin : vp_in f_x 9 := by rw [hfx]; exact vp_in_nI hxq (by decide)
  intro r
  induction r with
  | nil =>
    intro i h sum nn last Lo va mm cn hr hiL hLo hY hx hF hT hv1
    have hiL2 : L.length ≤ i := List.drop_eq_nil_iff.mp hr
    obtain ⟨b1, b2, b3⟩ := yb_m1 hx.2.2.2.1 hx.2.2.2.2.1 (fun w hw => (hx.2.2.2.2.2 w hw).1)
    refine ⟨hin, br_t (by rw [hcl, hx.1]; exact nI_le hiL2 (by omega)) ⟨hin, ?_⟩⟩
    have goon : wY_one_318 post (nI 5) nn f_stages f_heard f_now f_calls f_parts f_start f_at f_nextX f_nextY f_x f_y a_kind a_opA a_opB a_heardBy a_what a_said a_when a_over a_part a_first a_second a_user a_goStage a_goStep a_done (va) (mm) (cn) a_end a_endMom a_begun a_status a_stageOf a_began a_taken a_demand a_asked a_code a_waits a_waiting a_came a_given a_got := by
      have h351 : wY_one_351 post f_stages f_heard f_now f_calls f_parts f_start f_at f_nextX f_nextY f_x f_y a_kind a_opA a_opB a_heardBy a_what a_said a_when a_over a_part a_first a_second a_user a_goStage a_goStep a_done (va) (mm) (cn) a_end a_endMom a_begun a_status a_stageOf a_began a_taken a_demand a_asked a_code a_waits a_waiting a_came a_given a_got := yo_fin1 (k := 5) (a := a) (b := b) (S := (d, c, h, hy, f, fy, qx, q, ox, oy)) hp hxq hat hfx hnow ht hx hz hY hF (fun v m hv => ?_) (fun en em z' h1 h2 h3 => K va mm cn en em Lo z' h1 (h2.trans hT.symm) h3 (by omega))
      · refine ⟨hin, ?_⟩
        by_cases he : a_end f_x.toNatClampNeg = 0
        · exact br_t he (br_f (by decide) h351)
        · exact br_f he h351
      · rw [rn_stp_go (yo_fin Lo)]
        by_cases hv0 : v = 0
        · subst hv0; rfl
        · rw [if_neg hv0]; rfl
    by_cases he : a_end f_x.toNatClampNeg = 0
    · exact br_t he (br_f (by decide) goon)
    · exact br_f he goon
  | cons x r ih =>
    intro i h sum nn last Lo va mm cn hr hiL hLo hY hx hF hT hv1
    have hxi : L[i]? = some x := by rw [← List.head?_drop, hr]; rfl
    have hil := yb_idx hxi
    have hr' : L.drop (i + 1) = r := by rw [← List.drop_drop, hr]; rfl
    have hxt := hL x (List.mem_of_getElem? hxi)
    have hxm := (hx.2.2.1 i x hxi).2.2
    refine yo_head hxq hfx hx hxi (fun sm hsm => ?_)
    rw [yo_tgc, List.foldl_cons, yo_item] at hT
    refine br_f (by decide) ?_
    refine br_f (by decide) ?_
    refine nm_e (nm_e (br_t rfl ?_))
    refine yw_put hp hat hnow ht hxm hY (by omega) (fun _ va2 mm2 cn2 g1 g2 => ?_) (fun y => absurd hxt y)
    refine br_f (by decide) ?_
    refine br_f (by decide) ?_
    refine br_f (by decide) ?_
    refine br_f (by decide) ?_
    refine br_f (by decide) ?_
    refine br_f (by decide) (nm_r (nI_1 i) ?_)
    refine ih (i + 1) (h + x.1) (sum + x.1) (nn + 1) last (Lo ++ [(b + (sum + x.1), x.2)]) va2 mm2 cn2 hr' (by omega) (by simp; omega) g1 (g2 xq hpx _ _ hx) (yb_trans hF g2) ?_ ?_
    · rw [yo_snoc, ← Int32.add_assoc, ← hv1]; exact hT
    · rw [hv1, Int32.add_assoc]
theorem yo_loop6 {post : SY → Prop} {p xq t : Nat} {a b : Int32} {L : List (Int32 × Nat)} {z : Option (Int32 × Nat)} {RES : List Ev} {d : Nat} {hy : Int32} {fy qx ox oy : Bool} {q : List (Int32 × Nat)} (hp : p < 9) (hxq : xq < 9) (hpx : xq ≠ p) (hat : f_at = nI p) (hfx : f_x = nI xq) (hnow : f_now = nI t) (ht : t ≤ 200) (hL : ∀ x ∈ L, tim x.2 ≤ t) (hz : ∀ w, z = some w → tim w.2 ≤ t) (hL250 : L.length ≤ 250) {h : Int32} {f : Bool} (hb : 1 ≤ cl b ∧ cl b ≤ 8 ∧ b = nI (cl b))
    (K : ∀ va mm cn en em L' z', YA va mm cn en em p L' z' → evs L' z' = RES → YF p a_val a_mom a_cnt a_end a_endMom va mm cn en em → L'.length ≤ L.length + 1 → post (f_stages, f_heard, f_now, f_calls, f_parts, f_start, f_at, f_nextX, f_nextY, f_x, f_y, a_kind, a_opA, a_opB, a_heardBy, a_what, a_said, a_when, a_over, a_part, a_first, a_second, a_user, a_goStage, a_goStep, a_done, va, mm, cn, en, em, a_begun, a_status, a_stageOf, a_began, a_taken, a_demand, a_asked, a_code, a_waits, a_waiting, a_came, a_given, a_got)) :
    ∀ (r : List (Int32 × Nat)) (i : Nat) (c : Nat) (sum : Int32) (last : Int64) (Lo : List (Int32 × Nat)) (va : Nat → Int32) (mm : Nat → Int64) (cn : Nat → Int32), L.drop i = r → i ≤ L.length → Lo.length ≤ i → YA va mm cn a_end a_endMom p Lo none → YA va mm cn a_end a_endMom xq L z → YF p a_val a_mom a_cnt a_end a_endMom va mm cn a_end a_endMom → RES = ((tg 0 (evs r z)).foldl (stp 6 a b) ((d, c, h, hy, f, fy, qx, q, ox, oy), evs Lo none)).2 → c < cl b → wY_one_13 post (nI 6) b (r.length + 1) sum (nI c) last (nI i) f_stages f_heard f_now f_calls f_parts f_start f_at f_nextX f_nextY f_x f_y a_kind a_opA a_opB a_heardBy a_what a_said a_when a_over a_part a_first a_second a_user a_goStage a_goStep a_done (va) (mm) (cn) a_end a_endMom a_begun a_status a_stageOf a_began a_taken a_demand a_asked a_code a_waits a_waiting a_came a_given a_got := by
  have hcl : f_x.toNatClampNeg = xq := by rw [hfx]; exact nI_clamp (by omega)
  have hin : vp_in f_x 9 := by rw [hfx]; exact vp_in_nI hxq (by decide)
  intro r
  induction r with
  | nil =>
    intro i c sum last Lo va mm cn hr hiL hLo hY hx hF hT hv1
    have hiL2 : L.length ≤ i := List.drop_eq_nil_iff.mp hr
    obtain ⟨b1, b2, b3⟩ := yb_m1 hx.2.2.2.1 hx.2.2.2.2.1 (fun w hw => (hx.2.2.2.2.2 w hw).1)
    refine ⟨hin, br_t (by rw [hcl, hx.1]; exact nI_le hiL2 (by omega)) ⟨hin, ?_⟩⟩
    have goon : wY_one_318 post (nI 6) (nI c) f_stages f_heard f_now f_calls f_parts f_start f_at f_nextX f_nextY f_x f_y a_kind a_opA a_opB a_heardBy a_what a_said a_when a_over a_part a_first a_second a_user a_goStage a_goStep a_done (va) (mm) (cn) a_end a_endMom a_begun a_status a_stageOf a_began a_taken a_demand a_asked a_code a_waits a_waiting a_came a_given a_got := by
      have h351 : wY_one_351 post f_stages f_heard f_now f_calls f_parts f_start f_at f_nextX f_nextY f_x f_y a_kind a_opA a_opB a_heardBy a_what a_said a_when a_over a_part a_first a_second a_user a_goStage a_goStep a_done (va) (mm) (cn) a_end a_endMom a_begun a_status a_stageOf a_began a_taken a_demand a_asked a_code a_waits a_waiting a_came a_given a_got := yo_fin1 (k := 6) (a := a) (b := b) (S := (d, c, h, hy, f, fy, qx, q, ox, oy)) hp hxq hat hfx hnow ht hx hz hY hF (fun v m hv => ?_) (fun en em z' h1 h2 h3 => K va mm cn en em Lo z' h1 (h2.trans hT.symm) h3 (by omega))
      · refine ⟨hin, ?_⟩
        by_cases he : a_end f_x.toNatClampNeg = 0
        · exact br_t he (br_f (by decide) h351)
        · exact br_f he h351
      · rw [rn_stp_go (yo_fin Lo)]
        by_cases hv0 : v = 0
        · subst hv0; rfl
        · rw [if_neg hv0]; rfl
    by_cases he : a_end f_x.toNatClampNeg = 0
    · exact br_t he (br_f (by decide) goon)
    · exact br_f he goon
  | cons x r ih =>
    intro i c sum last Lo va mm cn hr hiL hLo hY hx hF hT hv1
    have hxi : L[i]? = some x := by rw [← List.head?_drop, hr]; rfl
    have hil := yb_idx hxi
    have hr' : L.drop (i + 1) = r := by rw [← List.drop_drop, hr]; rfl
    have hxt := hL x (List.mem_of_getElem? hxi)
    have hxm := (hx.2.2.1 i x hxi).2.2
    refine yo_head hxq hfx hx hxi (fun sm hsm => ?_)
    rw [yo_tgc, List.foldl_cons, yo_item] at hT
    refine br_f (by decide) ?_
    refine br_f (by decide) ?_
    refine nm_e (nm_r (nI_1 c) (br_f (by decide) ?_))
    refine br_t rfl ?_
    refine yw_put hp hat hnow ht hxm hY (by omega) (fun _ va2 mm2 cn2 g1 g2 => ?_) (fun y => absurd hxt y)
    by_cases hv : c + 1 < cl b
    · refine br_t rfl (br_f (by rw [hb.2.2, nI_eq (by omega) (by omega)]; omega) ?_)
      refine br_f (by decide) ?_
      refine br_f (by decide) ?_
      refine br_f (by decide) ?_
      refine br_f (by decide) (nm_r (nI_1 i) ?_)
      refine ih (i + 1) (c + 1) (sum + x.1) last (Lo ++ [(x.1, x.2)]) va2 mm2 cn2 hr' (by omega) (by simp; omega) g1 (g2 xq hpx _ _ hx) (yb_trans hF g2) ?_ hv
      have e : hi 6 b (tim x.2) true x.1 (d, c, h, hy, f, fy, qx, q, ox, oy) = ((d, c + 1, h, hy, f, fy, qx, q, ox, oy), [(1, x.1)]) := by simp only [hi, if_pos hv]
      rw [e] at hT
      rw [yo_snoc]; exact hT
    · refine br_t rfl (br_t (by rw [hb.2.2, nI_eq (by omega) (by omega)]; omega) ?_)
      have e : hi 6 b (tim x.2) true x.1 (d, c, h, hy, f, fy, qx, q, ox, oy) = ((d, c + 1, h, hy, f, fy, qx, q, ox, oy), [(1, x.1), (2, 0)]) := by simp only [hi, if_neg hv]
      rw [e, rn_fold_fin _ _ (by simp [ems, fin])] at hT
      refine yw_stop (j := 0) hp hat hnow ht hxm (by decide) rfl g1 (fun _ en em k1 k2 => K va2 mm2 cn2 en em _ _ k1 ?_ (yb_trans hF (yb_trans g2 k2)) (by simp; omega)) (fun y => absurd hxt y)
      rw [hT, yo_end, yo_snoc]
      simp [ems]
theorem yo_loop7 {post : SY → Prop} {p xq t : Nat} {a b : Int32} {L : List (Int32 × Nat)} {z : Option (Int32 × Nat)} {RES : List Ev} {d : Nat} {hy : Int32} {fy qx ox oy : Bool} {q : List (Int32 × Nat)} (hp : p < 9) (hxq : xq < 9) (hpx : xq ≠ p) (hat : f_at = nI p) (hfx : f_x = nI xq) (hnow : f_now = nI t) (ht : t ≤ 200) (hL : ∀ x ∈ L, tim x.2 ≤ t) (hz : ∀ w, z = some w → tim w.2 ≤ t) (hL250 : L.length ≤ 250) {h : Int32} {f : Bool} (hb : cl b ≤ 8 ∧ b = nI (cl b))
    (K : ∀ va mm cn en em L' z', YA va mm cn en em p L' z' → evs L' z' = RES → YF p a_val a_mom a_cnt a_end a_endMom va mm cn en em → L'.length ≤ L.length + 1 → post (f_stages, f_heard, f_now, f_calls, f_parts, f_start, f_at, f_nextX, f_nextY, f_x, f_y, a_kind, a_opA, a_opB, a_heardBy, a_what, a_said, a_when, a_over, a_part, a_first, a_second, a_user, a_goStage, a_goStep, a_done, va, mm, cn, en, em, a_begun, a_status, a_stageOf, a_began, a_taken, a_demand, a_asked, a_code, a_waits, a_waiting, a_came, a_given, a_got)) :
    ∀ (r : List (Int32 × Nat)) (i : Nat) (c : Nat) (sum : Int32) (last : Int64) (Lo : List (Int32 × Nat)) (va : Nat → Int32) (mm : Nat → Int64) (cn : Nat → Int32), L.drop i = r → i ≤ L.length → Lo.length ≤ i → YA va mm cn a_end a_endMom p Lo none → YA va mm cn a_end a_endMom xq L z → YF p a_val a_mom a_cnt a_end a_endMom va mm cn a_end a_endMom → RES = ((tg 0 (evs r z)).foldl (stp 7 a b) ((d, c, h, hy, f, fy, qx, q, ox, oy), evs Lo none)).2 → c ≤ i → (c < cl b → c = i) → c ≤ cl b → wY_one_13 post (nI 7) b (r.length + 1) sum (nI i) last (nI i) f_stages f_heard f_now f_calls f_parts f_start f_at f_nextX f_nextY f_x f_y a_kind a_opA a_opB a_heardBy a_what a_said a_when a_over a_part a_first a_second a_user a_goStage a_goStep a_done (va) (mm) (cn) a_end a_endMom a_begun a_status a_stageOf a_began a_taken a_demand a_asked a_code a_waits a_waiting a_came a_given a_got := by
  have hcl : f_x.toNatClampNeg = xq := by rw [hfx]; exact nI_clamp (by omega)
  have hin : vp_in f_x 9 := by rw [hfx]; exact vp_in_nI hxq (by decide)
  intro r
  induction r with
  | nil =>
    intro i c sum last Lo va mm cn hr hiL hLo hY hx hF hT hv1 hv2 hv3
    have hiL2 : L.length ≤ i := List.drop_eq_nil_iff.mp hr
    obtain ⟨b1, b2, b3⟩ := yb_m1 hx.2.2.2.1 hx.2.2.2.2.1 (fun w hw => (hx.2.2.2.2.2 w hw).1)
    refine ⟨hin, br_t (by rw [hcl, hx.1]; exact nI_le hiL2 (by omega)) ⟨hin, ?_⟩⟩
    have goon : wY_one_318 post (nI 7) (nI i) f_stages f_heard f_now f_calls f_parts f_start f_at f_nextX f_nextY f_x f_y a_kind a_opA a_opB a_heardBy a_what a_said a_when a_over a_part a_first a_second a_user a_goStage a_goStep a_done (va) (mm) (cn) a_end a_endMom a_begun a_status a_stageOf a_began a_taken a_demand a_asked a_code a_waits a_waiting a_came a_given a_got := by
      have h351 : wY_one_351 post f_stages f_heard f_now f_calls f_parts f_start f_at f_nextX f_nextY f_x f_y a_kind a_opA a_opB a_heardBy a_what a_said a_when a_over a_part a_first a_second a_user a_goStage a_goStep a_done (va) (mm) (cn) a_end a_endMom a_begun a_status a_stageOf a_began a_taken a_demand a_asked a_code a_waits a_waiting a_came a_given a_got := yo_fin1 (k := 7) (a := a) (b := b) (S := (d, c, h, hy, f, fy, qx, q, ox, oy)) hp hxq hat hfx hnow ht hx hz hY hF (fun v m hv => ?_) (fun en em z' h1 h2 h3 => K va mm cn en em Lo z' h1 (h2.trans hT.symm) h3 (by omega))
      · refine ⟨hin, ?_⟩
        by_cases he : a_end f_x.toNatClampNeg = 0
        · exact br_t he (br_f (by decide) h351)
        · exact br_f he h351
      · rw [rn_stp_go (yo_fin Lo)]
        by_cases hv0 : v = 0
        · subst hv0; rfl
        · rw [if_neg hv0]; rfl
    by_cases he : a_end f_x.toNatClampNeg = 0
    · exact br_t he (br_f (by decide) goon)
    · exact br_f he goon
  | cons x r ih =>
    intro i c sum last Lo va mm cn hr hiL hLo hY hx hF hT hv1 hv2 hv3
    have hxi : L[i]? = some x := by rw [← List.head?_drop, hr]; rfl
    have hil := yb_idx hxi
    have hr' : L.drop (i + 1) = r := by rw [← List.drop_drop, hr]; rfl
    have hxt := hL x (List.mem_of_getElem? hxi)
    have hxm := (hx.2.2.1 i x hxi).2.2
    refine yo_head hxq hfx hx hxi (fun sm hsm => ?_)
    rw [yo_tgc, List.foldl_cons, yo_item] at hT
    refine br_f (by decide) ?_
    refine br_f (by decide) ?_
    refine nm_e (nm_r (nI_1 i) (br_f (by decide) ?_))
    refine br_f (by decide) ?_
    refine br_f (by decide) ?_
    by_cases hv : c < cl b
    · refine br_t rfl (br_t (by rw [hb.2]; exact nI_le (by omega) (by omega)) ?_)
      refine br_f (by decide) ?_
      refine br_f (by decide) ?_
      refine br_f (by decide) (nm_r (nI_1 i) ?_)
      refine ih (i + 1) (c + 1) (sum + x.1) last Lo va mm cn hr' (by omega) (by omega) hY hx hF ?_ (by omega) (by omega) (by omega)
      have e : hi 7 b (tim x.2) true x.1 (d, c, h, hy, f, fy, qx, q, ox, oy) = ((d, c + 1, h, hy, f, fy, qx, q, ox, oy), []) := by simp only [hi, if_pos hv]
      rw [e] at hT
      simpa [ems] using hT
    · refine br_t rfl (br_f (by rw [hb.2]; exact nI_ge (by omega) (by omega)) ?_)
      refine yw_put hp hat hnow ht hxm hY (by omega) (fun _ va2 mm2 cn2 g1 g2 => ?_) (fun y => absurd hxt y)
      refine br_f (by decide) ?_
      refine br_f (by decide) ?_
      refine br_f (by decide) (nm_r (nI_1 i) ?_)
      refine ih (i + 1) c (sum + x.1) last (Lo ++ [(x.1, x.2)]) va2 mm2 cn2 hr' (by omega) (by simp; omega) g1 (g2 xq hpx _ _ hx) (yb_trans hF g2) ?_ (by omega) (by omega) (by omega)
      have e : hi 7 b (tim x.2) true x.1 (d, c, h, hy, f, fy, qx, q, ox, oy) = ((d, c, h, hy, f, fy, qx, q, ox, oy), [(1, x.1)]) := by simp only [hi, if_neg hv]
      rw [e] at hT
      rw [yo_snoc]; exact hT
theorem yo_loop8 {post : SY → Prop} {p xq t : Nat} {a b : Int32} {L : List (Int32 × Nat)} {z : Option (Int32 × Nat)} {RES : List Ev} {d : Nat} {hy : Int32} {fy qx ox oy : Bool} {q : List (Int32 × Nat)} (hp : p < 9) (hxq : xq < 9) (hpx : xq ≠ p) (hat : f_at = nI p) (hfx : f_x = nI xq) (hnow : f_now = nI t) (ht : t ≤ 200) (hL : ∀ x ∈ L, tim x.2 ≤ t) (hz : ∀ w, z = some w → tim w.2 ≤ t) (hL250 : L.length ≤ 250) {c : Nat}
    (K : ∀ va mm cn en em L' z', YA va mm cn en em p L' z' → evs L' z' = RES → YF p a_val a_mom a_cnt a_end a_endMom va mm cn en em → L'.length ≤ L.length + 1 → post (f_stages, f_heard, f_now, f_calls, f_parts, f_start, f_at, f_nextX, f_nextY, f_x, f_y, a_kind, a_opA, a_opB, a_heardBy, a_what, a_said, a_when, a_over, a_part, a_first, a_second, a_user, a_goStage, a_goStep, a_done, va, mm, cn, en, em, a_begun, a_status, a_stageOf, a_began, a_taken, a_demand, a_asked, a_code, a_waits, a_waiting, a_came, a_given, a_got)) :
    ∀ (r : List (Int32 × Nat)) (i : Nat) (h : Int32) (f : Bool) (sum : Int32) (nn : Int32) (last : Int64) (Lo : List (Int32 × Nat)) (va : Nat → Int32) (mm : Nat → Int64) (cn : Nat → Int32), L.drop i = r → i ≤ L.length → Lo.length ≤ i → YA va mm cn a_end a_endMom p Lo none → YA va mm cn a_end a_endMom xq L z → YF p a_val a_mom a_cnt a_end a_endMom va mm cn a_end a_endMom → RES = ((tg 0 (evs r z)).foldl (stp 8 a b) ((d, c, h, hy, f, fy, qx, q, ox, oy), evs Lo none)).2 → (f = true → ∃ y, 0 < i ∧ L[i - 1]? = some y ∧ y.1 = h) → (0 < i → f = true) → wY_one_13 post (nI 8) b (r.length + 1) sum nn last (nI i) f_stages f_heard f_now f_calls f_parts f_start f_at f_nextX f_nextY f_x f_y a_kind a_opA a_opB a_heardBy a_what a_said a_when a_over a_part a_first a_second a_user a_goStage a_goStep a_done (va) (mm) (cn) a_end a_endMom a_begun a_status a_stageOf a_began a_taken a_demand a_asked a_code a_waits a_waiting a_came a_given a_got := by
  have hcl : f_x.toNatClampNeg = xq := by rw [hfx]; exact nI_clamp (by omega)
  have hin : vp_in f_x 9 := by rw [hfx]; exact vp_in_nI hxq (by decide)
  intro r
  induction r with
  | nil =>
    intro i h f sum nn last Lo va mm cn hr hiL hLo hY hx hF hT hv1 hv2
    have hiL2 : L.length ≤ i := List.drop_eq_nil_iff.mp hr
    obtain ⟨b1, b2, b3⟩ := yb_m1 hx.2.2.2.1 hx.2.2.2.2.1 (fun w hw => (hx.2.2.2.2.2 w hw).1)
    refine ⟨hin, br_t (by rw [hcl, hx.1]; exact nI_le hiL2 (by omega)) ⟨hin, ?_⟩⟩
    have goon : wY_one_318 post (nI 8) nn f_stages f_heard f_now f_calls f_parts f_start f_at f_nextX f_nextY f_x f_y a_kind a_opA a_opB a_heardBy a_what a_said a_when a_over a_part a_first a_second a_user a_goStage a_goStep a_done (va) (mm) (cn) a_end a_endMom a_begun a_status a_stageOf a_began a_taken a_demand a_asked a_code a_waits a_waiting a_came a_given a_got := by
      have h351 : wY_one_351 post f_stages f_heard f_now f_calls f_parts f_start f_at f_nextX f_nextY f_x f_y a_kind a_opA a_opB a_heardBy a_what a_said a_when a_over a_part a_first a_second a_user a_goStage a_goStep a_done (va) (mm) (cn) a_end a_endMom a_begun a_status a_stageOf a_began a_taken a_demand a_asked a_code a_waits a_waiting a_came a_given a_got := yo_fin1 (k := 8) (a := a) (b := b) (S := (d, c, h, hy, f, fy, qx, q, ox, oy)) hp hxq hat hfx hnow ht hx hz hY hF (fun v m hv => ?_) (fun en em z' h1 h2 h3 => K va mm cn en em Lo z' h1 (h2.trans hT.symm) h3 (by omega))
      · refine ⟨hin, ?_⟩
        by_cases he : a_end f_x.toNatClampNeg = 0
        · exact br_t he (br_f (by decide) h351)
        · exact br_f he h351
      · rw [rn_stp_go (yo_fin Lo)]
        by_cases hv0 : v = 0
        · subst hv0; rfl
        · rw [if_neg hv0]; rfl
    by_cases he : a_end f_x.toNatClampNeg = 0
    · exact br_t he (br_f (by decide) goon)
    · exact br_f he goon
  | cons x r ih =>
    intro i h f sum nn last Lo va mm cn hr hiL hLo hY hx hF hT hv1 hv2
    have hxi : L[i]? = some x := by rw [← List.head?_drop, hr]; rfl
    have hil := yb_idx hxi
    have hr' : L.drop (i + 1) = r := by rw [← List.drop_drop, hr]; rfl
    have hxt := hL x (List.mem_of_getElem? hxi)
    have hxm := (hx.2.2.1 i x hxi).2.2
    refine yo_head hxq hfx hx hxi (fun sm hsm => ?_)
    rw [yo_tgc, List.foldl_cons, yo_item] at hT
    refine br_f (by decide) ?_
    refine br_f (by decide) ?_
    refine nm_e (nm_e (br_f (by decide) ?_))
    refine br_f (by decide) ?_
    refine br_f (by decide) ?_
    refine br_f (by decide) ?_
    have hm2 : (f = true ∧ h = x.1) ↔ sm = true := by
      rw [hsm]
      constructor
      · rintro ⟨h1, h2⟩
        obtain ⟨y, y1, y2⟩ := (hv1 h1)
        exact ⟨y, y1, y2.1, y2.2.trans h2⟩
      · rintro ⟨y, y1, y2, y3⟩
        have := hv2 y1
        obtain ⟨y', z1, z2⟩ := hv1 this
        rw [y2] at z2
        have e := z2.1
        cases e
        exact ⟨this, z2.2.symm.trans y3⟩
    by_cases hv : f = true ∧ h = x.1
    · refine br_t rfl (br_f (by rw [hm2.mp hv]; decide) ?_)
      refine br_f (by decide) ?_
      refine br_f (by decide) (nm_r (nI_1 i) ?_)
      refine ih (i + 1) x.1 true (sum + x.1) (nn + 1) last Lo va mm cn hr' (by omega) (by omega) hY hx hF ?_ (fun _ => ⟨x, by omega, hxi, rfl⟩) (fun _ => rfl)
      have e : hi 8 b (tim x.2) true x.1 (d, c, h, hy, f, fy, qx, q, ox, oy) = ((d, c, x.1, hy, true, fy, qx, q, ox, oy), []) := by simp only [hi, if_pos hv]
      rw [e] at hT
      simpa [ems] using hT
    · have hsf : sm = false := by
        rcases Bool.eq_false_or_eq_true sm with y | y
        · exact absurd (hm2.mpr y) hv
        · exact y
      refine br_t rfl (br_t (by rw [hsf]; rfl) ?_)
      refine yw_put hp hat hnow ht hxm hY (by omega) (fun _ va2 mm2 cn2 g1 g2 => ?_) (fun y => absurd hxt y)
      refine br_f (by decide) ?_
      refine br_f (by decide) (nm_r (nI_1 i) ?_)
      refine ih (i + 1) x.1 true (sum + x.1) (nn + 1) last (Lo ++ [(x.1, x.2)]) va2 mm2 cn2 hr' (by omega) (by simp; omega) g1 (g2 xq hpx _ _ hx) (yb_trans hF g2) ?_ (fun _ => ⟨x, by omega, hxi, rfl⟩) (fun _ => rfl)
      have e : hi 8 b (tim x.2) true x.1 (d, c, h, hy, f, fy, qx, q, ox, oy) = ((d, c, x.1, hy, true, fy, qx, q, ox, oy), [(1, x.1)]) := by simp only [hi, if_neg hv]
      rw [e] at hT
      rw [yo_snoc]; exact hT
theorem yo_loop9 {post : SY → Prop} {p xq t : Nat} {a b : Int32} {L : List (Int32 × Nat)} {z : Option (Int32 × Nat)} {RES : List Ev} {d : Nat} {hy : Int32} {fy qx ox oy : Bool} {q : List (Int32 × Nat)} (hp : p < 9) (hxq : xq < 9) (hpx : xq ≠ p) (hat : f_at = nI p) (hfx : f_x = nI xq) (hnow : f_now = nI t) (ht : t ≤ 200) (hL : ∀ x ∈ L, tim x.2 ≤ t) (hz : ∀ w, z = some w → tim w.2 ≤ t) (hL250 : L.length ≤ 250) {f : Bool} (hb : 2 ≤ cl b ∧ cl b ≤ 5 ∧ b = nI (cl b))
    (K : ∀ va mm cn en em L' z', YA va mm cn en em p L' z' → evs L' z' = RES → YF p a_val a_mom a_cnt a_end a_endMom va mm cn en em → L'.length ≤ L.length + 1 → post (f_stages, f_heard, f_now, f_calls, f_parts, f_start, f_at, f_nextX, f_nextY, f_x, f_y, a_kind, a_opA, a_opB, a_heardBy, a_what, a_said, a_when, a_over, a_part, a_first, a_second, a_user, a_goStage, a_goStep, a_done, va, mm, cn, en, em, a_begun, a_status, a_stageOf, a_began, a_taken, a_demand, a_asked, a_code, a_waits, a_waiting, a_came, a_given, a_got)) :
    ∀ (r : List (Int32 × Nat)) (i : Nat) (c : Nat) (h : Int32) (last : Int64) (Lo : List (Int32 × Nat)) (va : Nat → Int32) (mm : Nat → Int64) (cn : Nat → Int32), L.drop i = r → i ≤ L.length → Lo.length ≤ i → YA va mm cn a_end a_endMom p Lo none → YA va mm cn a_end a_endMom xq L z → YF p a_val a_mom a_cnt a_end a_endMom va mm cn a_end a_endMom → RES = ((tg 0 (evs r z)).foldl (stp 9 a b) ((d, c, h, hy, f, fy, qx, q, ox, oy), evs Lo none)).2 → c < cl b → wY_one_13 post (nI 9) b (r.length + 1) h (nI c) last (nI i) f_stages f_heard f_now f_calls f_parts f_start f_at f_nextX f_nextY f_x f_y a_kind a_opA a_opB a_heardBy a_what a_said a_when a_over a_part a_first a_second a_user a_goStage a_goStep a_done (va) (mm) (cn) a_end a_endMom a_begun a_status a_stageOf a_began a_taken a_demand a_asked a_code a_waits a_waiting a_came a_given a_got := by
  have hcl : f_x.toNatClampNeg = xq := by rw [hfx]; exact nI_clamp (by omega)
  have hin : vp_in f_x 9 := by rw [hfx]; exact vp_in_nI hxq (by decide)
  intro r
  induction r with
  | nil =>
    intro i c h last Lo va mm cn hr hiL hLo hY hx hF hT hv1
    have hiL2 : L.length ≤ i := List.drop_eq_nil_iff.mp hr
    obtain ⟨b1, b2, b3⟩ := yb_m1 hx.2.2.2.1 hx.2.2.2.2.1 (fun w hw => (hx.2.2.2.2.2 w hw).1)
    refine ⟨hin, br_t (by rw [hcl, hx.1]; exact nI_le hiL2 (by omega)) ⟨hin, ?_⟩⟩
    have h351 : ∀ (Lo2 : List (Int32 × Nat)) (va2 : Nat → Int32) (mm2 : Nat → Int64) (cn2 : Nat → Int32), YA va2 mm2 cn2 a_end a_endMom p Lo2 none → YA va2 mm2 cn2 a_end a_endMom xq L z → YF p a_val a_mom a_cnt a_end a_endMom va2 mm2 cn2 a_end a_endMom → Lo2.length ≤ L.length + 1 → (z = none → evs Lo2 none = RES) → (∀ v m, z = some (v, m) → evs Lo2 none ++ [(if v = 0 then 2 else 3, v, m)] = RES) → wY_one_351 post f_stages f_heard f_now f_calls f_parts f_start f_at f_nextX f_nextY f_x f_y a_kind a_opA a_opB a_heardBy a_what a_said a_when a_over a_part a_first a_second a_user a_goStage a_goStep a_done (va2) (mm2) (cn2) a_end a_endMom a_begun a_status a_stageOf a_began a_taken a_demand a_asked a_code a_waits a_waiting a_came a_given a_got := by
      intro Lo2 va2 mm2 cn2 k1 k2 k3 k4 k5 k6
      refine yo_fin1 (k := 3) (a := a) (b := b) (S := (d, c, h, hy, f, fy, qx, q, ox, oy)) hp hxq hat hfx hnow ht k2 hz k1 k3 (fun v m hv => ?_) (fun en em z' h1 h2 h3 => K va2 mm2 cn2 en em Lo2 z' h1 ?_ h3 k4)
      · rw [rn_stp_go (yo_fin Lo2)]
        by_cases hv0 : v = 0
        · subst hv0; rfl
        · rw [if_neg hv0]; rfl
      · rw [h2]
        cases z with
        | none => exact k5 rfl
        | some w =>
          obtain ⟨v, m⟩ := w
          rw [← k6 v m rfl]
          show (stp 3 a b ((d, c, h, hy, f, fy, qx, q, ox, oy), evs Lo2 none) (0, (if v = 0 then 2 else 3), v, m)).2 = _
          rw [rn_stp_go (yo_fin Lo2)]
          by_cases hv0 : v = 0
          · subst hv0; rfl
          · rw [if_neg hv0]; rfl
    by_cases he : a_end f_x.toNatClampNeg = 0
    · obtain ⟨m, hzm⟩ := b3.mp (by rw [← hcl]; exact he)
      have hzm1 := (hx.2.2.2.1 _ hzm).1
      have hzt := hz _ hzm
      have hem : a_endMom f_x.toNatClampNeg = lN m := by rw [hcl]; exact (hx.2.2.2.2.2 _ hzm).2
      have e318 : ∀ (va2 : Nat → Int32) (mm2 : Nat → Int64) (cn2 : Nat → Int32), wY_one_351 post f_stages f_heard f_now f_calls f_parts f_start f_at f_nextX f_nextY f_x f_y a_kind a_opA a_opB a_heardBy a_what a_said a_when a_over a_part a_first a_second a_user a_goStage a_goStep a_done (va2) (mm2) (cn2) a_end a_endMom a_begun a_status a_stageOf a_began a_taken a_demand a_asked a_code a_waits a_waiting a_came a_given a_got → wY_one_318 post (nI 9) (nI c) f_stages f_heard f_now f_calls f_parts f_start f_at f_nextX f_nextY f_x f_y a_kind a_opA a_opB a_heardBy a_what a_said a_when a_over a_part a_first a_second a_user a_goStage a_goStep a_done (va2) (mm2) (cn2) a_end a_endMom a_begun a_status a_stageOf a_began a_taken a_demand a_asked a_code a_waits a_waiting a_came a_given a_got := fun va2 mm2 cn2 h => ⟨hin, br_t he (br_f (by decide) h)⟩
      rw [hzm] at hT
      have hT2 : RES = (stp 9 a b ((d, c, h, hy, f, fy, qx, q, ox, oy), evs Lo none) (0, 2, 0, m)).2 := hT
      rw [rn_stp_go (yo_fin Lo)] at hT2
      have hT3 : RES = evs Lo none ++ ems m (hc 9 b (tim m) true (d, c, h, hy, f, fy, qx, q, ox, oy)).2 := hT2
      refine br_t he (br_t rfl ?_)
      by_cases hc0 : c = 0
      · refine br_t (by rw [hc0]; decide) (e318 _ _ _ (h351 Lo va mm cn hY hx hF (by omega) (fun y => by rw [hzm] at y; simp at y) (fun v m' y => ?_)))
        rw [hzm] at y
        cases y
        rw [hT3, show hc 9 b (tim m) true (d, c, h, hy, f, fy, qx, q, ox, oy) = ((d, c, h, hy, f, fy, qx, q, ox, oy), [(2, 0)]) from by simp [hc, hc0]]; rfl
      · refine br_f (nI_nle (by omega) (by omega)) ⟨hin, ?_⟩
        rw [hem]
        refine yw_put hp hat hnow ht hzm1 hY (by omega) (fun _ va2 mm2 cn2 g1 g2 => e318 _ _ _ (h351 _ va2 mm2 cn2 g1 (g2 xq hpx _ _ hx) (yb_trans hF g2) (by simp; omega) (fun y => by rw [hzm] at y; simp at y) (fun v m' y => ?_))) (fun y => absurd hzt y)
        rw [hzm] at y
        cases y
        rw [hT3, show hc 9 b (tim m) true (d, c, h, hy, f, fy, qx, q, ox, oy) = ((d, c, h, hy, f, fy, qx, q, ox, oy), [(1, h), (2, 0)]) from by simp [hc, hc0], yo_snoc]
        simp [ems]
    · refine br_f he ⟨hin, br_f he ?_⟩
      have hne : ∀ m, z ≠ some (0, m) := fun m y => he (by rw [hcl]; exact b3.mpr ⟨m, y⟩)
      refine h351 Lo va mm cn hY hx hF (by omega) (fun y => ?_) (fun v m y => ?_)
      · rw [hT, y]; rfl
      · have hv0 : v ≠ 0 := fun w => hne m (by rw [y, w])
        rw [hT, y, if_neg hv0]
        show _ = (stp 9 a b ((d, c, h, hy, f, fy, qx, q, ox, oy), evs Lo none) (0, (if v = 0 then 2 else 3), v, m)).2
        rw [rn_stp_go (yo_fin Lo), if_neg hv0]; rfl
  | cons x r ih =>
    intro i c h last Lo va mm cn hr hiL hLo hY hx hF hT hv1
    have hxi : L[i]? = some x := by rw [← List.head?_drop, hr]; rfl
    have hil := yb_idx hxi
    have hr' : L.drop (i + 1) = r := by rw [← List.drop_drop, hr]; rfl
    have hxt := hL x (List.mem_of_getElem? hxi)
    have hxm := (hx.2.2.1 i x hxi).2.2
    refine yo_head hxq hfx hx hxi (fun sm hsm => ?_)
    rw [yo_tgc, List.foldl_cons, yo_item] at hT
    refine br_f (by decide) ?_
    refine br_f (by decide) ?_
    refine nm_e (nm_r (nI_1 c) (br_f (by decide) ?_))
    refine br_f (by decide) ?_
    refine br_f (by decide) ?_
    refine br_f (by decide) ?_
    refine br_f (by decide) ?_
    by_cases hv : c + 1 < cl b
    · refine br_t rfl (br_f (by rw [hb.2.2, nI_eq (by omega) (by omega)]; omega) ?_)
      refine br_f (by decide) (nm_r (nI_1 i) ?_)
      refine ih (i + 1) (c + 1) (h + x.1) last Lo va mm cn hr' (by omega) (by omega) hY hx hF ?_ hv
      have e : hi 9 b (tim x.2) true x.1 (d, c, h, hy, f, fy, qx, q, ox, oy) = ((d, c + 1, h + x.1, hy, f, fy, qx, q, ox, oy), []) := by simp only [hi, if_pos hv]
      rw [e] at hT
      simpa [ems] using hT
    · refine br_t rfl (br_t (by rw [hb.2.2, nI_eq (by omega) (by omega)]; omega) ?_)
      refine yw_put hp hat hnow ht hxm hY (by omega) (fun _ va2 mm2 cn2 g1 g2 => ?_) (fun y => absurd hxt y)
      refine br_f (by decide) (nm_r (nI_1 i) ?_)
      refine ih (i + 1) 0 0 last (Lo ++ [(h + x.1, x.2)]) va2 mm2 cn2 hr' (by omega) (by simp; omega) g1 (g2 xq hpx _ _ hx) (yb_trans hF g2) ?_ (by omega)
      have e : hi 9 b (tim x.2) true x.1 (d, c, h, hy, f, fy, qx, q, ox, oy) = ((d, 0, 0, hy, f, fy, qx, q, ox, oy), [(1, h + x.1)]) := by simp only [hi, if_neg hv]
      rw [e] at hT
      rw [yo_snoc]; exact hT
theorem yo_loop10 {post : SY → Prop} {p xq t : Nat} {a b : Int32} {L : List (Int32 × Nat)} {z : Option (Int32 × Nat)} {RES : List Ev} {d : Nat} {hy : Int32} {fy qx ox oy : Bool} {q : List (Int32 × Nat)} (hp : p < 9) (hxq : xq < 9) (hpx : xq ≠ p) (hat : f_at = nI p) (hfx : f_x = nI xq) (hnow : f_now = nI t) (ht : t ≤ 200) (hL : ∀ x ∈ L, tim x.2 ≤ t) (hz : ∀ w, z = some w → tim w.2 ≤ t) (hL250 : L.length ≤ 250) {h : Int32} {f : Bool}
    (K : ∀ va mm cn en em L' z', YA va mm cn en em p L' z' → evs L' z' = RES → YF p a_val a_mom a_cnt a_end a_endMom va mm cn en em → L'.length ≤ L.length + 1 → post (f_stages, f_heard, f_now, f_calls, f_parts, f_start, f_at, f_nextX, f_nextY, f_x, f_y, a_kind, a_opA, a_opB, a_heardBy, a_what, a_said, a_when, a_over, a_part, a_first, a_second, a_user, a_goStage, a_goStep, a_done, va, mm, cn, en, em, a_begun, a_status, a_stageOf, a_began, a_taken, a_demand, a_asked, a_code, a_waits, a_waiting, a_came, a_given, a_got)) :
    ∀ (r : List (Int32 × Nat)) (i : Nat) (c : Nat) (sum : Int32) (last : Int64) (Lo : List (Int32 × Nat)) (va : Nat → Int32) (mm : Nat → Int64) (cn : Nat → Int32), L.drop i = r → i ≤ L.length → Lo.length ≤ i → YA va mm cn a_end a_endMom p Lo none → YA va mm cn a_end a_endMom xq L z → YF p a_val a_mom a_cnt a_end a_endMom va mm cn a_end a_endMom → RES = ((tg 0 (evs r z)).foldl (stp 10 a b) ((d, c, h, hy, f, fy, qx, q, ox, oy), evs Lo none)).2 → wY_one_13 post (nI 10) b (r.length + 1) sum (nI c) last (nI i) f_stages f_heard f_now f_calls f_parts f_start f_at f_nextX f_nextY f_x f_y a_kind a_opA a_opB a_heardBy a_what a_said a_when a_over a_part a_first a_second a_user a_goStage a_goStep a_done (va) (mm) (cn) a_end a_endMom a_begun a_status a_stageOf a_began a_taken a_demand a_asked a_code a_waits a_waiting a_came a_given a_got := by
  have hcl : f_x.toNatClampNeg = xq := by rw [hfx]; exact nI_clamp (by omega)
  have hin : vp_in f_x 9 := by rw [hfx]; exact vp_in_nI hxq (by decide)
  intro r
  induction r with
  | nil =>
    intro i c sum last Lo va mm cn hr hiL hLo hY hx hF hT 
    have hiL2 : L.length ≤ i := List.drop_eq_nil_iff.mp hr
    obtain ⟨b1, b2, b3⟩ := yb_m1 hx.2.2.2.1 hx.2.2.2.2.1 (fun w hw => (hx.2.2.2.2.2 w hw).1)
    refine ⟨hin, br_t (by rw [hcl, hx.1]; exact nI_le hiL2 (by omega)) ⟨hin, ?_⟩⟩
    have h351 : ∀ (Lo2 : List (Int32 × Nat)) (va2 : Nat → Int32) (mm2 : Nat → Int64) (cn2 : Nat → Int32), YA va2 mm2 cn2 a_end a_endMom p Lo2 none → YA va2 mm2 cn2 a_end a_endMom xq L z → YF p a_val a_mom a_cnt a_end a_endMom va2 mm2 cn2 a_end a_endMom → Lo2.length ≤ L.length + 1 → (z = none → evs Lo2 none = RES) → (∀ v m, z = some (v, m) → evs Lo2 none ++ [(if v = 0 then 2 else 3, v, m)] = RES) → wY_one_351 post f_stages f_heard f_now f_calls f_parts f_start f_at f_nextX f_nextY f_x f_y a_kind a_opA a_opB a_heardBy a_what a_said a_when a_over a_part a_first a_second a_user a_goStage a_goStep a_done (va2) (mm2) (cn2) a_end a_endMom a_begun a_status a_stageOf a_began a_taken a_demand a_asked a_code a_waits a_waiting a_came a_given a_got := by
      intro Lo2 va2 mm2 cn2 k1 k2 k3 k4 k5 k6
      refine yo_fin1 (k := 3) (a := a) (b := b) (S := (d, c, h, hy, f, fy, qx, q, ox, oy)) hp hxq hat hfx hnow ht k2 hz k1 k3 (fun v m hv => ?_) (fun en em z' h1 h2 h3 => K va2 mm2 cn2 en em Lo2 z' h1 ?_ h3 k4)
      · rw [rn_stp_go (yo_fin Lo2)]
        by_cases hv0 : v = 0
        · subst hv0; rfl
        · rw [if_neg hv0]; rfl
      · rw [h2]
        cases z with
        | none => exact k5 rfl
        | some w =>
          obtain ⟨v, m⟩ := w
          rw [← k6 v m rfl]
          show (stp 3 a b ((d, c, h, hy, f, fy, qx, q, ox, oy), evs Lo2 none) (0, (if v = 0 then 2 else 3), v, m)).2 = _
          rw [rn_stp_go (yo_fin Lo2)]
          by_cases hv0 : v = 0
          · subst hv0; rfl
          · rw [if_neg hv0]; rfl
    by_cases he : a_end f_x.toNatClampNeg = 0
    · obtain ⟨m, hzm⟩ := b3.mp (by rw [← hcl]; exact he)
      have hzm1 := (hx.2.2.2.1 _ hzm).1
      have hzt := hz _ hzm
      have hem : a_endMom f_x.toNatClampNeg = lN m := by rw [hcl]; exact (hx.2.2.2.2.2 _ hzm).2
      rw [hzm] at hT
      have hT2 : RES = (stp 10 a b ((d, c, h, hy, f, fy, qx, q, ox, oy), evs Lo none) (0, 2, 0, m)).2 := hT
      rw [rn_stp_go (yo_fin Lo)] at hT2
      have hT3 : RES = evs Lo none ++ ems m (hc 10 b (tim m) true (d, c, h, hy, f, fy, qx, q, ox, oy)).2 := hT2
      refine br_t he (br_f (by decide) ⟨hin, br_t he (br_t rfl ⟨hin, ?_⟩)⟩)
      rw [hem]
      refine yw_put hp hat hnow ht hzm1 hY (by omega) (fun _ va2 mm2 cn2 g1 g2 => h351 _ va2 mm2 cn2 g1 (g2 xq hpx _ _ hx) (yb_trans hF g2) (by simp; omega) (fun y => by rw [hzm] at y; simp at y) (fun v m' y => ?_)) (fun y => absurd hzt y)
      rw [hzm] at y
      cases y
      rw [hT3, yo_snoc]
      simp [ems, hc]
    · refine br_f he ⟨hin, br_f he ?_⟩
      have hne : ∀ m, z ≠ some (0, m) := fun m y => he (by rw [hcl]; exact b3.mpr ⟨m, y⟩)
      refine h351 Lo va mm cn hY hx hF (by omega) (fun y => ?_) (fun v m y => ?_)
      · rw [hT, y]; rfl
      · have hv0 : v ≠ 0 := fun w => hne m (by rw [y, w])
        rw [hT, y, if_neg hv0]
        show _ = (stp 10 a b ((d, c, h, hy, f, fy, qx, q, ox, oy), evs Lo none) (0, (if v = 0 then 2 else 3), v, m)).2
        rw [rn_stp_go (yo_fin Lo), if_neg hv0]; rfl
  | cons x r ih =>
    intro i c sum last Lo va mm cn hr hiL hLo hY hx hF hT 
    have hxi : L[i]? = some x := by rw [← List.head?_drop, hr]; rfl
    have hil := yb_idx hxi
    have hr' : L.drop (i + 1) = r := by rw [← List.drop_drop, hr]; rfl
    have hxt := hL x (List.mem_of_getElem? hxi)
    have hxm := (hx.2.2.1 i x hxi).2.2
    refine yo_head hxq hfx hx hxi (fun sm hsm => ?_)
    rw [yo_tgc, List.foldl_cons, yo_item] at hT
    refine br_f (by decide) ?_
    refine br_f (by decide) ?_
    refine nm_e (nm_r (nI_1 c) (br_f (by decide) ?_))
    refine br_f (by decide) ?_
    refine br_f (by decide) ?_
    refine br_f (by decide) ?_
    refine br_f (by decide) ?_
    refine br_f (by decide) ?_
    refine br_f (by decide) (nm_r (nI_1 i) ?_)
    refine ih (i + 1) (c + 1) (sum + x.1) last Lo va mm cn hr' (by omega) (by omega) hY hx hF ?_ 
    have e : hi 10 b (tim x.2) true x.1 (d, c, h, hy, f, fy, qx, q, ox, oy) = ((d, c + 1, h, hy, f, fy, qx, q, ox, oy), []) := rfl
    rw [e] at hT
    simpa [ems] using hT
theorem yo_loop13 {post : SY → Prop} {p xq t : Nat} {a b : Int32} {L : List (Int32 × Nat)} {z : Option (Int32 × Nat)} {RES : List Ev} {d : Nat} {hy : Int32} {fy qx ox oy : Bool} {q : List (Int32 × Nat)} (hp : p < 9) (hxq : xq < 9) (hpx : xq ≠ p) (hat : f_at = nI p) (hfx : f_x = nI xq) (hnow : f_now = nI t) (ht : t ≤ 200) (hL : ∀ x ∈ L, tim x.2 ≤ t) (hz : ∀ w, z = some w → tim w.2 ≤ t) (hL250 : L.length ≤ 250) {c : Nat}
    (K : ∀ va mm cn en em L' z', YA va mm cn en em p L' z' → evs L' z' = RES → YF p a_val a_mom a_cnt a_end a_endMom va mm cn en em → L'.length ≤ L.length + 1 → post (f_stages, f_heard, f_now, f_calls, f_parts, f_start, f_at, f_nextX, f_nextY, f_x, f_y, a_kind, a_opA, a_opB, a_heardBy, a_what, a_said, a_when, a_over, a_part, a_first, a_second, a_user, a_goStage, a_goStep, a_done, va, mm, cn, en, em, a_begun, a_status, a_stageOf, a_began, a_taken, a_demand, a_asked, a_code, a_waits, a_waiting, a_came, a_given, a_got)) :
    ∀ (r : List (Int32 × Nat)) (i : Nat) (h : Int32) (f : Bool) (sum : Int32) (nn : Int32) (last : Int64) (Lo : List (Int32 × Nat)) (va : Nat → Int32) (mm : Nat → Int64) (cn : Nat → Int32), L.drop i = r → i ≤ L.length → Lo.length ≤ i → YA va mm cn a_end a_endMom p Lo none → YA va mm cn a_end a_endMom xq L z → YF p a_val a_mom a_cnt a_end a_endMom va mm cn a_end a_endMom → RES = ((tg 0 (evs r z)).foldl (stp 13 a b) ((d, c, h, hy, f, fy, qx, q, ox, oy), evs Lo none)).2 → (f = false → last = -1) → (f = true → ∃ ml, last = lN ml ∧ ml < 1000000000000000 ∧ h = nI (tim ml)) → wY_one_13 post (nI 13) b (r.length + 1) sum nn last (nI i) f_stages f_heard f_now f_calls f_parts f_start f_at f_nextX f_nextY f_x f_y a_kind a_opA a_opB a_heardBy a_what a_said a_when a_over a_part a_first a_second a_user a_goStage a_goStep a_done (va) (mm) (cn) a_end a_endMom a_begun a_status a_stageOf a_began a_taken a_demand a_asked a_code a_waits a_waiting a_came a_given a_got := by
  have hcl : f_x.toNatClampNeg = xq := by rw [hfx]; exact nI_clamp (by omega)
  have hin : vp_in f_x 9 := by rw [hfx]; exact vp_in_nI hxq (by decide)
  intro r
  induction r with
  | nil =>
    intro i h f sum nn last Lo va mm cn hr hiL hLo hY hx hF hT hv1 hv2
    have hiL2 : L.length ≤ i := List.drop_eq_nil_iff.mp hr
    obtain ⟨b1, b2, b3⟩ := yb_m1 hx.2.2.2.1 hx.2.2.2.2.1 (fun w hw => (hx.2.2.2.2.2 w hw).1)
    refine ⟨hin, br_t (by rw [hcl, hx.1]; exact nI_le hiL2 (by omega)) ⟨hin, ?_⟩⟩
    have goon : wY_one_318 post (nI 13) nn f_stages f_heard f_now f_calls f_parts f_start f_at f_nextX f_nextY f_x f_y a_kind a_opA a_opB a_heardBy a_what a_said a_when a_over a_part a_first a_second a_user a_goStage a_goStep a_done (va) (mm) (cn) a_end a_endMom a_begun a_status a_stageOf a_began a_taken a_demand a_asked a_code a_waits a_waiting a_came a_given a_got := by
      have h351 : wY_one_351 post f_stages f_heard f_now f_calls f_parts f_start f_at f_nextX f_nextY f_x f_y a_kind a_opA a_opB a_heardBy a_what a_said a_when a_over a_part a_first a_second a_user a_goStage a_goStep a_done (va) (mm) (cn) a_end a_endMom a_begun a_status a_stageOf a_began a_taken a_demand a_asked a_code a_waits a_waiting a_came a_given a_got := yo_fin1 (k := 13) (a := a) (b := b) (S := (d, c, h, hy, f, fy, qx, q, ox, oy)) hp hxq hat hfx hnow ht hx hz hY hF (fun v m hv => ?_) (fun en em z' h1 h2 h3 => K va mm cn en em Lo z' h1 (h2.trans hT.symm) h3 (by omega))
      · refine ⟨hin, ?_⟩
        by_cases he : a_end f_x.toNatClampNeg = 0
        · exact br_t he (br_f (by decide) h351)
        · exact br_f he h351
      · rw [rn_stp_go (yo_fin Lo)]
        by_cases hv0 : v = 0
        · subst hv0; rfl
        · rw [if_neg hv0]; rfl
    by_cases he : a_end f_x.toNatClampNeg = 0
    · exact br_t he (br_f (by decide) goon)
    · exact br_f he goon
  | cons x r ih =>
    intro i h f sum nn last Lo va mm cn hr hiL hLo hY hx hF hT hv1 hv2
    have hxi : L[i]? = some x := by rw [← List.head?_drop, hr]; rfl
    have hil := yb_idx hxi
    have hr' : L.drop (i + 1) = r := by rw [← List.drop_drop, hr]; rfl
    have hxt := hL x (List.mem_of_getElem? hxi)
    have hxm := (hx.2.2.1 i x hxi).2.2
    refine yo_head hxq hfx hx hxi (fun sm hsm => ?_)
    rw [yo_tgc, List.foldl_cons, yo_item] at hT
    refine br_f (by decide) ?_
    refine br_f (by decide) ?_
    refine nm_e (nm_e (br_f (by decide) ?_))
    refine br_f (by decide) ?_
    refine br_f (by decide) ?_
    refine br_f (by decide) ?_
    refine br_f (by decide) ?_
    refine br_f (by decide) ?_
    have hgo : ¬ (f = true ∧ nI (tim x.2) - h < b) → wY_one_263 post (wY_one_13 post (nI 13) b (r.length + 1)) (nI 13) b (sum + x.1) (nn + 1) (nI i) x.1 (lN x.2) f_stages f_heard f_now f_calls f_parts f_start f_at f_nextX f_nextY f_x f_y a_kind a_opA a_opB a_heardBy a_what a_said a_when a_over a_part a_first a_second a_user a_goStage a_goStep a_done (va) (mm) (cn) a_end a_endMom a_begun a_status a_stageOf a_began a_taken a_demand a_asked a_code a_waits a_waiting a_came a_given a_got := by
      intro hv
      refine yw_put hp hat hnow ht hxm hY (by omega) (fun _ va2 mm2 cn2 g1 g2 => ?_) (fun y => absurd hxt y)
      refine nm_r (nI_1 i) ?_
      refine ih (i + 1) (nI (tim x.2)) true (sum + x.1) (nn + 1) (lN x.2) (Lo ++ [(x.1, x.2)]) va2 mm2 cn2 hr' (by omega) (by simp; omega) g1 (g2 xq hpx _ _ hx) (yb_trans hF g2) ?_ (fun y => absurd y (by decide)) (fun _ => ⟨x.2, rfl, hxm, rfl⟩)
      have e : hi 13 b (tim x.2) true x.1 (d, c, h, hy, f, fy, qx, q, ox, oy) = ((d, c, nI (tim x.2), hy, true, fy, qx, q, ox, oy), [(1, x.1)]) := by simp only [hi, if_neg hv]
      rw [e] at hT
      rw [yo_snoc]; exact hT
    refine br_t rfl ?_
    rcases Bool.eq_false_or_eq_true f with hf | hf
    · obtain ⟨ml, e1, e2, e3⟩ := hv2 hf
      rw [e1]
      refine br_f (by rw [show (0 : Int64) = lN 0 from by decide, pk_lLT (by omega) (by decide)]; omega) ?_
      show (_ → _) ∧ (_ → _)
      rw [ts_time (by omega), ts_time (by omega)]
      by_cases hv : nI (tim x.2) - h < b
      · refine br_t (by rw [← e3]; exact hv) (nm_r (nI_1 i) ?_)
        rw [← e1]
        refine ih (i + 1) h f (sum + x.1) (nn + 1) last Lo va mm cn hr' (by omega) (by omega) hY hx hF ?_ hv1 hv2
        have e : hi 13 b (tim x.2) true x.1 (d, c, h, hy, f, fy, qx, q, ox, oy) = ((d, c, h, hy, f, fy, qx, q, ox, oy), []) := by simp only [hi, if_pos (And.intro hf hv)]
        rw [e] at hT
        simpa [ems] using hT
      · exact br_f (by rw [← e3]; exact hv) (hgo (fun y => hv y.2))
    · rw [hv1 hf]
      exact br_t (by decide) (hgo (fun y => by rw [hf] at y; exact absurd y.1 (by decide)))
end
