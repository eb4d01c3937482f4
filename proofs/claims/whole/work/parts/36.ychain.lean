/-! ===== the reference: one whole, chain ===== -/
section
variable {f_stages : Int32} {f_heard : Int32} {f_now : Int32} {f_calls : Int64} {f_parts : Int32} {f_start : Int64} {f_at : Int32} {f_nextX : Int32} {f_nextY : Int32} {f_x : Int32} {f_y : Int32} {a_kind : (Nat → Int32)} {a_opA : (Nat → Int32)} {a_opB : (Nat → Int32)} {a_heardBy : (Nat → Int32)} {a_what : (Nat → Int32)} {a_said : (Nat → Int32)} {a_when : (Nat → Int64)} {a_over : (Nat → Int32)} {a_part : (Nat → Int32)} {a_first : (Nat → Int32)} {a_second : (Nat → Int32)} {a_user : (Nat → Int32)} {a_goStage : (Nat → Int32)} {a_goStep : (Nat → Int32)} {a_done : (Nat → Int32)} {a_val : (Nat → Int32)} {a_mom : (Nat → Int64)} {a_cnt : (Nat → Int32)} {a_end : (Nat → Int32)} {a_endMom : (Nat → Int64)} {a_begun : (Nat → Int32)} {a_status : (Nat → Int32)} {a_stageOf : (Nat → Int32)} {a_began : (Nat → Int64)} {a_taken : (Nat → Int32)} {a_demand : (Nat → Int64)} {a_asked : (Nat → Int32)} {a_code : (Nat → Int32)} {a_waits : (Nat → Int32)} {a_waiting : (Nat → Int32)} {a_came : (Nat → Int32)} {a_given : (Nat → Int32)} {a_got : (Nat → Int64)}
theorem yc_one {post : SY → Prop} {p xq t k fr c : Nat} {a b : Int32} {lg : List Lg} {L : List (Int32 × Nat)} {z : Option (Int32 × Nat)} {Hy : List Ev} (hp : p < 9) (hxq : xq < 9) (hpx : xq ≠ p) (hat : f_at = nI p) (hfx : f_x = nI xq) (hnow : f_now = nI t) (ht : t ≤ 200) (hL : ∀ x ∈ L, tim x.2 ≤ t) (hz : ∀ w, z = some w → tim w.2 ≤ t) (hL250 : L.length ≤ 250)
    (ho : opk k a b) (h3 : 3 ≤ k) (h13 : k ≤ 10 ∨ k = 13) (hY : YA a_val a_mom a_cnt a_end a_endMom p [] none) (hx : YA a_val a_mom a_cnt a_end a_endMom xq L z)
    (K : ∀ va mm cn en em L' z', YA va mm cn en em p L' z' → evs L' z' = (RR k a b p fr lg c (evs L z) Hy).2 → YF p a_val a_mom a_cnt a_end a_endMom va mm cn en em → L'.length ≤ L.length + 1 → post (f_stages, f_heard, f_now, f_calls, f_parts, f_start, f_at, f_nextX, f_nextY, f_x, f_y, a_kind, a_opA, a_opB, a_heardBy, a_what, a_said, a_when, a_over, a_part, a_first, a_second, a_user, a_goStage, a_goStep, a_done, va, mm, cn, en, em, a_begun, a_status, a_stageOf, a_began, a_taken, a_demand, a_asked, a_code, a_waits, a_waiting, a_came, a_given, a_got)) :
    wpY_one post (f_stages, f_heard, f_now, f_calls, f_parts, f_start, f_at, f_nextX, f_nextY, f_x, f_y, a_kind, a_opA, a_opB, a_heardBy, a_what, a_said, a_when, a_over, a_part, a_first, a_second, a_user, a_goStage, a_goStep, a_done, a_val, a_mom, a_cnt, a_end, a_endMom, a_begun, a_status, a_stageOf, a_began, a_taken, a_demand, a_asked, a_code, a_waits, a_waiting, a_came, a_given, a_got) (nI k) b := by
  have hRR : (RR k a b p fr lg c (evs L z) Hy).2 = ((tg 0 (evs L z)).foldl (stp k a b) (ini k a b (tim fr), evs [] none)).2 := by
    unfold RR
    rw [if_neg (by omega), if_neg (by omega)]
    unfold inp
    have ht : ¬ tmd k = true := by simp only [tmd, Bool.or_eq_true, beq_iff_eq]; omega
    rw [if_neg (by omega), if_neg (by omega), if_pos (by omega), if_neg ht]
    rfl
  have hkk : k = 3 ∨ k = 4 ∨ k = 5 ∨ k = 6 ∨ k = 7 ∨ k = 8 ∨ k = 9 ∨ k = 10 ∨ k = 13 := by omega
  refine ⟨L.length + 1, ?_⟩
  obtain ⟨o20, o0, o1, o6, o7, o9, o11⟩ := ho
  rcases hkk with e | e | e | e | e | e | e | e | e <;> subst e
  · exact yo_loop3 hp hxq hpx hat hfx hnow ht hL hz hL250 K L 0 0 0 (-1) [] a_val a_mom a_cnt rfl (Nat.zero_le _) (Nat.le_refl _) hY hx yb_refl hRR 
  · exact yo_loop4 hp hxq hpx hat hfx hnow ht hL hz hL250 K L 0 0 0 (-1) [] a_val a_mom a_cnt rfl (Nat.zero_le _) (Nat.le_refl _) hY hx yb_refl hRR 
  · exact yo_loop5 hp hxq hpx hat hfx hnow ht hL hz hL250 K L 0 b 0 0 (-1) [] a_val a_mom a_cnt rfl (Nat.zero_le _) (Nat.le_refl _) hY hx yb_refl hRR (by rw [Int32.add_zero])
  · exact yo_loop6 hp hxq hpx hat hfx hnow ht hL hz hL250 (o6 rfl) K L 0 0 0 (-1) [] a_val a_mom a_cnt rfl (Nat.zero_le _) (Nat.le_refl _) hY hx yb_refl hRR (by have := o6 rfl; omega)
  · exact yo_loop7 hp hxq hpx hat hfx hnow ht hL hz hL250 (o7 rfl) K L 0 0 0 (-1) [] a_val a_mom a_cnt rfl (Nat.zero_le _) (Nat.le_refl _) hY hx yb_refl hRR (by omega) (fun _ => rfl) (Nat.zero_le _)
  · exact yo_loop8 hp hxq hpx hat hfx hnow ht hL hz hL250 K L 0 0 false 0 0 (-1) [] a_val a_mom a_cnt rfl (Nat.zero_le _) (Nat.le_refl _) hY hx yb_refl hRR (fun y => absurd y (by decide)) (fun y => by omega)
  · exact yo_loop9 hp hxq hpx hat hfx hnow ht hL hz hL250 (o9 rfl) K L 0 0 0 (-1) [] a_val a_mom a_cnt rfl (Nat.zero_le _) (Nat.le_refl _) hY hx yb_refl hRR (by have := o9 rfl; omega)
  · exact yo_loop10 hp hxq hpx hat hfx hnow ht hL hz hL250 K L 0 0 0 (-1) [] a_val a_mom a_cnt rfl (Nat.zero_le _) (Nat.le_refl _) hY hx yb_refl hRR 
  · exact yo_loop13 hp hxq hpx hat hfx hnow ht hL hz hL250 K L 0 0 false 0 0 (-1) [] a_val a_mom a_cnt rfl (Nat.zero_le _) (Nat.le_refl _) hY hx yb_refl hRR (fun _ => rfl) (fun y => absurd y (by decide))
/-- an item passes a chain -/
theorem yc_citem {k : Nat} {a b : Int32} {S : PSt} {Lo : List (Int32 × Nat)} {v : Int32} {m s : Nat} (hk : k = 19 ∨ k = 20) (hs : s < 2) : stp k a b (S, evs Lo none) (s, 1, v, m) = (S, evs (Lo ++ [(v, m)]) none) := by
  rw [rn_stp_go (yo_fin Lo), yo_snoc]
  obtain ⟨d, c, h, hy, f, fy, qx, q, ox, oy⟩ := S
  unfold rsp
  rw [if_neg (by show ¬ s = 2; omega)]
  rcases hk with e | e <;> subst e <;> rfl
theorem yc_tg1 (x : Int32 × Nat) (r : List (Int32 × Nat)) (z : Option (Int32 × Nat)) : tg 1 (evs (x :: r) z) = (1, 1, x.1, x.2) :: tg 1 (evs r z) := by simp [evs, tg]
theorem yc_y {post : SY → Prop} {p yq t k : Nat} {a b : Int32} {L Lx : List (Int32 × Nat)} {z : Option (Int32 × Nat)} {RES : List Ev} {S : PSt} (hk : k = 19 ∨ k = 20) (hp : p < 9) (hyq : yq < 9) (hpy : yq ≠ p) (hat : f_at = nI p) (hfy : f_y = nI yq) (hnow : f_now = nI t) (ht : t ≤ 200) (hL : ∀ x ∈ L, tim x.2 ≤ t) (hz : ∀ w, z = some w → tim w.2 ≤ t) (hL250 : Lx.length + L.length ≤ 250)
    (K : ∀ va mm cn en em L' z', YA va mm cn en em p L' z' → evs L' z' = RES → YF p a_val a_mom a_cnt a_end a_endMom va mm cn en em → L'.length ≤ Lx.length + L.length → post (f_stages, f_heard, f_now, f_calls, f_parts, f_start, f_at, f_nextX, f_nextY, f_x, f_y, a_kind, a_opA, a_opB, a_heardBy, a_what, a_said, a_when, a_over, a_part, a_first, a_second, a_user, a_goStage, a_goStep, a_done, va, mm, cn, en, em, a_begun, a_status, a_stageOf, a_began, a_taken, a_demand, a_asked, a_code, a_waits, a_waiting, a_came, a_given, a_got)) :
    ∀ (r : List (Int32 × Nat)) (i : Nat) (Lo : List (Int32 × Nat)) (va : Nat → Int32) (mm : Nat → Int64) (cn : Nat → Int32), L.drop i = r → i ≤ L.length → Lo.length = Lx.length + i → YA va mm cn a_end a_endMom p Lo none → YA va mm cn a_end a_endMom yq L z → YF p a_val a_mom a_cnt a_end a_endMom va mm cn a_end a_endMom → RES = ((tg 1 (evs r z)).foldl (stp k a b) (S, evs Lo none)).2 → wY_chain_112 post (r.length + 1) (nI i) f_stages f_heard f_now f_calls f_parts f_start f_at f_nextX f_nextY f_x f_y a_kind a_opA a_opB a_heardBy a_what a_said a_when a_over a_part a_first a_second a_user a_goStage a_goStep a_done (va) (mm) (cn) a_end a_endMom a_begun a_status a_stageOf a_began a_taken a_demand a_asked a_code a_waits a_waiting a_came a_given a_got := by
  have hcl : f_y.toNatClampNeg = yq := by rw [hfy]; exact nI_clamp (by omega)
  have hin : vp_in f_y 9 := by rw [hfy]; exact vp_in_nI hyq (by decide)
  intro r
  induction r with
  | nil =>
    intro i Lo va mm cn hr hiL hLo hY hx hF hT
    have hiL2 : L.length ≤ i := List.drop_eq_nil_iff.mp hr
    obtain ⟨b1, b2, b3⟩ := yb_m1 hx.2.2.2.1 hx.2.2.2.2.1 (fun w hw => (hx.2.2.2.2.2 w hw).1)
    refine ⟨hin, br_t (by rw [hcl, hx.1]; exact nI_le hiL2 (by omega)) ⟨hin, ?_⟩⟩
    cases z with
    | none => exact br_t (by rw [hcl]; exact b1.mpr rfl) (K va mm cn a_end a_endMom Lo none hY hT.symm hF (by omega))
    | some w =>
      obtain ⟨v, m⟩ := w
      obtain ⟨hm1, j, hj, ej⟩ := hx.2.2.2.1 (v, m) rfl
      have he := hx.2.2.2.2.2 (v, m) rfl
      refine br_f (by rw [hcl]; exact fun y => by have := b1.mp y; simp at this) ⟨hin, hin, ?_⟩
      rw [show a_end f_y.toNatClampNeg = v from by rw [hcl]; exact he.1, show a_endMom f_y.toNatClampNeg = lN m from by rw [hcl]; exact he.2]
      refine yw_stop hp hat hnow ht hm1 hj ej hY (fun _ en em h1 h2 => K va mm cn en em Lo (some (v, m)) h1 ?_ (yb_trans hF h2) (by omega)) (fun y => absurd (hz _ rfl) y)
      have hT2 : RES = (stp k a b (S, evs Lo none) (1, (if v = 0 then 2 else 3), v, m)).2 := hT
      rw [hT2, rn_stp_go (yo_fin Lo), yo_end]
      obtain ⟨d, c, h, hy, f, fy, qx, q, ox, oy⟩ := S
      by_cases hv0 : v = 0
      · subst hv0
        rcases hk with e | e <;> subst e <;> rfl
      · rw [if_neg hv0]
        rcases hk with e | e <;> subst e <;> rfl
  | cons x r ih =>
    intro i Lo va mm cn hr hiL hLo hY hx hF hT
    have hxi : L[i]? = some x := by rw [← List.head?_drop, hr]; rfl
    have hil := yb_idx hxi
    have hr' : L.drop (i + 1) = r := by rw [← List.drop_drop, hr]; rfl
    have hxt := hL x (List.mem_of_getElem? hxi)
    have hxm := (hx.2.2.1 i x hxi).2.2
    rw [yc_tg1, List.foldl_cons, yc_citem hk (by decide)] at hT
    refine ⟨hin, br_f (by rw [hcl, hx.1]; exact nI_ge hil (by omega)) ?_⟩
    rw [hfy]
    refine yw_word (f_y := nI yq) hyq hx hxi (yw_of (f_y := nI yq) hyq hx hxi ?_)
    rw [← hfy]
    refine yw_put hp hat hnow ht hxm hY (by omega) (fun _ va2 mm2 cn2 g1 g2 => nm_r (nI_1 i) ?_) (fun y => absurd hxt y)
    exact ih (i + 1) (Lo ++ [(x.1, x.2)]) va2 mm2 cn2 hr' (by omega) (by simp; omega) g1 (g2 yq hpy _ _ hx) (yb_trans hF g2) hT
theorem yc_x {post : SY → Prop} {p xq yq t k : Nat} {a b : Int32} {L Ly : List (Int32 × Nat)} {z zy : Option (Int32 × Nat)} {RES : List Ev} {S : PSt} (hk : k = 19 ∨ k = 20) (hp : p < 9) (hxq : xq < 9) (hyq : yq < 9) (hpx : xq ≠ p) (hpy : yq ≠ p) (hat : f_at = nI p) (hfx : f_x = nI xq) (hfy : f_y = nI yq) (hnow : f_now = nI t) (ht : t ≤ 200) (hL : ∀ x ∈ L, tim x.2 ≤ t) (hz : ∀ w, z = some w → tim w.2 ≤ t) (hLy : ∀ x ∈ Ly, tim x.2 ≤ t) (hzy : ∀ w, zy = some w → tim w.2 ≤ t) (hL250 : L.length + Ly.length ≤ 250) (hyn : z = none → Ly = [] ∧ zy = none)
    (K : ∀ va mm cn en em L' z', YA va mm cn en em p L' z' → evs L' z' = RES → YF p a_val a_mom a_cnt a_end a_endMom va mm cn en em → L'.length ≤ L.length + Ly.length → post (f_stages, f_heard, f_now, f_calls, f_parts, f_start, f_at, f_nextX, f_nextY, f_x, f_y, a_kind, a_opA, a_opB, a_heardBy, a_what, a_said, a_when, a_over, a_part, a_first, a_second, a_user, a_goStage, a_goStep, a_done, va, mm, cn, en, em, a_begun, a_status, a_stageOf, a_began, a_taken, a_demand, a_asked, a_code, a_waits, a_waiting, a_came, a_given, a_got)) :
    ∀ (r : List (Int32 × Nat)) (i : Nat) (Lo : List (Int32 × Nat)) (va : Nat → Int32) (mm : Nat → Int64) (cn : Nat → Int32), L.drop i = r → i ≤ L.length → Lo.length = i → YA va mm cn a_end a_endMom p Lo none → YA va mm cn a_end a_endMom xq L z → YA va mm cn a_end a_endMom yq Ly zy → YF p a_val a_mom a_cnt a_end a_endMom va mm cn a_end a_endMom → RES = ((tg 0 (evs r z) ++ tg 1 (evs Ly zy)).foldl (stp k a b) (S, evs Lo none)).2 → wY_chain_2 post (nI k) (r.length + 1) (nI i) f_stages f_heard f_now f_calls f_parts f_start f_at f_nextX f_nextY f_x f_y a_kind a_opA a_opB a_heardBy a_what a_said a_when a_over a_part a_first a_second a_user a_goStage a_goStep a_done (va) (mm) (cn) a_end a_endMom a_begun a_status a_stageOf a_began a_taken a_demand a_asked a_code a_waits a_waiting a_came a_given a_got := by
  have hcl : f_x.toNatClampNeg = xq := by rw [hfx]; exact nI_clamp (by omega)
  have hin : vp_in f_x 9 := by rw [hfx]; exact vp_in_nI hxq (by decide)
  intro r
  induction r with
  | nil =>
    intro i Lo va mm cn hr hiL hLo hY hx hy hF hT
    have hiL2 : L.length ≤ i := List.drop_eq_nil_iff.mp hr
    obtain ⟨b1, b2, b3⟩ := yb_m1 hx.2.2.2.1 hx.2.2.2.2.1 (fun w hw => (hx.2.2.2.2.2 w hw).1)
    refine ⟨hin, br_t (by rw [hcl, hx.1]; exact nI_le hiL2 (by omega)) ⟨hin, ?_⟩⟩
    cases z with
    | none =>
      obtain ⟨e1, e2⟩ := hyn rfl
      subst e1 e2
      exact br_f (by rw [hcl]; exact fun y => b2.mp y rfl) (K va mm cn a_end a_endMom Lo none hY hT.symm hF (by omega))
    | some w =>
      obtain ⟨v, m⟩ := w
      obtain ⟨hm1, j, hj, ej⟩ := hx.2.2.2.1 (v, m) rfl
      have he := hx.2.2.2.2.2 (v, m) rfl
      have hev : a_end f_x.toNatClampNeg = v := by rw [hcl]; exact he.1
      have hem : a_endMom f_x.toNatClampNeg = lN m := by rw [hcl]; exact he.2
      have hT2 : RES = ((tg 1 (evs Ly zy)).foldl (stp k a b) (stp k a b (S, evs Lo none) (0, (if v = 0 then 2 else 3), v, m))).2 := hT
      have copy : ∀ S' : PSt, stp k a b (S, evs Lo none) (0, (if v = 0 then 2 else 3), v, m) = (S', evs Lo none) → ∃ n112 : Nat, wY_chain_112 post n112 0 f_stages f_heard f_now f_calls f_parts f_start f_at f_nextX f_nextY f_x f_y a_kind a_opA a_opB a_heardBy a_what a_said a_when a_over a_part a_first a_second a_user a_goStage a_goStep a_done (va) (mm) (cn) a_end a_endMom a_begun a_status a_stageOf a_began a_taken a_demand a_asked a_code a_waits a_waiting a_came a_given a_got := by
        intro S' hS'
        rw [hS'] at hT2
        exact ⟨Ly.length + 1, yc_y hk hp hyq hpy hat hfy hnow ht hLy hzy hL250 K Ly 0 Lo va mm cn rfl (Nat.zero_le _) (by omega) hY hy hF hT2⟩
      have stopit : stp k a b (S, evs Lo none) (0, (if v = 0 then 2 else 3), v, m) = (S, evs Lo (some (v, m))) → (vp_in f_x 9 ∧ (vp_in f_x 9 ∧ (wpY_stop (fun u => match u with | (f_stages, f_heard, f_now, f_calls, f_parts, f_start, f_at, f_nextX, f_nextY, f_x, f_y, a_kind, a_opA, a_opB, a_heardBy, a_what, a_said, a_when, a_over, a_part, a_first, a_second, a_user, a_goStage, a_goStep, a_done, a_val, a_mom, a_cnt, a_end, a_endMom, a_begun, a_status, a_stageOf, a_began, a_taken, a_demand, a_asked, a_code, a_waits, a_waiting, a_came, a_given, a_got) => (post (f_stages, f_heard, f_now, f_calls, f_parts, f_start, f_at, f_nextX, f_nextY, f_x, f_y, a_kind, a_opA, a_opB, a_heardBy, a_what, a_said, a_when, a_over, a_part, a_first, a_second, a_user, a_goStage, a_goStep, a_done, a_val, a_mom, a_cnt, a_end, a_endMom, a_begun, a_status, a_stageOf, a_began, a_taken, a_demand, a_asked, a_code, a_waits, a_waiting, a_came, a_given, a_got))) (f_stages, f_heard, f_now, f_calls, f_parts, f_start, f_at, f_nextX, f_nextY, f_x, f_y, a_kind, a_opA, a_opB, a_heardBy, a_what, a_said, a_when, a_over, a_part, a_first, a_second, a_user, a_goStage, a_goStep, a_done, va, mm, cn, a_end, a_endMom, a_begun, a_status, a_stageOf, a_began, a_taken, a_demand, a_asked, a_code, a_waits, a_waiting, a_came, a_given, a_got) (a_end f_x.toNatClampNeg) (a_endMom f_x.toNatClampNeg)))) := by
        intro hS'
        rw [hS', rn_fold_fin _ _ (by rw [yo_end, rn_fin_app]; by_cases hv0 : v = 0 <;> simp [fin, hv0])] at hT2
        refine ⟨hin, hin, ?_⟩
        rw [hev, hem]
        exact yw_stop hp hat hnow ht hm1 hj ej hY (fun _ en em h1 h2 => K va mm cn en em Lo (some (v, m)) h1 hT2.symm (yb_trans hF h2) (by omega)) (fun y => absurd (hz _ rfl) y)
      refine br_t (by rw [hev, show v = nI j from ej]; exact nI_pos' (by omega)) ⟨hin, ?_⟩
      obtain ⟨d, c, h, hyy, f, fy, qx, q, ox, oy⟩ := S
      by_cases hv0 : v = 0
      · subst hv0
        refine br_t hev ?_
        rcases hk with e | e
        · subst e
          refine br_t rfl (br_t rfl ?_)
          refine copy (d, c, h, hyy, f, fy, qx, q, true, oy) ?_
          rw [rn_stp_go (yo_fin Lo)]
          show ((d, c, h, hyy, f, fy, qx, q, true, oy), evs Lo none ++ []) = _
          rw [List.append_nil]
        · subst e
          refine br_f (by decide) (br_f (by decide) (stopit ?_))
          rw [rn_stp_go (yo_fin Lo), yo_end]
          rfl
      · refine br_f (by rw [hev]; exact hv0) ?_
        rcases hk with e | e
        · subst e
          refine br_t rfl (br_f (by decide) (stopit ?_))
          rw [rn_stp_go (yo_fin Lo), yo_end, if_neg hv0]
          rfl
        · subst e
          refine br_f (by decide) (br_t rfl ?_)
          refine copy (d, c, h, hyy, f, fy, qx, q, true, oy) ?_
          rw [rn_stp_go (yo_fin Lo), if_neg hv0]
          show ((d, c, h, hyy, f, fy, qx, q, true, oy), evs Lo none ++ []) = _
          rw [List.append_nil]
  | cons x r ih =>
    intro i Lo va mm cn hr hiL hLo hY hx hy hF hT
    have hxi : L[i]? = some x := by rw [← List.head?_drop, hr]; rfl
    have hil := yb_idx hxi
    have hr' : L.drop (i + 1) = r := by rw [← List.drop_drop, hr]; rfl
    have hxt := hL x (List.mem_of_getElem? hxi)
    have hxm := (hx.2.2.1 i x hxi).2.2
    rw [yo_tgc, List.cons_append, List.foldl_cons, yc_citem hk (by decide)] at hT
    refine ⟨hin, br_f (by rw [hcl, hx.1]; exact nI_ge hil (by omega)) ?_⟩
    rw [hfx]
    refine yw_word (f_x := nI xq) hxq hx hxi (yw_of (f_x := nI xq) hxq hx hxi ?_)
    rw [← hfx]
    refine yw_put hp hat hnow ht hxm hY (by omega) (fun _ va2 mm2 cn2 g1 g2 => nm_r (nI_1 i) ?_) (fun y => absurd hxt y)
    exact ih (i + 1) (Lo ++ [(x.1, x.2)]) va2 mm2 cn2 hr' (by omega) (by simp; omega) g1 (g2 xq hpx _ _ hx) (g2 yq hpy _ _ hy) (yb_trans hF g2) hT
theorem yc_chain {post : SY → Prop} {p xq yq t k fr c : Nat} {a b : Int32} {lg : List Lg} {L Ly : List (Int32 × Nat)} {z zy : Option (Int32 × Nat)} (hk : k = 19 ∨ k = 20) (hp : p < 9) (hxq : xq < 9) (hyq : yq < 9) (hpx : xq ≠ p) (hpy : yq ≠ p) (hat : f_at = nI p) (hfx : f_x = nI xq) (hfy : f_y = nI yq) (hnow : f_now = nI t) (ht : t ≤ 200) (hL : ∀ x ∈ L, tim x.2 ≤ t) (hz : ∀ w, z = some w → tim w.2 ≤ t) (hLy : ∀ x ∈ Ly, tim x.2 ≤ t) (hzy : ∀ w, zy = some w → tim w.2 ≤ t) (hL250 : L.length + Ly.length ≤ 250) (hyn : z = none → Ly = [] ∧ zy = none)
    (hY : YA a_val a_mom a_cnt a_end a_endMom p [] none) (hx : YA a_val a_mom a_cnt a_end a_endMom xq L z) (hy : YA a_val a_mom a_cnt a_end a_endMom yq Ly zy)
    (K : ∀ va mm cn en em L' z', YA va mm cn en em p L' z' → evs L' z' = (RR k a b p fr lg c (evs L z) (evs Ly zy)).2 → YF p a_val a_mom a_cnt a_end a_endMom va mm cn en em → L'.length ≤ L.length + Ly.length → post (f_stages, f_heard, f_now, f_calls, f_parts, f_start, f_at, f_nextX, f_nextY, f_x, f_y, a_kind, a_opA, a_opB, a_heardBy, a_what, a_said, a_when, a_over, a_part, a_first, a_second, a_user, a_goStage, a_goStep, a_done, va, mm, cn, en, em, a_begun, a_status, a_stageOf, a_began, a_taken, a_demand, a_asked, a_code, a_waits, a_waiting, a_came, a_given, a_got)) :
    wpY_chain post (f_stages, f_heard, f_now, f_calls, f_parts, f_start, f_at, f_nextX, f_nextY, f_x, f_y, a_kind, a_opA, a_opB, a_heardBy, a_what, a_said, a_when, a_over, a_part, a_first, a_second, a_user, a_goStage, a_goStep, a_done, a_val, a_mom, a_cnt, a_end, a_endMom, a_begun, a_status, a_stageOf, a_began, a_taken, a_demand, a_asked, a_code, a_waits, a_waiting, a_came, a_given, a_got) (nI k) := by
  refine ⟨L.length + 1, yc_x (a := a) (b := b) (S := ini k a b (tim fr)) hk hp hxq hyq hpx hpy hat hfx hfy hnow ht hL hz hLy hzy hL250 hyn K L 0 [] a_val a_mom a_cnt rfl (Nat.zero_le _) rfl hY hx hy yb_refl ?_⟩
  unfold RR
  rw [if_neg (by omega), if_neg (by omega)]
  unfold inp
  rw [if_neg (by omega), if_neg (by omega), if_neg (by omega), if_neg (by omega)]
  rfl
end
