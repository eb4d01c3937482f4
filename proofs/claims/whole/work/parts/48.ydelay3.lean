/-! ===== the reference: delay, the loop ===== -/
theorem yk_hear {bn c cx : Nat} {a b h hy : Int32} {f fy qx ox oy : Bool} {P : List (Int32 × Nat)} {x : Int32 × Nat} {Lo : List (Int32 × Nat)} (hb : cl b = bn) (hx : c < due bn x) (h8 : (dhi bn c P).length < 8) : stp 11 a b (DS bn c 0 cx h hy f fy qx ox oy P, evs Lo none) (0, 1, x.1, x.2) = (DS bn c 0 cx h hy f fy qx ox oy (P ++ [x]), evs Lo none) := by
  subst hb
  rw [yo_item]
  unfold DS
  have h8' : ((dhi (cl b) c P).map (qv (cl b))).length < 8 := by simpa using h8
  simp only [hi, if_pos h8']
  have e : dhi (cl b) c (P ++ [x]) = dhi (cl b) c P ++ [x] := by
    unfold dhi
    rw [List.filter_append, List.filter_cons_of_pos (by simpa using hx)]
    rfl
  rw [e, List.map_append]
  show (_, evs Lo none ++ []) = _
  rw [List.append_nil]
  rfl
theorem yk_full {bn c cx : Nat} {a b h hy : Int32} {f fy qx ox oy : Bool} {P : List (Int32 × Nat)} {x : Int32 × Nat} {Lo : List (Int32 × Nat)} (h8 : ¬ (dhi bn c P).length < 8) : (stp 11 a b (DS bn c 0 cx h hy f fy qx ox oy P, evs Lo none) (0, 1, x.1, x.2)).2 = evs Lo (some (8, x.2)) := by
  rw [yo_item, yo_end]
  unfold DS
  have h8' : ¬ ((dhi bn c P).map (qv bn)).length < 8 := by simpa using h8
  simp only [hi, if_neg h8']
  rfl
theorem yk_lo_snoc {bn c : Nat} {P : List (Int32 × Nat)} {x : Int32 × Nat} : dlo bn c (P ++ [x]) = dlo bn c P ++ if due bn x ≤ c then [x] else [] := by
  unfold dlo
  rw [List.filter_append]
  by_cases h : due bn x ≤ c
  · rw [if_pos h, List.filter_cons_of_pos (by simpa using h)]; rfl
  · rw [if_neg h, List.filter_cons_of_neg (by simpa using h)]; rfl
theorem yk_all {bn c : Nat} {P : List (Int32 × Nat)} (h : ∀ x ∈ P, due bn x ≤ c) : dlo bn c P = P := by
  unfold dlo
  rw [List.filter_eq_self]
  intro x hx
  simpa using h x hx
section
variable {f_stages : Int32} {f_heard : Int32} {f_now : Int32} {f_calls : Int64} {f_parts : Int32} {f_start : Int64} {f_at : Int32} {f_nextX : Int32} {f_nextY : Int32} {f_x : Int32} {f_y : Int32} {a_kind : (Nat → Int32)} {a_opA : (Nat → Int32)} {a_opB : (Nat → Int32)} {a_heardBy : (Nat → Int32)} {a_what : (Nat → Int32)} {a_said : (Nat → Int32)} {a_when : (Nat → Int64)} {a_over : (Nat → Int32)} {a_part : (Nat → Int32)} {a_first : (Nat → Int32)} {a_second : (Nat → Int32)} {a_user : (Nat → Int32)} {a_goStage : (Nat → Int32)} {a_goStep : (Nat → Int32)} {a_done : (Nat → Int32)} {a_val : (Nat → Int32)} {a_mom : (Nat → Int64)} {a_cnt : (Nat → Int32)} {a_end : (Nat → Int32)} {a_endMom : (Nat → Int64)} {a_begun : (Nat → Int32)} {a_status : (Nat → Int32)} {a_stageOf : (Nat → Int32)} {a_began : (Nat → Int64)} {a_taken : (Nat → Int32)} {a_demand : (Nat → Int64)} {a_asked : (Nat → Int32)} {a_code : (Nat → Int32)} {a_waits : (Nat → Int32)} {a_waiting : (Nat → Int32)} {a_came : (Nat → Int32)} {a_given : (Nat → Int32)} {a_got : (Nat → Int64)}
theorem yk_loop {post : SY → Prop} {p xq t : Nat} {a b : Int32} {L : List (Int32 × Nat)} {z : Option (Int32 × Nat)} {RES : List Ev} {cx : Nat} {h hy : Int32} {f fy qx ox oy : Bool} (hp : p < 9) (hxq : xq < 9) (hpx : xq ≠ p) (hat : f_at = nI p) (hfx : f_x = nI xq) (hnow : f_now = nI t) (ht : t ≤ 200) (hL : ∀ x ∈ L, tim x.2 ≤ t) (hz : ∀ w, z = some w → tim w.2 ≤ t) (hL250 : L.length ≤ 250) (hb : 1 ≤ cl b ∧ cl b ≤ 30 ∧ b = nI (cl b)) (hfree : FRa p L z) (hsrt : SRT L z)
    (K : ∀ va mm cn en em L' z', YA va mm cn en em p L' z' → evs L' z' = RES → YF p a_val a_mom a_cnt a_end a_endMom va mm cn en em → L'.length ≤ L.length → post (f_stages, f_heard, f_now, f_calls, f_parts, f_start, f_at, f_nextX, f_nextY, f_x, f_y, a_kind, a_opA, a_opB, a_heardBy, a_what, a_said, a_when, a_over, a_part, a_first, a_second, a_user, a_goStage, a_goStep, a_done, va, mm, cn, en, em, a_begun, a_status, a_stageOf, a_began, a_taken, a_demand, a_asked, a_code, a_waits, a_waiting, a_came, a_given, a_got)) :
    ∀ (r : List (Int32 × Nat)) (i c0 : Nat) (va : Nat → Int32) (mm : Nat → Int64) (cn : Nat → Int32), L.drop i = r → i ≤ L.length → c0 ≤ t → (∀ x ∈ r, c0 ≤ ckm p x.2) → (∀ w, z = some w → c0 ≤ ckm p w.2) → YA va mm cn a_end a_endMom p ((dlo (cl b) t (L.take i)).map (rel p (cl b))) none → YA va mm cn a_end a_endMom xq L z → YF p a_val a_mom a_cnt a_end a_endMom va mm cn a_end a_endMom → RES = ((feed p c0 (evs r z) t).foldl (stp 11 a b) (DS (cl b) c0 0 cx h hy f fy qx ox oy (L.take i), evs ((dlo (cl b) c0 (L.take i)).map (rel p (cl b))) none)).2 → wY_delay_2 post b (r.length + 1) (nI i) f_stages f_heard f_now f_calls f_parts f_start f_at f_nextX f_nextY f_x f_y a_kind a_opA a_opB a_heardBy a_what a_said a_when a_over a_part a_first a_second a_user a_goStage a_goStep a_done (va) (mm) (cn) a_end a_endMom a_begun a_status a_stageOf a_began a_taken a_demand a_asked a_code a_waits a_waiting a_came a_given a_got := by
  have hcl : f_x.toNatClampNeg = xq := by rw [hfx]; exact nI_clamp (by omega)
  have hin : vp_in f_x 9 := by rw [hfx]; exact vp_in_nI hxq (by decide)
  have hst : ∀ i, (L.take i).Pairwise (fun x y => x.2 ≤ y.2) := fun i => List.Pairwise.sublist (List.take_sublist i L) hsrt.1
  have hmt : ∀ i x, x ∈ L.take i → x ∈ L := fun i x hx => List.mem_of_mem_take hx
  -- an error at m: what waits is dropped
  have errAt : ∀ (i m j : Nat) (v : Int32) (va : Nat → Int32) (mm : Nat → Int64) (cn : Nat → Int32), i ≤ L.length → m < 1000000000000000 → tim m ≤ t → j ≤ 9 → v = nI j → (∀ T, m ≠ tm T p) → YA va mm cn a_end a_endMom p ((dlo (cl b) t (L.take i)).map (rel p (cl b))) none → YF p a_val a_mom a_cnt a_end a_endMom va mm cn a_end a_endMom → evs ((dlo (cl b) (ckm p m) (L.take i)).map (rel p (cl b))) (some (v, m)) = RES → wpY_error (fun u => match u with | (f_stages, f_heard, f_now, f_calls, f_parts, f_start, f_at, f_nextX, f_nextY, f_x, f_y, a_kind, a_opA, a_opB, a_heardBy, a_what, a_said, a_when, a_over, a_part, a_first, a_second, a_user, a_goStage, a_goStep, a_done, a_val, a_mom, a_cnt, a_end, a_endMom, a_begun, a_status, a_stageOf, a_began, a_taken, a_demand, a_asked, a_code, a_waits, a_waiting, a_came, a_given, a_got) => post (f_stages, f_heard, f_now, f_calls, f_parts, f_start, f_at, f_nextX, f_nextY, f_x, f_y, a_kind, a_opA, a_opB, a_heardBy, a_what, a_said, a_when, a_over, a_part, a_first, a_second, a_user, a_goStage, a_goStep, a_done, a_val, a_mom, a_cnt, a_end, a_endMom, a_begun, a_status, a_stageOf, a_began, a_taken, a_demand, a_asked, a_code, a_waits, a_waiting, a_came, a_given, a_got)) (f_stages, f_heard, f_now, f_calls, f_parts, f_start, f_at, f_nextX, f_nextY, f_x, f_y, a_kind, a_opA, a_opB, a_heardBy, a_what, a_said, a_when, a_over, a_part, a_first, a_second, a_user, a_goStage, a_goStep, a_done, va, mm, cn, a_end, a_endMom, a_begun, a_status, a_stageOf, a_began, a_taken, a_demand, a_asked, a_code, a_waits, a_waiting, a_came, a_given, a_got) v (lN m) := by
    intro i m j v va mm cn hi hm hmt2 hj hv hne hY hF hT
    have hck := yt_cktim (p := p) (m := m)
    rw [yk_split (c := ckm p m) (t := t) (by omega) _ (hst i), List.map_append] at hY
    refine yk_error hp hat hnow ht hm hmt2 hj hv (fun x hx => ?_) (fun x hx => ?_) hY (fun cn2 en em k1 k2 => K va mm cn2 en em _ _ k1 hT (yb_trans hF k2) ?_)
    · obtain ⟨y, hy1, rfl⟩ := List.mem_map.mp hx
      have h1 := of_decide_eq_true (List.mem_filter.mp hy1).2
      have := (yt_lt (p := p) (m := m) (T := due (cl b) y) hp (by unfold due; omega) (hne _)).mpr h1
      exact Nat.le_of_lt this
    · obtain ⟨y, hy1, rfl⟩ := List.mem_map.mp hx
      have h1 := of_decide_eq_true (List.mem_filter.mp hy1).2
      have h2 := yt_lt (p := p) (m := m) (T := due (cl b) y) hp (by unfold due; omega) (hne _)
      show m < tm (due (cl b) y) p
      rcases Nat.lt_or_ge m (tm (due (cl b) y) p) with w | w
      · exact w
      · exfalso
        have := h2.mp (Nat.lt_of_le_of_ne w (fun q => hne _ q.symm))
        omega
    · rw [List.length_map]
      exact Nat.le_trans yk_lolen (by rw [List.length_take]; omega)
  intro r
  induction r with
  | nil =>
    intro i c0 va mm cn hr hiL hct hck hckz hY hx hF hT
    have hiL2 : L.length ≤ i := List.drop_eq_nil_iff.mp hr
    obtain ⟨b1, b2, b3⟩ := yb_m1 hx.2.2.2.1 hx.2.2.2.2.1 (fun w hw => (hx.2.2.2.2.2 w hw).1)
    have hlen : ((dlo (cl b) t (L.take i)).map (rel p (cl b))).length ≤ L.length := by
      rw [List.length_map]
      exact Nat.le_trans yk_lolen (by rw [List.length_take]; omega)
    refine ⟨hin, br_t (by rw [hcl, hx.1]; exact nI_le hiL2 (by omega)) ⟨hin, ?_⟩⟩
    cases z with
    | none =>
      have hev : a_end f_x.toNatClampNeg = -1 := by rw [hcl]; exact hx.2.2.2.2.1 rfl
      refine br_f (by rw [hev]; decide) ⟨hin, br_t (by rw [hev]; decide) (K va mm cn a_end a_endMom _ none hY ?_ hF hlen)⟩
      rw [hT, show feed p c0 (evs [] none) t = tms p c0 (t - c0) from rfl, yk_tms hp (hst i) _ (Or.inl rfl), show c0 + (t - c0) = t from by omega]
    | some w =>
      obtain ⟨v, m⟩ := w
      obtain ⟨hm1, j, hj, ej⟩ := hx.2.2.2.1 (v, m) rfl
      have hev0 := hx.2.2.2.2.2 (v, m) rfl
      have hmt2 : tim m ≤ t := hz _ rfl
      have hem : a_endMom f_x.toNatClampNeg = lN m := by rw [hcl]; exact hev0.2
      have hev : a_end f_x.toNatClampNeg = v := by rw [hcl]; exact hev0.1
      have hc1 := hckz (v, m) rfl
      have hc1' : c0 ≤ ckm p m := hc1
      have hckt := yt_cktim (p := p) (m := m)
      rw [yt_feede, List.foldl_append, yk_tms hp (hst i) _ (Or.inl rfl), show c0 + (ckm p m - c0) = ckm p m from by omega, List.foldl_cons] at hT
      by_cases hv0 : v = 0
      · subst hv0
        have hdue : ∀ x ∈ L.take i, due (cl b) x ≤ tim m + cl b := fun x hxi => by
          have := yk_tim (hsrt.2 _ rfl x (hmt i x hxi))
          unfold due
          exact Nat.add_le_add_right this _
        have hS : stp 11 a b (DS (cl b) (ckm p m) 0 cx h hy f fy qx ox oy (L.take i), evs ((dlo (cl b) (ckm p m) (L.take i)).map (rel p (cl b))) none) (0, (if (0 : Int32) = 0 then 2 else 3), 0, m) = (DS (cl b) (ckm p m) (tim m + cl b) cx h hy f fy qx ox oy (L.take i), evs ((dlo (cl b) (ckm p m) (L.take i)).map (rel p (cl b))) none) := by
          rw [rn_stp_go (yo_fin _)]
          show (_, evs _ none ++ []) = _
          rw [List.append_nil]
          rfl
        rw [hS] at hT
        refine br_t hev ⟨hin, ?_⟩
        rw [hem]
        refine yt_later hb.2.2 hp hat hm1 (by omega) ?_
        have h137 : ∀ (en : Nat → Int32) (em : Nat → Int64), en f_x.toNatClampNeg ≤ 0 → post (f_stages, f_heard, f_now, f_calls, f_parts, f_start, f_at, f_nextX, f_nextY, f_x, f_y, a_kind, a_opA, a_opB, a_heardBy, a_what, a_said, a_when, a_over, a_part, a_first, a_second, a_user, a_goStage, a_goStep, a_done, va, mm, cn, en, em, a_begun, a_status, a_stageOf, a_began, a_taken, a_demand, a_asked, a_code, a_waits, a_waiting, a_came, a_given, a_got) → wY_delay_137 post f_stages f_heard f_now f_calls f_parts f_start f_at f_nextX f_nextY f_x f_y a_kind a_opA a_opB a_heardBy a_what a_said a_when a_over a_part a_first a_second a_user a_goStage a_goStep a_done (va) (mm) (cn) (en) (em) a_begun a_status a_stageOf a_began a_taken a_demand a_asked a_code a_waits a_waiting a_came a_given a_got := fun en em h1 h2 => ⟨hin, br_t h1 h2⟩
        refine yw_stop (j := 0) hp hat hnow ht (by unfold tm; omega) (by decide) rfl hY (fun y en em k1 k2 => h137 en em ?_ (K va mm cn en em _ _ k1 ?_ (yb_trans hF k2) hlen)) (fun y => h137 a_end a_endMom ?_ (K va mm cn a_end a_endMom _ none hY ?_ hF hlen))
        · have hx2 := k2 xq hpx _ _ hx
          rw [hcl, (hx2.2.2.2.2.2 _ rfl).1]
          show (0 : Int32) ≤ 0
          decide
        · rw [tim_tm hp] at y
          -- the complete comes at its due moment, behind all items
          have hd : (tms p (ckm p m) (t - ckm p m)).foldl (stp 11 a b) (DS (cl b) (ckm p m) (tim m + cl b) cx h hy f fy qx ox oy (L.take i), evs ((dlo (cl b) (ckm p m) (L.take i)).map (rel p (cl b))) none) = (tms p (tim m + cl b) (t - (tim m + cl b))).foldl (stp 11 a b) (DS (cl b) (tim m + cl b) (tim m + cl b) cx h hy f fy qx ox oy (L.take i), evs ((dlo (cl b) (tim m + cl b) (L.take i)).map (rel p (cl b))) (some (0, tm (tim m + cl b) p))) := by
            rw [show t - ckm p m = (tim m + cl b - 1 - ckm p m) + (1 + (t - (tim m + cl b))) from by omega, yt_app, List.foldl_append, yk_tms hp (hst i) _ (Or.inr (by omega)), show ckm p m + (tim m + cl b - 1 - ckm p m) = tim m + cl b - 1 from by omega, yt_app, List.foldl_append, show tim m + cl b - 1 + 1 = tim m + cl b from by omega]
            congr 1
            have h3 : tms p (tim m + cl b - 1) 1 = [(2, 0, 0, tm (tim m + cl b) p)] := by
              show [] ++ [(2, 0, 0, tm (tim m + cl b - 1 + 0 + 1) p)] = _
              rw [show tim m + cl b - 1 + 0 + 1 = tim m + cl b from by omega]
              rfl
            rw [h3]
            show stp 11 a b _ _ = _
            rw [rn_stp_go (yo_fin _)]
            have e : rsp 11 a b (DS (cl b) (tim m + cl b - 1) (tim m + cl b) cx h hy f fy qx ox oy (L.take i)) (2, 0, 0, tm (tim m + cl b) p) = (DS (cl b) (tim m + cl b) (tim m + cl b) cx h hy f fy qx ox oy (L.take i), (deq (cl b) (tim m + cl b) (L.take i)).map (fun x => (1, x.1)) ++ [(2, 0)]) := by
              show (if (2 : Nat) = 2 then fi 11 a b (tim (tm (tim m + cl b) p)) _ else _) = _
              rw [if_pos rfl, tim_tm hp]
              have := yk_fi (a := a) (b := b) (bn := cl b) (c := tim m + cl b - 1) (dd := tim m + cl b) (cx := cx) (h := h) (hy := hy) (f := f) (fy := fy) (qx := qx) (ox := ox) (oy := oy) (hst i)
              rw [show tim m + cl b - 1 + 1 = tim m + cl b from by omega, if_pos rfl] at this
              exact this
            dsimp only
            rw [e]
            dsimp only
            have e5 : ems (tm (tim m + cl b) p) ((deq (cl b) (tim m + cl b) (L.take i)).map (fun x => (1, x.1)) ++ [(2, 0)]) = ems (tm (tim m + cl b) p) ((deq (cl b) (tim m + cl b) (L.take i)).map (fun x => (1, x.1))) ++ [(2, 0, tm (tim m + cl b) p)] := by unfold ems; rw [List.map_append]; rfl
            rw [e5, ← List.append_assoc, yk_rel, ← List.map_append]
            have e6 := yk_lo1 (bn := cl b) (c := tim m + cl b - 1) (hst i)
            rw [show tim m + cl b - 1 + 1 = tim m + cl b from by omega] at e6
            rw [← e6, yo_end]
            rfl
          rw [hT, hd, rn_fold_fin _ _ (yt_finend _ _ _), yk_all hdue, yk_all (fun x hx0 => Nat.le_trans (hdue x hx0) y)]
        · rw [hev]; decide
        · rw [tim_tm hp] at y
          rw [hT, yk_tms hp (hst i) _ (Or.inr (by omega)), show ckm p m + (t - ckm p m) = t from by omega]
      · have hjp : 0 < j := by
          rcases Nat.eq_zero_or_pos j with w | w
          · exfalso; apply hv0; have : v = nI j := ej; rw [this, w]; rfl
          · exact w
        refine br_f (by rw [hev]; exact hv0) ⟨hin, br_f (by rw [hev, show v = nI j from ej]; exact nI_nle hjp (by omega)) ⟨hin, hin, ?_⟩⟩
        rw [hev, hem]
        refine errAt i m j v va mm cn hiL hm1 hmt2 hj ej (hfree.2 _ rfl) hY hF ?_
        have hE := ye_err (k := 11) (a := a) (b := b) (s := 0) (Lo := (dlo (cl b) (ckm p m) (L.take i)).map (rel p (cl b))) (S := DS (cl b) (ckm p m) 0 cx h hy f fy qx ox oy (L.take i)) (v := v) (m := m) (by decide) (by decide) hv0
        rw [hT, rn_fold_fin _ _ (by rw [hE]; exact yt_finend _ _ _), hE]
  | cons x r ih =>
    intro i c0 va mm cn hr hiL hct hck hckz hY hx hF hT
    have hxi : L[i]? = some x := by rw [← List.head?_drop, hr]; rfl
    have hil := yb_idx hxi
    have hr' : L.drop (i + 1) = r := by rw [← List.drop_drop, hr]; rfl
    have hxmem := List.mem_of_getElem? hxi
    have hxt := hL x hxmem
    have hxm := (hx.2.2.1 i x hxi).2.2
    have hckt := yt_cktim (p := p) (m := x.2)
    have hc1 := hck x (by simp)
    have hne : ∀ y ∈ L.take i, x.2 ≠ tm (due (cl b) y) p := fun y _ => hfree.1 x hxmem _
    have hcw := yk_cw (p := p) (bn := cl b) (m := x.2) hp hb.1 hne
    rw [yt_feedi, List.foldl_append, yk_tms hp (hst i) _ (Or.inl rfl), show c0 + (ckm p x.2 - c0) = ckm p x.2 from by omega, List.foldl_cons] at hT
    have hLol : ((dlo (cl b) t (L.take i)).map (rel p (cl b))).length ≤ i := by
      rw [List.length_map]
      exact Nat.le_trans yk_lolen (by rw [List.length_take]; omega)
    refine ⟨hin, br_f (by rw [hcl, hx.1]; exact nI_ge hil (by omega)) ?_⟩
    rw [hfx]
    refine yw_of (f_x := nI xq) hxq hx hxi ?_
    rw [← hfx]
    refine ⟨i + 1, yk_cnt (a_val := va) (a_mom := mm) (a_cnt := cn) hp hat hxq hfx hb.2.2 hb.2.1 hxm hx (fun y hy0 => Nat.le_trans (hL y hy0) ht) hil (fun h8 => ?_) (fun h8 => ?_) i 0 (by omega)⟩
    · rw [hcw] at h8
      have hdx : ckm p x.2 < due (cl b) x := by unfold due; omega
      rw [yk_hear rfl hdx h8] at hT
      have hpw := hsrt.1
      have hnext : ∀ y ∈ r, ckm p x.2 ≤ ckm p y.2 := fun y hy0 => by
        have h1 : (L.drop i).Pairwise (fun x y => x.2 ≤ y.2) := List.Pairwise.sublist (List.drop_sublist i L) hpw
        rw [hr, List.pairwise_cons] at h1
        exact yk_ck hp (h1.1 y hy0)
      have hnextz : ∀ w, z = some w → ckm p x.2 ≤ ckm p w.2 := fun w hw => yk_ck hp (hsrt.2 w hw x hxmem)
      have hOlo : evs ((dlo (cl b) (ckm p x.2) (L.take i)).map (rel p (cl b))) none = evs ((dlo (cl b) (ckm p x.2) (L.take (i + 1))).map (rel p (cl b))) none := by
        rw [yk_take hxi, yk_lo_snoc, if_neg (by omega), List.append_nil]
      rw [← yk_take hxi, hOlo] at hT
      rw [hfx]
      refine yw_word (f_x := nI xq) hxq hx hxi ?_
      rw [← hfx]
      refine yt_later hb.2.2 hp hat hxm (by omega) ?_
      refine yw_put hp hat hnow ht (by unfold tm; omega) hY (by omega) (fun y va2 mm2 cn2 g1 g2 => nm_r (nI_1 i) ?_) (fun y => nm_r (nI_1 i) ?_)
      · rw [tim_tm hp] at y
        have e7 : (dlo (cl b) t (L.take i)).map (rel p (cl b)) ++ [(x.1, tm (tim x.2 + cl b) p)] = (dlo (cl b) t (L.take (i + 1))).map (rel p (cl b)) := by
          rw [yk_take hxi, yk_lo_snoc, if_pos (show due (cl b) x ≤ t from y), List.map_append]
          rfl
        rw [e7] at g1
        exact ih (i + 1) (ckm p x.2) va2 mm2 cn2 hr' (by omega) (by omega) hnext hnextz g1 (g2 xq hpx _ _ hx) (yb_trans hF g2) hT
      · rw [tim_tm hp] at y
        have e7 : (dlo (cl b) t (L.take i)).map (rel p (cl b)) = (dlo (cl b) t (L.take (i + 1))).map (rel p (cl b)) := by
          rw [yk_take hxi, yk_lo_snoc, if_neg (show ¬ due (cl b) x ≤ t from y), List.append_nil]
        rw [e7] at hY
        exact ih (i + 1) (ckm p x.2) va mm cn hr' (by omega) (by omega) hnext hnextz hY hx hF hT
    · rw [hcw] at h8
      have hE := yk_full (a := a) (b := b) (bn := cl b) (c := ckm p x.2) (cx := cx) (h := h) (hy := hy) (f := f) (fy := fy) (qx := qx) (ox := ox) (oy := oy) (x := x) (Lo := (dlo (cl b) (ckm p x.2) (L.take i)).map (rel p (cl b))) h8
      refine errAt i x.2 8 8 va mm cn (by omega) hxm hxt (by decide) rfl (hfree.1 x hxmem) hY hF ?_
      rw [hT, rn_fold_fin _ _ (by rw [hE]; exact yt_finend _ _ _), hE]
end
