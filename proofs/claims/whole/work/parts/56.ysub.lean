/-! ===== the reference: a subscription's own cells ===== -/
def RepV (ss sc : Nat → Int32) (sd : Nat → Int64) (wt wg cm gv : Nat → Int32) (gt : Nat → Int64) (id : Nat) : Sb → Prop
  | (st, co, en, dm, dv, ws, hh) => ss id = st ∧ (st = 2 → sc id = co) ∧ sd id = dm ∧ gv id = dv ∧ wt id = nI ws.length ∧ ws.length ≤ 8 ∧ (∀ j e, ws[j]? = some e → wg (8 * id + j) = e) ∧ (∀ j, j < 16 → gt (16 * id + j) = hh j) ∧ (st = 0 → cm id = if en = 0 then -1 else co)
theorem rv_frame {ss sc ss' sc' wt wg cm gv wt' wg' cm' gv' : Nat → Int32} {sd gt sd' gt' : Nat → Int64} {j : Nat} {s : Sb} (h : RepV ss sc sd wt wg cm gv gt j s) (h1 : ss' j = ss j) (h2 : sc' j = sc j) (h3 : sd' j = sd j) (h4 : wt' j = wt j) (h5 : cm' j = cm j) (h6 : gv' j = gv j) (h7 : ∀ r, r < 8 → wg' (8 * j + r) = wg (8 * j + r)) (h8 : ∀ r, r < 16 → gt' (16 * j + r) = gt (16 * j + r)) : RepV ss' sc' sd' wt' wg' cm' gv' gt' j s := by
  obtain ⟨st, co, en, dm, dv, ws, hh⟩ := s
  obtain ⟨a1, a2, a3, a4, a5, a6, a7, a8, a9⟩ := h
  refine ⟨h1.trans a1, fun z => h2.trans (a2 z), h3.trans a3, h6.trans a4, h4.trans a5, a6, fun r e he => ?_, fun r hr => (h8 r hr).trans (a8 r hr), fun z => h5.trans (a9 z)⟩
  have hr : r < ws.length := by
    rcases Nat.lt_or_ge r ws.length with z | z
    · exact z
    · rw [List.getElem?_eq_none z] at he; exact absurd he (by simp)
  exact (h7 r (by omega)).trans (a7 r e he)
def VF (id : Nat) (ss sc : Nat → Int32) (sd : Nat → Int64) (wt wg cm gv : Nat → Int32) (gt : Nat → Int64) (ss' sc' : Nat → Int32) (sd' : Nat → Int64) (wt' wg' cm' gv' : Nat → Int32) (gt' : Nat → Int64) : Prop :=
  ∀ j, j ≠ id → (∀ s, RepV ss sc sd wt wg cm gv gt j s → RepV ss' sc' sd' wt' wg' cm' gv' gt' j s) ∧ ss' j = ss j
theorem rv_hv {t : Nat} (ht : t < 1000) (v : Int32) : ((nI t).toInt64 <<< ((32 : Int32).toInt64 &&& 63)) ||| (v.toInt64 &&& 4294967295) = hv t v := by
  unfold hv
  obtain ⟨m, hm, e⟩ := pf_andw v.toInt64
  have hc : ((32 : Int32).toInt64 &&& 63).toBitVec.smod 64 = BitVec.ofNat 64 32 := by decide +kernel
  rw [e, nI_l (by omega), g_shl (k := 32) (p := 4294967296) hc (by decide) (by decide) (by omega), g_or (k := 32) (p := 4294967296) (by decide) hm (by omega), lN_add]
section
variable {f_stages : Int32} {f_heard : Int32} {f_now : Int32} {f_calls : Int64} {f_parts : Int32} {f_start : Int64} {f_at : Int32} {f_nextX : Int32} {f_nextY : Int32} {f_x : Int32} {f_y : Int32} {a_kind : (Nat → Int32)} {a_opA : (Nat → Int32)} {a_opB : (Nat → Int32)} {a_heardBy : (Nat → Int32)} {a_what : (Nat → Int32)} {a_said : (Nat → Int32)} {a_when : (Nat → Int64)} {a_over : (Nat → Int32)} {a_part : (Nat → Int32)} {a_first : (Nat → Int32)} {a_second : (Nat → Int32)} {a_user : (Nat → Int32)} {a_goStage : (Nat → Int32)} {a_goStep : (Nat → Int32)} {a_done : (Nat → Int32)} {a_val : (Nat → Int32)} {a_mom : (Nat → Int64)} {a_cnt : (Nat → Int32)} {a_end : (Nat → Int32)} {a_endMom : (Nat → Int64)} {a_begun : (Nat → Int32)} {a_status : (Nat → Int32)} {a_stageOf : (Nat → Int32)} {a_began : (Nat → Int64)} {a_taken : (Nat → Int32)} {a_demand : (Nat → Int64)} {a_asked : (Nat → Int32)} {a_code : (Nat → Int32)} {a_waits : (Nat → Int32)} {a_waiting : (Nat → Int32)} {a_came : (Nat → Int32)} {a_given : (Nat → Int32)} {a_got : (Nat → Int64)}
theorem yu_deliver {post : SY → Prop} {id t : Nat} {v : Int32} {s : Sb} (hid : id < 3) (ht : t < 1000) (hR : RepV a_status a_code a_demand a_waits a_waiting a_came a_given a_got id s)
    (K : ∀ sd gv gt, RepV a_status a_code sd a_waits a_waiting a_came gv gt id (sdl t v s) → VF id a_status a_code a_demand a_waits a_waiting a_came a_given a_got a_status a_code sd a_waits a_waiting a_came gv gt → post (f_stages, f_heard, f_now, f_calls, f_parts, f_start, f_at, f_nextX, f_nextY, f_x, f_y, a_kind, a_opA, a_opB, a_heardBy, a_what, a_said, a_when, a_over, a_part, a_first, a_second, a_user, a_goStage, a_goStep, a_done, a_val, a_mom, a_cnt, a_end, a_endMom, a_begun, a_status, a_stageOf, a_began, a_taken, sd, a_asked, a_code, a_waits, a_waiting, a_came, gv, gt)) : wpY_deliver post (f_stages, f_heard, f_now, f_calls, f_parts, f_start, f_at, f_nextX, f_nextY, f_x, f_y, a_kind, a_opA, a_opB, a_heardBy, a_what, a_said, a_when, a_over, a_part, a_first, a_second, a_user, a_goStage, a_goStep, a_done, a_val, a_mom, a_cnt, a_end, a_endMom, a_begun, a_status, a_stageOf, a_began, a_taken, a_demand, a_asked, a_code, a_waits, a_waiting, a_came, a_given, a_got) (nI id) v (nI t) := by
  obtain ⟨st, co, en, dm, dv, ws, hh⟩ := s
  obtain ⟨a1, a2, a3, a4, a5, a6, a7, a8, a9⟩ := hR
  have hcl : (nI id).toNatClampNeg = id := nI_clamp (by omega)
  have hin : vp_in (nI id) 3 := vp_in_nI hid (by decide)
  have hdj : dv &&& 15 = nI (dj dv) := pk_and dv 4 (by decide)
  have hdl : dj dv < 16 := Nat.mod_lt _ (by decide)
  have ei : (16 * nI id) + (a_given (nI id).toNatClampNeg &&& 15) = nI (16 * id + dj dv) := by
    rw [hcl, a4, hdj, show (16 : Int32) = nI 16 from rfl, pk_mul, nI_add]
  have hci : ((16 * nI id) + (a_given (nI id).toNatClampNeg &&& 15)).toNatClampNeg = 16 * id + dj dv := by rw [ei]; exact nI_clamp (by omega)
  have h23 : ∀ sd : Nat → Int64, sd id = dec1 dm → (∀ j, j ≠ id → sd j = a_demand j) → wY_deliver_23 post (nI id) v (nI t) f_stages f_heard f_now f_calls f_parts f_start f_at f_nextX f_nextY f_x f_y a_kind a_opA a_opB a_heardBy a_what a_said a_when a_over a_part a_first a_second a_user a_goStage a_goStep a_done a_val a_mom a_cnt a_end a_endMom a_begun a_status a_stageOf a_began a_taken (sd) a_asked a_code a_waits a_waiting a_came a_given a_got := by
    intro sd h1 h2
    refine ⟨hin, by rw [ei]; exact vp_in_nI (by omega) (by decide), nm_r (e' := vp_updL a_got (16 * id + dj dv) (hv t v)) (by rw [hci, rv_hv ht]) ⟨hin, hin, nm_r (e' := upd a_given id (dv + 1)) (by rw [hcl, a4]) ?_⟩⟩
    refine K _ _ _ ⟨a1, a2, h1, pk_us, a5, a6, a7, fun j hj => ?_, a9⟩ (fun j hj => ⟨fun s hs => rv_frame hs rfl rfl (h2 j hj) rfl rfl (pk_un hj) (fun _ _ => rfl) (fun r hr => pk_uLn (by omega)), rfl⟩)
    by_cases e : j = dj dv
    · subst e
      rw [pk_uLs]
      show hv t v = vp_updL hh (dj dv) (hv t v) (dj dv)
      rw [pk_uLs]
    · rw [pk_uLn (by omega), a8 j hj]
      show hh j = vp_updL hh (dj dv) (hv t v) j
      rw [pk_uLn e]
  refine ⟨hin, ?_⟩
  by_cases hd : dm = 9223372036854775807
  · refine br_t (by rw [hcl, a3, hd]) (h23 a_demand ?_ (fun j _ => rfl))
    rw [a3]; unfold dec1; rw [if_pos hd]
  · refine br_f (by rw [hcl, a3]; exact hd) ⟨hin, hin, nm_e (h23 _ ?_ (fun j hj => ?_))⟩
    · rw [hcl, pk_uLs, a3]; unfold dec1; rw [if_neg hd]
    · rw [hcl, pk_uLn hj]
theorem yu_close {post : SY → Prop} {id en : Nat} {st co s1 c1 : Int32} {dm : Int64} {dv : Int32} {ws : List Int32} {hh : Nat → Int64} (hid : id < 3) (h1 : s1 ≠ 0) (hR : RepV a_status a_code a_demand a_waits a_waiting a_came a_given a_got id (st, co, en, dm, dv, ws, hh))
    (K : ∀ ss sc wt, (∀ c2 e2, (s1 = 2 → c2 = c1) → RepV ss sc a_demand wt a_waiting a_came a_given a_got id (s1, c2, e2, dm, dv, [], hh)) → VF id a_status a_code a_demand a_waits a_waiting a_came a_given a_got ss sc a_demand wt a_waiting a_came a_given a_got → post (f_stages, f_heard, f_now, f_calls, f_parts, f_start, f_at, f_nextX, f_nextY, f_x, f_y, a_kind, a_opA, a_opB, a_heardBy, a_what, a_said, a_when, a_over, a_part, a_first, a_second, a_user, a_goStage, a_goStep, a_done, a_val, a_mom, a_cnt, a_end, a_endMom, a_begun, ss, a_stageOf, a_began, a_taken, a_demand, a_asked, sc, wt, a_waiting, a_came, a_given, a_got)) : wpY_close post (f_stages, f_heard, f_now, f_calls, f_parts, f_start, f_at, f_nextX, f_nextY, f_x, f_y, a_kind, a_opA, a_opB, a_heardBy, a_what, a_said, a_when, a_over, a_part, a_first, a_second, a_user, a_goStage, a_goStep, a_done, a_val, a_mom, a_cnt, a_end, a_endMom, a_begun, a_status, a_stageOf, a_began, a_taken, a_demand, a_asked, a_code, a_waits, a_waiting, a_came, a_given, a_got) (nI id) s1 c1 := by
  obtain ⟨a1, a2, a3, a4, a5, a6, a7, a8, a9⟩ := hR
  have hcl : (nI id).toNatClampNeg = id := nI_clamp (by omega)
  have hin : vp_in (nI id) 3 := vp_in_nI hid (by decide)
  refine ⟨hin, nm_r (e' := upd a_status id s1) (by rw [hcl]) ⟨hin, nm_r (e' := upd a_code id c1) (by rw [hcl]) ⟨hin, nm_r (e' := upd a_waits id 0) (by rw [hcl]) ?_⟩⟩⟩
  exact K _ _ _ (fun c2 e2 hc => ⟨pk_us, fun z => by rw [pk_us, hc z], a3, a4, pk_us, Nat.zero_le _, fun j e he => by simp at he, a8, fun z => absurd z h1⟩) (fun j hj => ⟨fun s hs => rv_frame hs (pk_un hj) (pk_un hj) rfl (pk_un hj) rfl rfl (fun _ _ => rfl) (fun _ _ => rfl), pk_un hj⟩)
theorem yu_arrive {post : SY → Prop} {id t : Nat} {v : Int32} {s : Sb} (hid : id < 3) (ht : t < 1000) (h0 : s.1 = 0) (hR : RepV a_status a_code a_demand a_waits a_waiting a_came a_given a_got id s)
    (K : ∀ ss sc sd wt wg gv gt, RepV ss sc sd wt wg a_came gv gt id (sst t 1 v s) → VF id a_status a_code a_demand a_waits a_waiting a_came a_given a_got ss sc sd wt wg a_came gv gt → post (f_stages, f_heard, f_now, f_calls, f_parts, f_start, f_at, f_nextX, f_nextY, f_x, f_y, a_kind, a_opA, a_opB, a_heardBy, a_what, a_said, a_when, a_over, a_part, a_first, a_second, a_user, a_goStage, a_goStep, a_done, a_val, a_mom, a_cnt, a_end, a_endMom, a_begun, ss, a_stageOf, a_began, a_taken, sd, a_asked, sc, wt, wg, a_came, gv, gt)) : wpY_arrive post (f_stages, f_heard, f_now, f_calls, f_parts, f_start, f_at, f_nextX, f_nextY, f_x, f_y, a_kind, a_opA, a_opB, a_heardBy, a_what, a_said, a_when, a_over, a_part, a_first, a_second, a_user, a_goStage, a_goStep, a_done, a_val, a_mom, a_cnt, a_end, a_endMom, a_begun, a_status, a_stageOf, a_began, a_taken, a_demand, a_asked, a_code, a_waits, a_waiting, a_came, a_given, a_got) (nI id) v (nI t) := by
  obtain ⟨st, co, en, dm, dv, ws, hh⟩ := s
  have hst : st = 0 := h0
  subst hst
  have hR0 := hR
  obtain ⟨a1, a2, a3, a4, a5, a6, a7, a8, a9⟩ := hR
  have hcl : (nI id).toNatClampNeg = id := nI_clamp (by omega)
  have hin : vp_in (nI id) 3 := vp_in_nI hid (by decide)
  have a5' : a_waits (nI id).toNatClampNeg = nI ws.length := by rw [hcl]; exact a5
  refine ⟨hin, ?_⟩
  by_cases hd : dm ≤ 0
  · refine br_t (by rw [hcl, a3]; exact hd) ⟨hin, ?_⟩
    by_cases h8 : ws.length < 8
    · have hsst : sst t 1 v (0, co, en, dm, dv, ws, hh) = (0, co, en, dm, dv, ws ++ [v], hh) := by
        unfold sst
        dsimp only
        rw [if_neg (show ¬ ((0 : Int32) ≠ 0) from fun h => h rfl), if_pos rfl, if_pos hd, if_pos h8]
      rw [hsst] at K
      have ei : (8 * nI id) + a_waits (nI id).toNatClampNeg = nI (8 * id + ws.length) := by rw [a5', show (8 : Int32) = nI 8 from rfl, pk_mul, nI_add]
      have hci : ((8 * nI id) + a_waits (nI id).toNatClampNeg).toNatClampNeg = 8 * id + ws.length := by rw [ei]; exact nI_clamp (by omega)
      refine br_f (by rw [a5', show (8 : Int32) = nI 8 from rfl, nI_eq (by omega) (by decide)]; omega) ⟨hin, hin, nm_r (e' := upd a_waits id (nI (ws.length + 1))) (by rw [a5', hcl, nI_1]) ⟨by rw [ei]; exact vp_in_nI (by omega) (by decide), nm_r (e' := upd a_waiting (8 * id + ws.length) v) (by rw [hci]) ?_⟩⟩
      refine K _ _ _ _ _ _ _ ⟨a1, a2, a3, a4, by rw [pk_us]; simp, by simp; omega, fun j e he => ?_, a8, a9⟩ (fun j hj => ⟨fun s hs => rv_frame hs rfl rfl rfl (pk_un hj) rfl rfl (fun r hr => pk_un (by omega)) (fun _ _ => rfl), rfl⟩)
      have hj : j < (ws ++ [v]).length := by
        rcases Nat.lt_or_ge j (ws ++ [v]).length with z | z
        · exact z
        · rw [List.getElem?_eq_none z] at he; exact absurd he (by simp)
      rw [List.length_append, List.length_singleton] at hj
      by_cases e1 : j = ws.length
      · subst e1
        rw [List.getElem?_concat_length] at he
        cases he
        exact pk_us
      · rw [List.getElem?_append_left (by omega)] at he
        rw [pk_un (by omega)]
        exact a7 j e he
    · have hsst : sst t 1 v (0, co, en, dm, dv, ws, hh) = (2, 7, en, dm, dv, [], hh) := by
        unfold sst
        dsimp only
        rw [if_neg (show ¬ ((0 : Int32) ≠ 0) from fun h => h rfl), if_pos rfl, if_pos hd, if_neg h8]
      rw [hsst] at K
      refine br_t (by rw [a5', show (8 : Int32) = nI 8 from rfl, nI_eq (by omega) (by decide)]; omega) ?_
      exact yu_close hid (by decide) hR0 (fun ss sc wt k1 k2 => K ss sc a_demand wt a_waiting a_given a_got (k1 7 en (fun _ => rfl)) k2)
  · have hsst : sst t 1 v (0, co, en, dm, dv, ws, hh) = sdl t v (0, co, en, dm, dv, ws, hh) := by
      unfold sst
      dsimp only
      rw [if_neg (show ¬ ((0 : Int32) ≠ 0) from fun h => h rfl), if_pos rfl, if_neg hd]
    rw [hsst] at K
    exact br_f (by rw [hcl, a3]; exact hd) (yu_deliver hid ht hR0 (fun sd gv gt k1 k2 => K a_status a_code sd a_waits a_waiting gv gt k1 k2))
/-- the end of the stream is told -/
theorem yu_finish {post : SY → Prop} {id en : Nat} {st co : Int32} {dm : Int64} {dv : Int32} {ws : List Int32} {hh : Nat → Int64} (hid : id < 3) (hen0 : st = 0 → en = 0 ∨ (en = 2 ∧ co = 0) ∨ (en = 3 ∧ ∃ j : Nat, 1 ≤ j ∧ j ≤ 9 ∧ co = nI j)) (hR : RepV a_status a_code a_demand a_waits a_waiting a_came a_given a_got id (st, co, en, dm, dv, ws, hh))
    (K : ∀ ss sc wt, RepV ss sc a_demand wt a_waiting a_came a_given a_got id (if st = 0 then sef (st, co, en, dm, dv, ws, hh) else (st, co, en, dm, dv, ws, hh)) → VF id a_status a_code a_demand a_waits a_waiting a_came a_given a_got ss sc a_demand wt a_waiting a_came a_given a_got → post (f_stages, f_heard, f_now, f_calls, f_parts, f_start, f_at, f_nextX, f_nextY, f_x, f_y, a_kind, a_opA, a_opB, a_heardBy, a_what, a_said, a_when, a_over, a_part, a_first, a_second, a_user, a_goStage, a_goStep, a_done, a_val, a_mom, a_cnt, a_end, a_endMom, a_begun, ss, a_stageOf, a_began, a_taken, a_demand, a_asked, sc, wt, a_waiting, a_came, a_given, a_got)) : wpY_finish post (f_stages, f_heard, f_now, f_calls, f_parts, f_start, f_at, f_nextX, f_nextY, f_x, f_y, a_kind, a_opA, a_opB, a_heardBy, a_what, a_said, a_when, a_over, a_part, a_first, a_second, a_user, a_goStage, a_goStep, a_done, a_val, a_mom, a_cnt, a_end, a_endMom, a_begun, a_status, a_stageOf, a_began, a_taken, a_demand, a_asked, a_code, a_waits, a_waiting, a_came, a_given, a_got) (nI id) := by
  have hR0 := hR
  obtain ⟨a1, a2, a3, a4, a5, a6, a7, a8, a9⟩ := hR
  have hcl : (nI id).toNatClampNeg = id := nI_clamp (by omega)
  have hin : vp_in (nI id) 3 := vp_in_nI hid (by decide)
  have a5' : a_waits (nI id).toNatClampNeg = nI ws.length := by rw [hcl]; exact a5
  refine ⟨hin, ?_⟩
  by_cases hst : st = 0
  · rw [if_pos hst] at K
    have hen := hen0 hst
    have hcm := a9 hst
    have hcm' : a_came (nI id).toNatClampNeg = (if en = 0 then -1 else co) := by rw [hcl]; exact hcm
    refine br_t (by rw [hcl, a1]; exact hst) ⟨hin, ?_⟩
    by_cases he : en = 0
    · rw [show sef (st, co, en, dm, dv, ws, hh) = (st, co, en, dm, dv, ws, hh) from by simp [sef, he]] at K
      rw [if_pos he] at hcm'
      exact br_t (by rw [hcm']; decide) (K _ _ _ hR0 (fun j _ => ⟨fun s hs => hs, rfl⟩))
    · rw [if_neg he] at hcm'
      have hco : ∃ j : Nat, j ≤ 9 ∧ co = nI j ∧ (j = 0 ↔ en = 2) := by
        rcases hen with y | y | y
        · exact absurd y he
        · exact ⟨0, by omega, y.2, ⟨fun _ => y.1, fun _ => rfl⟩⟩
        · obtain ⟨y0, j, j1, j2, j3⟩ := y
          exact ⟨j, j2, j3, ⟨fun z => by omega, fun z => by omega⟩⟩
      obtain ⟨j, j1, j2, j3⟩ := hco
      refine br_f (by rw [hcm', j2]; exact nI_pos (by omega)) ⟨hin, ?_⟩
      by_cases hw : ws = []
      · have hsef : sef (st, co, en, dm, dv, ws, hh) = (if en = 3 then 2 else 1, co, en, dm, dv, [], hh) := by simp [sef, he, hw]
        rw [hsef] at K
        refine br_t (by rw [a5', hw]; rfl) ⟨hin, ?_⟩
        by_cases h0 : j = 0
        · have e2 := j3.mp h0
          refine br_t (by rw [hcm', j2, h0]; rfl) ⟨hin, ?_⟩
          rw [if_neg (by omega)] at K
          exact yu_close hid (by decide) hR0 (fun ss sc wt k1 k2 => K ss sc wt (k1 co en (fun z => absurd z (by decide))) k2)
        · have e2 : en = 3 := by
            rcases hen with y | y | y
            · exact absurd y he
            · exact absurd (j3.mpr y.1) h0
            · exact y.1
          refine br_f (by rw [hcm', j2]; exact nI_ne0 (by omega) (by omega)) ⟨hin, ?_⟩
          rw [if_pos e2] at K
          exact yu_close hid (by decide) hR0 (fun ss sc wt k1 k2 => K ss sc wt (k1 co en (fun _ => hcm'.symm)) k2)
      · rw [show sef (st, co, en, dm, dv, ws, hh) = (st, co, en, dm, dv, ws, hh) from by simp [sef, hw]] at K
        refine br_f (by rw [a5']; exact nI_ne0 (by have := List.length_pos_iff.mpr hw; omega) (by omega)) (K _ _ _ hR0 (fun j _ => ⟨fun s hs => hs, rfl⟩))
  · rw [if_neg hst] at K
    exact br_f (by rw [hcl, a1]; exact hst) (K _ _ _ hR0 (fun j _ => ⟨fun s hs => hs, rfl⟩))
end
