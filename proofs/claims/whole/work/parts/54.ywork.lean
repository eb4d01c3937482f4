/-! ===== the reference: beginning, work ===== -/
def YLY (E : EnvP) (ki oa ob pa fi1 se us : Nat → Int32) : Prop := ∀ q, q < e_n E → pa q = nI (e_sg E q) ∧ e_sg E q < 12 ∧ ki (e_sg E q) = nI (e_kd E q) ∧ oa (e_sg E q) = e_oa E q ∧ ob (e_sg E q) = e_ob E q ∧ opk (e_kd E q) (e_oa E q) (e_ob E q) ∧ (3 ≤ e_kd E q → fi1 q = nI (e_xc E q)) ∧ (16 ≤ e_kd E q → se q = nI (e_yc E q)) ∧ us q = (if q + 1 = e_n E then -1 else nI (e_us E q))
theorem yz_lastm {k : Nat} {L : List (Int32 × Nat)} {z : Option (Int32 × Nat)} : lastm k (evs L z) = match z with | none => none | some w => if mt k (if w.1 = 0 then 2 else 3) = true then some w.2 else none := by
  have h0 : lastm k (L.map (fun x => ((1, x.1, x.2) : Ev))) = none := by
    unfold lastm
    rw [Option.map_eq_none_iff, List.find?_eq_none]
    intro e he
    obtain ⟨x, _, rfl⟩ := List.mem_map.mp he
    simp [mt]
  unfold evs
  rw [so_lastm_app, h0]
  cases z with
  | none => rfl
  | some w =>
    unfold lastm
    by_cases h : mt k (if w.1 = 0 then 2 else 3) = true
    · simp [h]
    · simp [h]
theorem yz_srt {L : List (Int32 × Nat)} {z : Option (Int32 × Nat)} (h : (evs L z).Pairwise (fun x y => x.2.2 ≤ y.2.2)) : SRT L z := by
  unfold evs at h
  rw [List.pairwise_append] at h
  have h1 := h.1
  rw [List.pairwise_map] at h1
  refine ⟨h1, fun w hw x hx => ?_⟩
  subst hw
  exact h.2.2 (1, x.1, x.2) (List.mem_map.mpr ⟨x, hx, rfl⟩) _ (List.mem_singleton.mpr rfl)
theorem yz_nil {L : List (Int32 × Nat)} {z : Option (Int32 × Nat)} (h : evs L z = []) : L = [] ∧ z = none := by
  unfold evs at h
  obtain ⟨h1, h2⟩ := List.append_eq_nil_iff.mp h
  refine ⟨List.map_eq_nil_iff.mp h1, ?_⟩
  cases z with
  | none => rfl
  | some w => simp at h2
section
variable {f_stages : Int32} {f_heard : Int32} {f_now : Int32} {f_calls : Int64} {f_parts : Int32} {f_start : Int64} {f_at : Int32} {f_nextX : Int32} {f_nextY : Int32} {f_x : Int32} {f_y : Int32} {a_kind : (Nat → Int32)} {a_opA : (Nat → Int32)} {a_opB : (Nat → Int32)} {a_heardBy : (Nat → Int32)} {a_what : (Nat → Int32)} {a_said : (Nat → Int32)} {a_when : (Nat → Int64)} {a_over : (Nat → Int32)} {a_part : (Nat → Int32)} {a_first : (Nat → Int32)} {a_second : (Nat → Int32)} {a_user : (Nat → Int32)} {a_goStage : (Nat → Int32)} {a_goStep : (Nat → Int32)} {a_done : (Nat → Int32)} {a_val : (Nat → Int32)} {a_mom : (Nat → Int64)} {a_cnt : (Nat → Int32)} {a_end : (Nat → Int32)} {a_endMom : (Nat → Int64)} {a_begun : (Nat → Int32)} {a_status : (Nat → Int32)} {a_stageOf : (Nat → Int32)} {a_began : (Nat → Int64)} {a_taken : (Nat → Int32)} {a_demand : (Nat → Int64)} {a_asked : (Nat → Int32)} {a_code : (Nat → Int32)} {a_waits : (Nat → Int32)} {a_waiting : (Nat → Int32)} {a_came : (Nat → Int32)} {a_given : (Nat → Int32)} {a_got : (Nat → Int64)}
theorem yz_beg {post : Int64 → Prop} {E : EnvP} {B0 p : Nat} {H : Nat → List Ev} {bf : Nat → Option Nat} (hT : TR E) (hBF : BF E B0 H bf) (hL : YLY E a_kind a_opA a_opB a_part a_first a_second a_user) (hst : f_start = lN B0) (hp : p < e_n E) (hA : ∀ q, q < p → ∃ L z, YA a_val a_mom a_cnt a_end a_endMom q L z ∧ evs L z = H q) (K1 : ∀ fr, bf p = some fr → post (lN fr)) (K2 : bf p = none → post (-1)) : wpY_beginning post (f_stages, f_heard, f_now, f_calls, f_parts, f_start, f_at, f_nextX, f_nextY, f_x, f_y, a_kind, a_opA, a_opB, a_heardBy, a_what, a_said, a_when, a_over, a_part, a_first, a_second, a_user, a_goStage, a_goStep, a_done, a_val, a_mom, a_cnt, a_end, a_endMom, a_begun, a_status, a_stageOf, a_began, a_taken, a_demand, a_asked, a_code, a_waits, a_waiting, a_came, a_given, a_got) (nI p) := by
  have hn9 := hT.2.2.1
  obtain ⟨t1, t2, t3, t4, t5, t6, t7, t8, t9, t10, t11⟩ := hT
  suffices main : ∀ d q', e_n E - 1 - q' ≤ d → q' < e_n E → e_lo E q' ≤ p → p ≤ q' → bf q' = bf p → wY_beginning_2 post f_stages f_heard f_now f_calls f_parts f_start f_at f_nextX f_nextY f_x f_y a_kind a_opA a_opB a_heardBy a_what a_said a_when a_over a_part a_first a_second a_user a_goStage a_goStep a_done a_val a_mom a_cnt a_end a_endMom a_begun a_status a_stageOf a_began a_taken a_demand a_asked a_code a_waits a_waiting a_came a_given a_got (d + 1) (nI q') from ⟨e_n E - 1 - p + 1, main _ p (Nat.le_refl _) hp (t4 p hp) (Nat.le_refl _) rfl⟩
  intro d
  have hroot : ∀ q' d, q' + 1 = e_n E → bf q' = bf p → wY_beginning_2 post f_stages f_heard f_now f_calls f_parts f_start f_at f_nextX f_nextY f_x f_y a_kind a_opA a_opB a_heardBy a_what a_said a_when a_over a_part a_first a_second a_user a_goStage a_goStep a_done a_val a_mom a_cnt a_end a_endMom a_begun a_status a_stageOf a_began a_taken a_demand a_asked a_code a_waits a_waiting a_came a_given a_got (d + 1) (nI q') := by
    intro q' d hr hb
    have hcq : (nI q').toNatClampNeg = q' := nI_clamp (by omega)
    have hu := (hL q' (by omega)).2.2.2.2.2.2.2.2
    rw [if_pos hr] at hu
    refine ⟨vp_in_nI (by omega) (by decide), br_t (by rw [hcq, hu]; decide) ?_⟩
    rw [hst]
    refine K1 B0 ?_
    rw [← hb, show q' = e_n E - 1 from by omega]
    exact hBF.1
  induction d with
  | zero =>
    intro q' hd hq' hl hle hb
    exact hroot q' 0 (by omega) hb
  | succ d ih =>
    intro q' hd hq' hl hle hb
    by_cases hr : q' + 1 = e_n E
    · exact hroot q' (d + 1) hr hb
    · have h9 := t9 q' (by omega)
      have hcq : (nI q').toNatClampNeg = q' := nI_clamp (by omega)
      have hinq : vp_in (nI q') 9 := vp_in_nI (by omega) (by decide)
      have hu := (hL q' hq').2.2.2.2.2.2.2.2
      rw [if_neg hr] at hu
      obtain ⟨l1, l2, l3, l4, l5, l6, l7, l8, l9⟩ := hL (e_us E q') h9.2.1
      have hcu : (nI (e_us E q')).toNatClampNeg = e_us E q' := nI_clamp (by omega)
      have hinu : vp_in (nI (e_us E q')) 9 := vp_in_nI (by omega) (by decide)
      have hcs : (a_part (nI (e_us E q')).toNatClampNeg).toNatClampNeg = e_sg E (e_us E q') := by rw [hcu, l1]; exact nI_clamp (by omega)
      refine ⟨hinq, br_f (by rw [hcq, hu]; exact nI_pos (by omega)) ⟨hinq, nm_r (e' := nI (e_us E q')) (by rw [hcq, hu]) ⟨hinu, by rw [hcu, l1]; exact vp_in_nI l2 (by decide), nm_r (e' := nI (e_kd E (e_us E q'))) (by rw [hcs, l3]) ?_⟩⟩⟩
      have hk20 := l6.1
      have hup : ¬ cy E q' → wY_beginning_2 post f_stages f_heard f_now f_calls f_parts f_start f_at f_nextX f_nextY f_x f_y a_kind a_opA a_opB a_heardBy a_what a_said a_when a_over a_part a_first a_second a_user a_goStage a_goStep a_done a_val a_mom a_cnt a_end a_endMom a_begun a_status a_stageOf a_began a_taken a_demand a_asked a_code a_waits a_waiting a_came a_given a_got (d + 1) (nI (e_us E q')) := fun hc => by
        refine ih (e_us E q') (by omega) h9.2.1 ?_ (by omega) ?_
        · have h6 := t6 (e_us E q') h9.2.1 h9.2.2.1
          rcases h9.2.2.2 with w | w
          · rw [w] at h6; omega
          · have h8 := t8 (e_us E q') h9.2.1 w.1
            rw [w.2] at h8
            have h4 := t4 (e_xc E (e_us E q')) (by omega)
            omega
        · rw [← hBF.2.2 q' (by omega) hc]; exact hb
      rcases Nat.lt_or_ge (e_kd E (e_us E q')) 19 with h19 | h19
      · refine br_t (nI_le (b := 18) (by omega) (by decide)) (hup (fun hc => ?_))
        have := hc.1
        omega
      · refine br_f (nI_ge (a := 18) (by omega) (by omega)) ⟨hinu, ?_⟩
        have hse := l8 (by omega)
        have h8 := t8 (e_us E q') h9.2.1 (by omega)
        by_cases hy : e_yc E (e_us E q') = q'
        · have hc : cy E q' := ⟨h19, hy⟩
          have hfi := l7 (by omega)
          rw [hy] at h8
          have hxp : e_xc E (e_us E q') < p := by omega
          obtain ⟨L, z, hY, hH⟩ := hA _ hxp
          have hcx : (a_first (nI (e_us E q')).toNatClampNeg).toNatClampNeg = e_xc E (e_us E q') := by rw [hcu, hfi]; exact nI_clamp (by omega)
          have hinx : vp_in (a_first (nI (e_us E q')).toNatClampNeg) 9 := by rw [hcu, hfi]; exact vp_in_nI (by omega) (by decide)
          have hbf := hBF.2.1 q' (by omega) hc
          rw [← hH, yz_lastm, hb] at hbf
          obtain ⟨b1, b2, b3⟩ := yb_m1 hY.2.2.2.1 hY.2.2.2.2.1 (fun w hw => (hY.2.2.2.2.2 w hw).1)
          refine br_t (by rw [hcu, hse, hy]) ⟨hinu, hinx, nm_e ?_⟩
          rw [hcx]
          by_cases h1 : e_kd E (e_us E q') = 19
          · refine br_t (by rw [h1]; rfl) ?_
            rw [h1] at hbf
            cases z with
            | none => exact br_f (by rw [hY.2.2.2.2.1 rfl]; decide) (K2 hbf)
            | some w =>
              have hw := hY.2.2.2.2.2 w rfl
              by_cases h0 : w.1 = 0
              · refine br_t (by rw [hw.1, h0]) ⟨hinu, hinx, ?_⟩
                rw [hw.2]
                refine K1 w.2 ?_
                rw [hbf]
                show (if mt 19 (if w.1 = 0 then 2 else 3) = true then some w.2 else none) = some w.2
                rw [if_pos h0, if_pos (by decide)]
              · refine br_f (by rw [hw.1]; exact h0) (K2 ?_)
                rw [hbf]
                show (if mt 19 (if w.1 = 0 then 2 else 3) = true then some w.2 else none) = none
                rw [if_neg h0, if_neg (by decide)]
          · have h20 : e_kd E (e_us E q') = 20 := by omega
            refine br_f (by rw [h20]; decide) ?_
            rw [h20] at hbf
            cases z with
            | none => exact br_t (by rw [hY.2.2.2.2.1 rfl]; decide) (K2 hbf)
            | some w =>
              have hw := hY.2.2.2.2.2 w rfl
              obtain ⟨_, j, hj, ej⟩ := hY.2.2.2.1 w rfl
              by_cases h0 : w.1 = 0
              · refine br_t (by rw [hw.1, h0]; decide) (K2 ?_)
                rw [hbf]
                show (if mt 20 (if w.1 = 0 then 2 else 3) = true then some w.2 else none) = none
                rw [if_pos h0, if_neg (by decide)]
              · have hj0 : 0 < j := by
                  rcases Nat.eq_zero_or_pos j with y | y
                  · exfalso; apply h0; rw [ej, y]; rfl
                  · exact y
                refine br_f (by rw [hw.1, ej]; exact nI_nle hj0 (by omega)) ⟨hinu, hinx, ?_⟩
                rw [hw.2]
                refine K1 w.2 ?_
                rw [hbf]
                show (if mt 20 (if w.1 = 0 then 2 else 3) = true then some w.2 else none) = some w.2
                rw [if_neg h0, if_pos (by decide)]
        · refine br_f (by rw [hcu, hse, nI_eq (by omega) (by omega)]; exact hy) (hup (fun hc => hy hc.2))
/-- what the reference holds of the parts below p -/
def YI (E : EnvP) (H : Nat → List Ev) (bf : Nat → Option Nat) (p : Nat) (va : Nat → Int32) (mm : Nat → Int64) (cn en : Nat → Int32) (em : Nat → Int64) (be : Nat → Int32) : Prop :=
  ∀ q, q < p → (∃ L z, YA va mm cn en em q L z ∧ evs L z = H q ∧ L.length ≤ 20 * (q - e_lo E q + 2)) ∧ (H q).Pairwise (fun x y => x.2.2 ≤ y.2.2) ∧ be q = (if (bf q).isSome = true then 1 else 0)
theorem yz_loop {post : SY → Prop} {E : EnvP} {B0 t : Nat} {LG : List Lg} {H : Nat → List Ev} {bf : Nat → Option Nat} (hT : TR E) (hS : SOL E B0 LG t H bf) (hW : CMs t (B0 :: LG.map (fun g => g.2.2.2))) (ht : t ≤ 200) (hL : YLY E a_kind a_opA a_opB a_part a_first a_second a_user) (hst : f_start = lN B0) (hpa : f_parts = nI (e_n E)) (hnow : f_now = nI t) (hh : f_heard = nI LG.length) (h32 : LG.length ≤ 32) (hLG : YL a_heardBy a_what a_said a_when LG) (hsl : LG.Pairwise (fun x y => x.2.2.2 ≤ y.2.2.2))
    (K : ∀ at0 fx fy nx ny va mm cn en em be, YI E H bf (e_n E) va mm cn en em be → post (f_stages, f_heard, f_now, f_calls, f_parts, f_start, at0, nx, ny, fx, fy, a_kind, a_opA, a_opB, a_heardBy, a_what, a_said, a_when, a_over, a_part, a_first, a_second, a_user, a_goStage, a_goStep, a_done, va, mm, cn, en, em, be, a_status, a_stageOf, a_began, a_taken, a_demand, a_asked, a_code, a_waits, a_waiting, a_came, a_given, a_got)) :
    ∀ (d p : Nat) (at0 fx fy nx ny : Int32) (va : Nat → Int32) (mm : Nat → Int64) (cn en : Nat → Int32) (em : Nat → Int64) (be : Nat → Int32), p + d = e_n E → YI E H bf p va mm cn en em be → wY_work_23 post (d + 1) (nI p) f_stages f_heard f_now f_calls f_parts f_start (at0) (nx) (ny) (fx) (fy) a_kind a_opA a_opB a_heardBy a_what a_said a_when a_over a_part a_first a_second a_user a_goStage a_goStep a_done (va) (mm) (cn) (en) (em) (be) a_status a_stageOf a_began a_taken a_demand a_asked a_code a_waits a_waiting a_came a_given a_got := by
  have hn9 := hT.2.2.1
  have hmom := so_mom hT hS hW
  intro d
  induction d with
  | zero =>
    intro p at0 fx fy nx ny va mm cn en em be hpd hI
    have : p = e_n E := by omega
    subst this
    exact br_t (by rw [hpa]; exact nI_le (Nat.le_refl _) (by omega)) (K at0 fx fy nx ny va mm cn en em be hI)
  | succ d ih =>
    intro p at0 fx fy nx ny va mm cn en em be hpd hI
    have hp : p < e_n E := by omega
    have hcp : (nI p).toNatClampNeg = p := nI_clamp (by omega)
    have hinp : vp_in (nI p) 9 := vp_in_nI (by omega) (by decide)
    obtain ⟨l1, l2, l3, l4, l5, l6, l7, l8, l9⟩ := hL p hp
    have hfr0 : YF p va mm cn en em va mm (upd cn p 0) (upd en p (-1)) em := yb_frame (fun q hq => ⟨pk_un hq, pk_un hq, rfl⟩) (fun q hq i hi => ⟨rfl, rfl⟩)
    have hY0 : YA va mm (upd cn p 0) (upd en p (-1)) em p [] none := ⟨pk_us, by simp, fun i x h => by simp at h, fun w hw => by simp at hw, fun _ => pk_us, fun w hw => by simp at hw⟩
    have hkids := so_kids hT hS.1 hp
    have hcs : (a_part (nI p).toNatClampNeg).toNatClampNeg = e_sg E p := by rw [hcp, l1]; exact nI_clamp (by omega)
    have hins : vp_in (a_part (nI p).toNatClampNeg) 12 := by rw [hcp, l1]; exact vp_in_nI l2 (by decide)
    -- the next round
    have next : ∀ (at0 fx fy nx ny : Int32) (va2 : Nat → Int32) (mm2 : Nat → Int64) (cn2 en2 : Nat → Int32) (em2 : Nat → Int64) (b2 : Int32) (L : List (Int32 × Nat)) (z : Option (Int32 × Nat)), YF p va mm cn en em va2 mm2 cn2 en2 em2 → YA va2 mm2 cn2 en2 em2 p L z → evs L z = H p → L.length ≤ 20 * (p - e_lo E p + 2) → (H p).Pairwise (fun x y => x.2.2 ≤ y.2.2) → b2 = (if (bf p).isSome = true then 1 else 0) → (∀ x : Int32, x = nI p + 1 → wY_work_23 post (d + 1) x f_stages f_heard f_now f_calls f_parts f_start (at0) (nx) (ny) (fx) (fy) a_kind a_opA a_opB a_heardBy a_what a_said a_when a_over a_part a_first a_second a_user a_goStage a_goStep a_done (va2) (mm2) (cn2) (en2) (em2) (upd be p b2) a_status a_stageOf a_began a_taken a_demand a_asked a_code a_waits a_waiting a_came a_given a_got) := by
      intro at0 fx fy nx ny va2 mm2 cn2 en2 em2 b2 L z hF hY hE hlen hso hb
      refine nm_r (nI_1 p) (ih (p + 1) at0 fx fy nx ny va2 mm2 cn2 en2 em2 (upd be p b2) (by omega) (fun q hq => ?_))
      by_cases e : q = p
      · subst e
        exact ⟨⟨L, z, hY, hE, hlen⟩, hso, by rw [pk_us]; exact hb⟩
      · obtain ⟨⟨L', z', k1, k2, k3⟩, k4, k5⟩ := hI q (by omega)
        exact ⟨⟨L', z', hF q e _ _ k1, k2, k3⟩, k4, by rw [pk_un e]; exact k5⟩
    refine br_f (by rw [hpa]; exact nI_ge hp (by omega)) ⟨hinp, nm_r (e' := upd cn p 0) (by rw [hcp]) ⟨hinp, nm_r (e' := upd en p (-1)) (by rw [hcp]) ?_⟩⟩
    refine yz_beg (a_cnt := upd cn p 0) (a_end := upd en p (-1)) hT hS.1 hL hst hp (fun q hq => ?_) (fun fr hb => ?_) (fun hb => ?_)
    · obtain ⟨⟨L', z', k1, k2, k3⟩, k4, k5⟩ := hI q hq
      exact ⟨L', z', hfr0 q (by omega) _ _ k1, k2⟩
    · -- begun
      obtain ⟨hm1, hm2⟩ := (hmom p hp).2 fr hb
      have hft := mq_tim hW (by omega) hm1
      have hfb := mq_big ht hft
      have hH : H p = (RR (e_kd E p) (e_oa E p) (e_ob E p) p fr LG t (H (e_xc E p)) (H (e_yc E p))).2 := by rw [hS.2 p hp, hb]; rfl
      refine br_f (fun y => ?_) ⟨hinp, nm_r (e' := upd be p 1) (by rw [hcp]; rfl) ⟨hinp, br_f (by rw [hcp, pk_us]; decide) ⟨hinp, hins, hinp, hins, hinp, hins, ?_⟩⟩⟩
      · have e0 : (0 : Int64) = lN 0 := by decide
        rw [e0, pk_lLT (by omega) (by decide)] at y
        omega
      · obtain ⟨L, z, hX1, hX2⟩ : ∃ L z, (3 ≤ e_kd E p → YA va mm (upd cn p 0) (upd en p (-1)) em (e_xc E p) L z ∧ evs L z = H (e_xc E p) ∧ L.length ≤ 20 * (e_xc E p - e_lo E (e_xc E p) + 2) ∧ (H (e_xc E p)).Pairwise (fun x y => x.2.2 ≤ y.2.2)) ∧ (¬ 3 ≤ e_kd E p → L = [] ∧ z = none) := by
          by_cases h3 : 3 ≤ e_kd E p
          · obtain ⟨⟨L', z', k1, k2, k3⟩, k4, k5⟩ := hI _ (hkids.1 h3).1
            exact ⟨L', z', fun _ => ⟨hfr0 _ (by have := (hkids.1 h3).1; omega) _ _ k1, k2, k3, k4⟩, fun y => absurd h3 y⟩
          · exact ⟨[], none, fun y => absurd y h3, fun _ => ⟨rfl, rfl⟩⟩
        obtain ⟨Ly, zy, hY1, hY2⟩ : ∃ L z, (16 ≤ e_kd E p → YA va mm (upd cn p 0) (upd en p (-1)) em (e_yc E p) L z ∧ evs L z = H (e_yc E p) ∧ L.length ≤ 20 * (e_yc E p - e_lo E (e_yc E p) + 2) ∧ (H (e_yc E p)).Pairwise (fun x y => x.2.2 ≤ y.2.2)) ∧ (¬ 16 ≤ e_kd E p → L = [] ∧ z = none) := by
          by_cases h3 : 16 ≤ e_kd E p
          · obtain ⟨⟨L', z', k1, k2, k3⟩, k4, k5⟩ := hI _ (hkids.2 h3).2.1
            exact ⟨L', z', fun _ => ⟨hfr0 _ (by have := (hkids.2 h3).2.1; omega) _ _ k1, k2, k3, k4⟩, fun y => absurd h3 y⟩
          · exact ⟨[], none, fun y => absurd y h3, fun _ => ⟨rfl, rfl⟩⟩
        have hRR : (RR (e_kd E p) (e_oa E p) (e_ob E p) p fr LG t (evs L z) (evs Ly zy)).2 = H p := by
          rw [hH, rr_congr (fun h3 => (hX1 h3).2.1) (fun h16 => (hY1 h16).2.1)]
        -- a chain's Y hears nothing before X ended so
        have hlast : 19 ≤ e_kd E p → ∀ e ∈ H (e_yc E p), ∃ w, z = some w ∧ w.2 ≤ e.2.2 := by
          intro h19 e he
          have hk2 := (hkids.2 (by omega)).2.2.2 h19
          have hyl := (hkids.2 (by omega)).2.1
          rw [← (hX1 (by omega)).2.1, yz_lastm] at hk2
          cases z with
          | none =>
            exfalso
            have : H (e_yc E p) = [] := by rw [hS.2 _ (by omega), hk2]; rfl
            rw [this] at he; simp at he
          | some w =>
            refine ⟨w, rfl, ?_⟩
            have hk3 : bf (e_yc E p) = (if mt (e_kd E p) (if w.1 = 0 then 2 else 3) = true then some w.2 else none) := hk2
            by_cases hm : mt (e_kd E p) (if w.1 = 0 then 2 else 3) = true
            · rw [if_pos hm] at hk3
              exact ((hmom _ (by omega)).2 w.2 hk3).2 e he
            · exfalso
              rw [if_neg hm] at hk3
              have : H (e_yc E p) = [] := by rw [hS.2 _ (by omega), hk3]; rfl
              rw [this] at he; simp at he
        have hsorted : (H p).Pairwise (fun x y => x.2.2 ≤ y.2.2) := by
          rw [hH]
          refine pr_RRs (by omega) hsl (fun h3 => (hX1 h3).2.2.2) (fun h16 => (hY1 h16).2.2.2) (fun h19 x hx y hy => ?_)
          obtain ⟨w, hw1, hw2⟩ := hlast h19 y hy
          have hx1 := hX1 (by omega)
          have hpw := hx1.2.2.2
          rw [← hx1.2.1] at hpw hx
          have hsr := yz_srt hpw
          subst hw1
          have hh2 := (ym_mem (L := L) (z := some w) (P := fun m => m ≤ w.2) (fun e he => by
            rcases List.mem_append.mp he with k | k
            · obtain ⟨x', k1, rfl⟩ := List.mem_map.mp k
              exact hsr.2 w rfl x' k1
            · have : e = ((if w.1 = 0 then 2 else 3), w.1, w.2) := List.mem_singleton.mp k
              subst this; exact Nat.le_refl _))
          have : x.2.2 ≤ w.2 := by
            rcases List.mem_append.mp hx with k | k
            · obtain ⟨x', k1, rfl⟩ := List.mem_map.mp k
              exact hsr.2 w rfl x' k1
            · have : x = ((if w.1 = 0 then 2 else 3), w.1, w.2) := List.mem_singleton.mp k
              subst this; exact Nat.le_refl _
          omega
        have hlo := hT.2.2.2.1 p hp
        have hcap : capk (e_kd E p) L.length Ly.length ≤ 20 * (p - e_lo E p + 2) ∧ L.length + Ly.length ≤ 250 := by
          unfold capk
          by_cases h3 : e_kd E p < 3
          · have h1 := hX2 (by omega)
            have h2 := hY2 (by omega)
            rw [if_pos h3, h1.1, h2.1]
            have := hT.2.2.2.2.1 p hp h3
            simp; omega
          · rw [if_neg h3]
            have hx1 := (hX1 (by omega)).2.2.1
            have h6 := hT.2.2.2.2.2.1 p hp (by omega)
            have hlx := hT.2.2.2.1 (e_xc E p) (by omega)
            by_cases h16 : e_kd E p < 16
            · have h7 := hT.2.2.2.2.2.2.1 p hp (by omega) h16
              have h2 := hY2 (by omega)
              rw [if_pos h16, h2.1]
              simp; omega
            · rw [if_neg h16]
              have h8 := hT.2.2.2.2.2.2.2.1 p hp (by omega)
              have hy1 := (hY1 (by omega)).2.2.1
              omega
        rw [hcs, l3, l4, l5]
        have hev : ∀ r, r < p → ∀ e ∈ H r, e.2.2 < 1000000000000000 ∧ tim e.2.2 ≤ t := fun r hr e he => by
          have h1 := mq_tim hW (by omega) ((hmom r (by omega)).1 e he)
          exact ⟨mq_big ht h1, h1⟩
        refine ym_stream (f_at := nI p) (f_x := fx) (f_y := fy) (a_cnt := upd cn p 0) (a_end := upd en p (-1)) (a_begun := upd be p 1) (xq := e_xc E p) (yq := e_yc E p) (L := L) (z := z) (Ly := Ly) (zy := zy) l6 (by omega) rfl hnow ht hfb hft hh h32 hLG (fun g hg => ?_) hY0 hcap.2 (fun h3 => ?_) (fun h16 => ?_) (fun h19 hz => ?_) (fun fx2 fy2 nx2 ny2 va2 mm2 cn2 en2 em2 L2 z2 g1 g2 g3 g4 => ?_)
        · obtain ⟨t', c', e, h1, h2⟩ := hW.1 g.2.2.2 (by simp; exact Or.inr ⟨_, _, _, hg⟩)
          rw [e, Nat.add_assoc, (mq_call h2 (by omega)).1]; exact h1
        · obtain ⟨x1, x2, x3, x4⟩ := hX1 h3
          have hxl := (hkids.1 h3).1
          refine ⟨hxl, l7 h3, x1, ?_, ?_, yz_srt (by rw [x2]; exact x4), ?_⟩
          · rw [x2]; exact hev _ hxl
          · exact ym_mem (P := fun m => ∀ T, m ≠ tm T p) (by
              rw [x2]
              exact fun e he T => mq_ne hW hxl (by omega) ((hmom _ (by omega)).1 e he))
          · rw [x2]
            exact ((hmom _ (by omega)).2 fr ((hkids.1 h3).2.trans hb)).2
        · obtain ⟨x1, x2, x3, x4⟩ := hY1 h16
          have hyl := (hkids.2 h16).2.1
          exact ⟨hyl, l8 h16, x1, by rw [x2]; exact hev _ hyl⟩
        · have hye : H (e_yc E p) = [] := by
            rw [List.eq_nil_iff_forall_not_mem]
            intro e he
            obtain ⟨w, hw1, hw2⟩ := hlast h19 e he
            rw [hz] at hw1; simp at hw1
          have := (hY1 (by omega)).2.1
          rw [hye] at this
          exact yz_nil this
        · exact next (nI p) fx2 fy2 nx2 ny2 va2 mm2 cn2 en2 em2 1 L2 z2 (yb_trans hfr0 g3) g1 (g2.trans hRR) (Nat.le_trans g4 hcap.1) hsorted (by rw [hb]; rfl)
    · -- not begun
      have hH : H p = [] := by rw [hS.2 p hp, hb]; rfl
      refine br_t (by decide) ⟨hinp, nm_r (e' := upd be p 0) (by rw [hcp]; rfl) ⟨hinp, br_t (by rw [hcp, pk_us]) ?_⟩⟩
      exact next (nI p) fx fy nx ny va mm _ _ em 0 [] none hfr0 hY0 hH.symm (Nat.zero_le _) (by rw [hH]; exact List.Pairwise.nil) (by rw [hb]; rfl)
end
