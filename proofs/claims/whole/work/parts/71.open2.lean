/-! ===== open of the reference ===== -/
section
variable {f_stages : Int32} {f_heard : Int32} {f_now : Int32} {f_calls : Int64} {f_parts : Int32} {f_start : Int64} {f_at : Int32} {f_nextX : Int32} {f_nextY : Int32} {f_x : Int32} {f_y : Int32} {a_kind : (Nat → Int32)} {a_opA : (Nat → Int32)} {a_opB : (Nat → Int32)} {a_heardBy : (Nat → Int32)} {a_what : (Nat → Int32)} {a_said : (Nat → Int32)} {a_when : (Nat → Int64)} {a_over : (Nat → Int32)} {a_part : (Nat → Int32)} {a_first : (Nat → Int32)} {a_second : (Nat → Int32)} {a_user : (Nat → Int32)} {a_goStage : (Nat → Int32)} {a_goStep : (Nat → Int32)} {a_done : (Nat → Int32)} {a_val : (Nat → Int32)} {a_mom : (Nat → Int64)} {a_cnt : (Nat → Int32)} {a_end : (Nat → Int32)} {a_endMom : (Nat → Int64)} {a_begun : (Nat → Int32)} {a_status : (Nat → Int32)} {a_stageOf : (Nat → Int32)} {a_began : (Nat → Int64)} {a_taken : (Nat → Int32)} {a_demand : (Nat → Int64)} {a_asked : (Nat → Int32)} {a_code : (Nat → Int32)} {a_waits : (Nat → Int32)} {a_waiting : (Nat → Int32)} {a_came : (Nat → Int32)} {a_given : (Nat → Int32)} {a_got : (Nat → Int64)}
theorem yp_loop {post : Int32 → Prop} {E : EnvP} {H : Nat → List Ev} {bf : Nat → Option Nat} (hT : TR E) (hL : YLY E a_kind a_opA a_opB a_part a_first a_second a_user) (hI : YI E H bf (e_n E) a_val a_mom a_cnt a_end a_endMom a_begun) : ∀ (f q : Nat), q < e_n E → e_n E ≤ q + f → post (bI (!fin (H q) && upS (e_us E) (e_n E) H f q)) → wY_isOpen_13 post f_stages f_heard f_now f_calls f_parts f_start f_at f_nextX f_nextY f_x f_y a_kind a_opA a_opB a_heardBy a_what a_said a_when a_over a_part a_first a_second a_user a_goStage a_goStep a_done a_val a_mom a_cnt a_end a_endMom a_begun a_status a_stageOf a_began a_taken a_demand a_asked a_code a_waits a_waiting a_came a_given a_got (f + 1) (nI q) := by
  have hn9 := hT.2.2.1
  intro f
  induction f with
  | zero => intro q h1 h2; omega
  | succ f ih =>
    intro q hq hf hp
    have hcq : (nI q).toNatClampNeg = q := nI_clamp (by omega)
    have hin : vp_in (nI q) 9 := vp_in_nI (by omega) (by decide)
    obtain ⟨⟨L, z, y1, y2, y3⟩, _, _⟩ := hI q hq
    refine br_f (nI_pos (by omega)) ⟨hin, ?_⟩
    cases z with
    | some w =>
      have hfi : fin (H q) = true := by rw [← y2]; exact yt_finend L w.1 w.2
      have he1 := y1.2.2.2.2.2 w rfl
      obtain ⟨_, j, hj9, ej⟩ := y1.2.2.2.1 w rfl
      rw [hfi] at hp
      exact br_f (by rw [hcq, he1.1, ej]; exact nI_pos (by omega)) hp
    | none =>
      have hfi : fin (H q) = false := by rw [← y2]; exact yo_fin L
      have he1 := y1.2.2.2.2.1 rfl
      have hu := (hL q hq).2.2.2.2.2.2.2.2
      rw [hfi] at hp
      refine br_t (by rw [hcq, he1]; decide) ⟨hin, nm_r (e' := if q + 1 = e_n E then -1 else nI (e_us E q)) (by rw [hcq]; exact hu) ?_⟩
      by_cases e : q + 1 = e_n E
      · rw [if_pos e]
        rw [show upS (e_us E) (e_n E) H (f + 1) q = true from if_pos e] at hp
        exact br_t (by decide) hp
      · rw [if_neg e]
        have h9 := hT.2.2.2.2.2.2.2.2.1 q (by omega)
        rw [show upS (e_us E) (e_n E) H (f + 1) q = (if fin (H (e_us E q)) = true then false else upS (e_us E) (e_n E) H f (e_us E q)) from if_neg e] at hp
        refine ih (e_us E q) h9.2.1 (by omega) ?_
        cases hfu : fin (H (e_us E q)) with
        | true => rw [hfu] at hp; exact hp
        | false => rw [hfu] at hp; exact hp
theorem yp_isOpen {post : Int32 → Prop} {E : EnvP} {H : Nat → List Ev} {bf : Nat → Option Nat} {p : Nat} (hT : TR E) (hL : YLY E a_kind a_opA a_opB a_part a_first a_second a_user) (hI : YI E H bf (e_n E) a_val a_mom a_cnt a_end a_endMom a_begun) (hp : p < e_n E) (H1 : post (bI ((bf p).isSome && (!fin (H p) && upS (e_us E) (e_n E) H 9 p)))) : wpY_isOpen post (f_stages, f_heard, f_now, f_calls, f_parts, f_start, f_at, f_nextX, f_nextY, f_x, f_y, a_kind, a_opA, a_opB, a_heardBy, a_what, a_said, a_when, a_over, a_part, a_first, a_second, a_user, a_goStage, a_goStep, a_done, a_val, a_mom, a_cnt, a_end, a_endMom, a_begun, a_status, a_stageOf, a_began, a_taken, a_demand, a_asked, a_code, a_waits, a_waiting, a_came, a_given, a_got) (nI p) := by
  have hn9 := hT.2.2.1
  have hcq : (nI p).toNatClampNeg = p := nI_clamp (by omega)
  have hb := (hI p hp).2.2
  refine ⟨vp_in_nI (by omega) (by decide), ?_⟩
  rw [hcq, hb]
  cases hs : (bf p).isSome with
  | false =>
    rw [hs] at H1
    exact br_t rfl H1
  | true =>
    rw [hs] at H1
    exact br_f (by decide) ⟨10, yp_loop hT hL hI 9 p hp (by omega) H1⟩
theorem yp_inner {post : Int32 → SY → Prop} {J : Int32 → Int32 → Int32 → Int32 → Int32 → Int64 → Int32 → Int64 → Int32 → Int32 → Int32 → Int32 → Int32 → (Nat → Int32) → (Nat → Int32) → (Nat → Int32) → (Nat → Int32) → (Nat → Int32) → (Nat → Int32) → (Nat → Int64) → (Nat → Int32) → (Nat → Int32) → (Nat → Int32) → (Nat → Int32) → (Nat → Int32) → (Nat → Int32) → (Nat → Int32) → (Nat → Int32) → (Nat → Int32) → (Nat → Int64) → (Nat → Int32) → (Nat → Int32) → (Nat → Int64) → (Nat → Int32) → (Nat → Int32) → (Nat → Int32) → (Nat → Int64) → (Nat → Int32) → (Nat → Int64) → (Nat → Int32) → (Nat → Int32) → (Nat → Int32) → (Nat → Int32) → (Nat → Int32) → (Nat → Int32) → (Nat → Int64) → Prop} {E : EnvP} {H : Nat → List Ev} {bf : Nat → Option Nat} {s : Int32} {id c0 : Nat} (hT : TR E) (hL : YLY E a_kind a_opA a_opB a_part a_first a_second a_user) (hI : YI E H bf (e_n E) a_val a_mom a_cnt a_end a_endMom a_begun) (C : Nat → Bool) (hC : ∀ p, p < e_n E → C p = ((e_kd E p == 0) && decide (e_oa E p = s) && ((bf p).isSome && (!fin (H p) && upS (e_us E) (e_n E) H 9 p)))) (hpa : f_parts = nI (e_n E))
    (K : J (nI (c0 + cnp C (e_n E))) (nI (id + 1)) f_stages f_heard f_now f_calls f_parts f_start f_at f_nextX f_nextY f_x f_y a_kind a_opA a_opB a_heardBy a_what a_said a_when a_over a_part a_first a_second a_user a_goStage a_goStep a_done a_val a_mom a_cnt a_end a_endMom a_begun a_status a_stageOf a_began a_taken a_demand a_asked a_code a_waits a_waiting a_came a_given a_got) : ∀ (e p : Nat), p + e = e_n E → wY_open_29 post J s (nI id) f_stages f_heard f_now f_calls f_parts f_start f_at f_nextX f_nextY f_x f_y a_kind a_opA a_opB a_heardBy a_what a_said a_when a_over a_part a_first a_second a_user a_goStage a_goStep a_done a_val a_mom a_cnt a_end a_endMom a_begun a_status a_stageOf a_began a_taken a_demand a_asked a_code a_waits a_waiting a_came a_given a_got (e + 1) (nI (c0 + cnp C p)) (nI p) := by
  have hn9 := hT.2.2.1
  intro e
  induction e with
  | zero =>
    intro p hp
    have : p = e_n E := by omega
    subst this
    exact br_t (by rw [hpa]; exact nI_le (Nat.le_refl _) (by omega)) (nm_r (nI_1 id) K)
  | succ e ih =>
    intro p hp
    have hpn : p < e_n E := by omega
    have hcq : (nI p).toNatClampNeg = p := nI_clamp (by omega)
    have hin : vp_in (nI p) 9 := vp_in_nI (by omega) (by decide)
    obtain ⟨l1, l2, l3, l4, l5, l6, l7, l8, l9⟩ := hL p hpn
    have hcs : (nI (e_sg E p)).toNatClampNeg = e_sg E p := nI_clamp (by omega)
    have hin2 : vp_in (a_part (nI p).toNatClampNeg) 12 := by rw [hcq, l1]; exact vp_in_nI l2 (by decide)
    have hk20 := l6.1
    have hn := ih (p + 1) (by omega)
    have hCp := hC p hpn
    have hno : C p = false → ∀ x : Int32, x = nI p + 1 → wY_open_29 post J s (nI id) f_stages f_heard f_now f_calls f_parts f_start f_at f_nextX f_nextY f_x f_y a_kind a_opA a_opB a_heardBy a_what a_said a_when a_over a_part a_first a_second a_user a_goStage a_goStep a_done a_val a_mom a_cnt a_end a_endMom a_begun a_status a_stageOf a_began a_taken a_demand a_asked a_code a_waits a_waiting a_came a_given a_got (e + 1) (nI (c0 + cnp C p)) x := by
      intro hc
      have e1 : cnp C (p + 1) = cnp C p := by
        show cnp C p + (if C p = true then 1 else 0) = cnp C p
        rw [hc]; rfl
      rw [e1] at hn
      exact nm_r (nI_1 p) hn
    refine br_f (by rw [hpa]; exact nI_ge hpn (by omega)) ⟨hin, hin2, ?_⟩
    by_cases hk : e_kd E p = 0
    · refine br_t (by rw [hcq, l1, hcs, l3, hk]; rfl) ⟨hin, hin2, ?_⟩
      by_cases ho : e_oa E p = s
      · refine br_t (by rw [hcq, l1, hcs, l4]; exact ho) (yp_isOpen hT hL hI hpn ?_)
        have hCp2 : C p = ((bf p).isSome && (!fin (H p) && upS (e_us E) (e_n E) H 9 p)) := by
          rw [hCp, hk, ho]; simp
        rw [← hCp2]
        cases hc : C p with
        | false => exact br_t rfl (hno hc)
        | true =>
          have e1 : c0 + cnp C (p + 1) = c0 + cnp C p + 1 := by
            show c0 + (cnp C p + (if C p = true then 1 else 0)) = c0 + cnp C p + 1
            rw [if_pos hc]; rfl
          rw [e1] at hn
          exact br_f (by decide) (nm_r (nI_1 _) (nm_r (nI_1 p) hn))
      · exact br_f (by rw [hcq, l1, hcs, l4]; exact ho) (hno (by rw [hCp]; simp [ho]))
    · exact br_f (by rw [hcq, l1, hcs, l3]; exact nI_ne0 (by omega) (by omega)) (hno (by rw [hCp]; simp [hk]))
end
def SAM (v w : SY) : Prop := y_sub w = y_sub v ∧ y_tab w = y_tab v ∧ y_log w = y_log v ∧ y_heard w = y_heard v ∧ y_calls w = y_calls v ∧ y_over w = y_over v ∧ y_now w = y_now v
theorem yp_open {post : Int32 → SY → Prop} {v : SY} {s : Int32} {t : Nat} {LG : List Lg} (C : Nat → Nat → Bool) (S : Nat → Sb) (ht : t ≤ 200) (h32 : LG.length ≤ 32) (hsl : LG.Pairwise (fun x y => x.2.2.2 ≤ y.2.2.2)) (hnow : y_now v = nI t) (hhe : y_heard v = nI LG.length) (hYL : YL (y_heardBy v) (y_what v) (y_said v) (y_when v) LG) (hst : ∀ j, j < 3 → y_status v j = (S j).1)
    (hac : ∀ j, j < 3 → (S j).1 = 0 → ∃ (n0 σ B0 : Nat) (K A B sg us : Nat → Nat) (oa ob : Nat → Int32) (H : Nat → List Ev) (bf : Nat → Option Nat), TYt n0 K A B oa ob (y_kind v) (y_opA v) (y_opB v) ∧ RUN n0 K A B oa ob LG t j σ B0 sg us H bf ∧ y_stageOf v j = nI σ ∧ y_began v j = lN B0 ∧ ∀ p, C j p = Cop K sg oa us (sz K A B σ) H (fun q => (bf q).isSome) s p)
    (hin0 : ∀ j, j < 3 → (S j).1 ≠ 0 → ∀ p, C j p = false) (HH : ∀ w, SAM v w → post (nI (cT C 3)) w) : wpY_open post v s := by
  have key : ∀ (e id : Nat) (w : SY), id + e = 3 → SAM v w → wY_open_4 post s (e + 1) (nI (cT C id)) (nI id) (y_stages w) (y_heard w) (y_now w) (y_calls w) (y_parts w) (y_start w) (y_at w) (y_nextX w) (y_nextY w) (y_x w) (y_y w) (y_kind w) (y_opA w) (y_opB w) (y_heardBy w) (y_what w) (y_said w) (y_when w) (y_over w) (y_part w) (y_first w) (y_second w) (y_user w) (y_goStage w) (y_goStep w) (y_done w) (y_val w) (y_mom w) (y_cnt w) (y_end w) (y_endMom w) (y_begun w) (y_status w) (y_stageOf w) (y_began w) (y_taken w) (y_demand w) (y_asked w) (y_code w) (y_waits w) (y_waiting w) (y_came w) (y_given w) (y_got w) := by
    intro e
    induction e with
    | zero =>
      intro id w hi hs
      have : id = 3 := by omega
      subst this
      have hk := HH w hs
      obtain ⟨f_stages, f_heard, f_now, f_calls, f_parts, f_start, f_at, f_nextX, f_nextY, f_x, f_y, a_kind, a_opA, a_opB, a_heardBy, a_what, a_said, a_when, a_over, a_part, a_first, a_second, a_user, a_goStage, a_goStep, a_done, a_val, a_mom, a_cnt, a_end, a_endMom, a_begun, a_status, a_stageOf, a_began, a_taken, a_demand, a_asked, a_code, a_waits, a_waiting, a_came, a_given, a_got⟩ := w
      exact br_t (by decide) hk
    | succ e ih =>
      intro id w hi hs
      have hid : id < 3 := by omega
      have hcl : (nI id).toNatClampNeg = id := nI_clamp (by omega)
      have hin : vp_in (nI id) 3 := vp_in_nI hid (by decide)
      obtain ⟨s1, s2, s3, s4, s5, s6, s7⟩ := hs
      obtain ⟨g1, g2, g3, g4, g5, g6, g7, g8, g9, g10, g11, g12⟩ := ys_eq s1
      have hstw : y_status w id = (S id).1 := by rw [g1]; exact hst id hid
      by_cases h0 : (S id).1 = 0
      · obtain ⟨n0, σ, B0, K, A, B, sg, us, oa, ob, H, bf, hty, hrun, hso, hbe, hCC⟩ := hac id hid h0
        obtain ⟨t1, t2, t3, t4⟩ := yt_eq s2
        obtain ⟨l1, l2, l3, l4⟩ := yl_eq s3
        have hty' : TYt n0 K A B oa ob (y_kind w) (y_opA w) (y_opB w) := by rw [t2, t3, t4]; exact hty
        have hso' : y_stageOf w id = nI σ := by rw [g11]; exact hso
        have hbe' : y_began w id = lN B0 := by rw [g12]; exact hbe
        have hnow' : y_now w = nI t := s7.trans hnow
        have hhe' : y_heard w = nI LG.length := s4.trans hhe
        have hYL' : YL (y_heardBy w) (y_what w) (y_said w) (y_when w) LG := by rw [l1, l2, l3, l4]; exact hYL
        have hTR := yx_TR (oa := oa) (ob := ob) hid hty.1 hrun.1 hrun.2.1 hrun.2.2.1
        have hcn : cnp (C id) 9 = cnp (C id) (sz K A B σ) := by
          have h9 := hrun.2.1
          have := cn_pad (P := C id) (n := sz K A B σ) (fun q hq => by rw [hCC q]; unfold Cop; simp; omega) (9 - sz K A B σ)
          rw [show sz K A B σ + (9 - sz K A B σ) = 9 from by omega] at this
          exact this
        have hnext : ∀ w2, SAM v w2 → wY_open_4 post s (e + 1) (nI (cT C id + cnp (C id) (sz K A B σ))) (nI (id + 1)) (y_stages w2) (y_heard w2) (y_now w2) (y_calls w2) (y_parts w2) (y_start w2) (y_at w2) (y_nextX w2) (y_nextY w2) (y_x w2) (y_y w2) (y_kind w2) (y_opA w2) (y_opB w2) (y_heardBy w2) (y_what w2) (y_said w2) (y_when w2) (y_over w2) (y_part w2) (y_first w2) (y_second w2) (y_user w2) (y_goStage w2) (y_goStep w2) (y_done w2) (y_val w2) (y_mom w2) (y_cnt w2) (y_end w2) (y_endMom w2) (y_begun w2) (y_status w2) (y_stageOf w2) (y_began w2) (y_taken w2) (y_demand w2) (y_asked w2) (y_code w2) (y_waits w2) (y_waiting w2) (y_came w2) (y_given w2) (y_got w2) := by
          intro w2 hw2
          have := ih (id + 1) w2 (by omega) hw2
          rw [show cT C (id + 1) = cT C id + cnp (C id) (sz K A B σ) from by show cT C id + cnp (C id) 9 = _; rw [hcn]] at this
          exact this
        obtain ⟨f_stages, f_heard, f_now, f_calls, f_parts, f_start, f_at, f_nextX, f_nextY, f_x, f_y, a_kind, a_opA, a_opB, a_heardBy, a_what, a_said, a_when, a_over, a_part, a_first, a_second, a_user, a_goStage, a_goStep, a_done, a_val, a_mom, a_cnt, a_end, a_endMom, a_begun, a_status, a_stageOf, a_began, a_taken, a_demand, a_asked, a_code, a_waits, a_waiting, a_came, a_given, a_got⟩ := w
        refine br_f (nI_ge (b := 3) hid (by decide)) ⟨hin, br_t (by rw [hcl]; exact hstw.trans h0) ?_⟩
        refine yx_work hid hty' hrun hso' hbe' ht hnow' hhe' h32 hYL' hsl (fun at0 fx fy nx ny pa fi1 se uu gs gt dn va mm cn en em be k1 k2 => ⟨sz K A B σ + 1, ?_⟩)
        refine yp_inner (f_parts := nI (sz K A B σ)) (f_start := lN B0) (f_at := at0) (f_nextX := nx) (f_nextY := ny) (f_x := fx) (f_y := fy) (a_part := pa) (a_first := fi1) (a_second := se) (a_user := uu) (a_goStage := gs) (a_goStep := gt) (a_done := dn) (a_val := va) (a_mom := mm) (a_cnt := cn) (a_end := en) (a_endMom := em) (a_begun := be) hTR k1 k2 (C id) (fun p hp => ?_) rfl ?_ (sz K A B σ) 0 (Nat.zero_add _)
        · rw [hCC p]
          have hp' : p < sz K A B σ := hp
          unfold Cop
          rw [decide_eq_true hp', Bool.true_and, Bool.and_assoc, Bool.and_assoc]
          rfl
        · exact hnext (f_stages, f_heard, f_now, f_calls, nI (sz K A B σ), lN B0, at0, nx, ny, fx, fy, a_kind, a_opA, a_opB, a_heardBy, a_what, a_said, a_when, a_over, pa, fi1, se, uu, gs, gt, dn, va, mm, cn, en, em, be, a_status, a_stageOf, a_began, a_taken, a_demand, a_asked, a_code, a_waits, a_waiting, a_came, a_given, a_got) ⟨(ye_sub.trans ye_sub.symm).trans s1, (ye_tab.trans ye_tab.symm).trans s2, (ye_log.trans ye_log.symm).trans s3, (ye_heard.trans ye_heard.symm).trans s4, (ye_calls.trans ye_calls.symm).trans s5, (ye_over.trans ye_over.symm).trans s6, (ye_now.trans ye_now.symm).trans s7⟩
      · have hz : cT C (id + 1) = cT C id := by
          have h1 := cn_pad (P := C id) (n := 0) (fun q _ => hin0 id hid h0 q) 9
          show cT C id + cnp (C id) 9 = cT C id
          rw [show cnp (C id) 9 = 0 from h1]; rfl
        have hn := ih (id + 1) w (by omega) ⟨s1, s2, s3, s4, s5, s6, s7⟩
        rw [hz] at hn
        obtain ⟨f_stages, f_heard, f_now, f_calls, f_parts, f_start, f_at, f_nextX, f_nextY, f_x, f_y, a_kind, a_opA, a_opB, a_heardBy, a_what, a_said, a_when, a_over, a_part, a_first, a_second, a_user, a_goStage, a_goStep, a_done, a_val, a_mom, a_cnt, a_end, a_endMom, a_begun, a_status, a_stageOf, a_began, a_taken, a_demand, a_asked, a_code, a_waits, a_waiting, a_came, a_given, a_got⟩ := w
        exact br_f (nI_ge (b := 3) hid (by decide)) ⟨hin, br_f (by rw [hcl]; exact fun y => h0 (hstw.symm.trans y)) (nm_r (nI_1 id) hn)⟩
  have h0 := key 3 0 v rfl ⟨rfl, rfl, rfl, rfl, rfl, rfl, rfl⟩
  obtain ⟨f_stages, f_heard, f_now, f_calls, f_parts, f_start, f_at, f_nextX, f_nextY, f_x, f_y, a_kind, a_opA, a_opB, a_heardBy, a_what, a_said, a_when, a_over, a_part, a_first, a_second, a_user, a_goStage, a_goStep, a_done, a_val, a_mom, a_cnt, a_end, a_endMom, a_begun, a_status, a_stageOf, a_began, a_taken, a_demand, a_asked, a_code, a_waits, a_waiting, a_came, a_given, a_got⟩ := v
  exact ⟨4, h0⟩
theorem rd_open {k : Nat} {u : SX} {v : SY} (hk : k < 2000000000) (I : i_Rel k u v) (v1 : Int32) : wpX_open (fun r => wpY_open (fun r' v' => r' = r ∧ i_Rel (k + 4) u v') v v1) u v1 := by
  have I0 := i_up I
  obtain ⟨ns, K, A, B, oa, ob, cc, t, LG, S, hck, hX, hY, hC, hSE, hJ⟩ := I
  have hch : ∀ j, j < 3 → ∃ a : Dt × Nat × (Nat → Nat) × (Nat → Bool), (S j).1 = 0 → DYt ns a.1 v ∧ CQ cc t (d_B0 a.1 :: whs LG) ∧ AR (eU (d_E j a.1 (S j)) t a.2.1 (fun _ => t) (fun _ => LG) LG) (d_B0 a.1) cc u (d_H a.1) a.2.2.1 a.2.2.2 ∧ y_stageOf v j = nI (d_s a.1) ∧ y_began v j = lN (d_B0 a.1) := by
    intro j hj
    by_cases h0 : (S j).1 = 0
    · obtain ⟨d, a1, a2, ⟨M, F, bg, hM, hA⟩, a4, a5, a6⟩ := (hJ j hj).2.2.2.2 h0
      exact ⟨(d, M, F, bg), fun _ => ⟨a1, a2, hA, a5, a6⟩⟩
    · exact ⟨((0, fun _ => 0, fun _ => 0, fun _ => 0, fun _ => 0, fun _ => 0, 0, 0, fun _ => 0, fun _ => 0, fun _ => []), 0, fun _ => 0, fun _ => false), fun h => absurd h h0⟩
  obtain ⟨f, hf⟩ := ch3 hch
  have hCt : ∀ j, (S j).1 = 0 → ∀ p, (if (S j).1 = 0 then Cop (d_K (f j).1) (d_sg (f j).1) (d_oa (f j).1) (d_us (f j).1) (d_z (f j).1) (d_H (f j).1) (f j).2.2.2 v1 p else false) = Cop (d_K (f j).1) (d_sg (f j).1) (d_oa (f j).1) (d_us (f j).1) (d_z (f j).1) (d_H (f j).1) (f j).2.2.2 v1 p := fun j h0 p => if_pos h0
  have hCf : ∀ j, (S j).1 ≠ 0 → ∀ p, (if (S j).1 = 0 then Cop (d_K (f j).1) (d_sg (f j).1) (d_oa (f j).1) (d_us (f j).1) (d_z (f j).1) (d_H (f j).1) (f j).2.2.2 v1 p else false) = false := fun j h0 p => if_neg h0
  refine xp_open (fun j p => if (S j).1 = 0 then Cop (d_K (f j).1) (d_sg (f j).1) (d_oa (f j).1) (d_us (f j).1) (d_z (f j).1) (d_H (f j).1) (f j).2.2.2 v1 p else false) (fun j hj m hm P Q hP hQ => ?_) ?_
  · by_cases h0 : (S j).1 = 0
    · obtain ⟨a1, a2, a3, a4, a5⟩ := hf j hj h0
      exact op_cond hj a1 ((ad_st (hJ j hj).1).trans h0) a3 m hm P Q (fun y => hP ((hCt j h0 m).trans y)) (fun y => hQ ((hCt j h0 m).trans y))
    · have hst := ad_st (hJ j hj).1
      refine xp_run hj hm (fun y => absurd (hst.symm.trans y) h0) (fun y => absurd (hst.symm.trans y.1) h0) (fun _ => br_t rfl (hP (hCf j h0 m)))
  · refine yp_open (t := t) (LG := LG) (fun j p => if (S j).1 = 0 then Cop (d_K (f j).1) (d_sg (f j).1) (d_oa (f j).1) (d_us (f j).1) (d_z (f j).1) (d_H (f j).1) (f j).2.2.2 v1 p else false) S hC.1 hC.2.1 hC.2.2.1 hY.2.2.1 hY.2.2.2.1 hY.2.2.2.2.1 (fun j hj => yd_st (hJ j hj).2.1) (fun j hj h0 => ?_) (fun j hj h0 p => hCf j h0 p) (fun w hw => ⟨rfl, rl_frame hw.1 hw.2.1 hw.2.2.1 hw.2.2.2.1 hw.2.2.2.2.1 hw.2.2.2.2.2.1 hw.2.2.2.2.2.2 I0⟩)
    obtain ⟨a1, a2, a3, a4, a5⟩ := hf j hj h0
    have hTR : TR (d_E j (f j).1 (S j)) := rl_TR hj a1
    have hS := so_cu (E := eU (d_E j (f j).1 (S j)) t (f j).2.1 (fun _ => t) (fun _ => LG) LG) (t := t) (LG := LG) hTR (fun _ _ => rfl) (fun _ _ => rfl) (ad_cu a3.1 a3.2.1)
    refine ⟨d_n (f j).1, d_s (f j).1, d_B0 (f j).1, d_K (f j).1, d_A (f j).1, d_B (f j).1, d_sg (f j).1, d_us (f j).1, d_oa (f j).1, d_ob (f j).1, d_H (f j).1, fun q => if (f j).2.2.2 q = true then some ((f j).2.2.1 q) else none, a1.2.1, ⟨a1.2.2.1, a1.2.2.2.1, a1.2.2.2.2, sol_g hS, cq_cms (by omega) a2⟩, a4, a5, fun p => ?_⟩
    refine (hCt j h0 p).trans ?_
    unfold Cop
    have hb : ((if (f j).2.2.2 p = true then some ((f j).2.2.1 p) else none) : Option Nat).isSome = (f j).2.2.2 p := by
      cases (f j).2.2.2 p <;> rfl
    dsimp only
    rw [hb]
    rfl
