/-! ===== the reference: go over the subscriptions ===== -/
theorem ev_pre0 {z : Option (Int32 × Nat)} {ex : List Ev} : ∀ (L0 L : List (Int32 × Nat)), evs L z = evs L0 none ++ ex → L0.length ≤ L.length ∧ ex = evs (L.drop L0.length) z := by
  intro L0
  induction L0 with
  | nil =>
    intro L h
    refine ⟨Nat.zero_le _, ?_⟩
    have h2 : evs L z = ex := h
    rw [← h2]; rfl
  | cons a L0 ih =>
    intro L h
    cases L with
    | nil =>
      exfalso
      cases z with
      | none => simp [evs] at h
      | some w =>
        have h2 : [((if w.1 = 0 then 2 else 3), w.1, w.2)] = (1, a.1, a.2) :: (evs L0 none ++ ex) := h
        have h3 := congrArg (fun l => l.head?.map (fun e : Ev => e.1)) h2
        simp at h3
        split at h3 <;> exact absurd h3 (by decide)
    | cons x r =>
      have h2 : ((1, x.1, x.2) : Ev) :: evs r z = (1, a.1, a.2) :: (evs L0 none ++ ex) := h
      have h3 := (List.cons.inj h2).2
      have := ih r h3
      exact ⟨by simp; exact this.1, by rw [this.2]; rfl⟩
theorem ev_pre1 {z : Option (Int32 × Nat)} {ex : List Ev} {w : Int32 × Nat} : ∀ (L0 L : List (Int32 × Nat)), evs L z = evs L0 (some w) ++ ex → L = L0 ∧ z = some w ∧ ex = [] := by
  intro L0
  induction L0 with
  | nil =>
    intro L h
    have h2 : evs L z = ((if w.1 = 0 then 2 else 3), w.1, w.2) :: ex := h
    cases L with
    | nil =>
      cases z with
      | none => simp [evs] at h2
      | some w' =>
        have h3 : [(((if w'.1 = 0 then 2 else 3), w'.1, w'.2) : Ev)] = ((if w.1 = 0 then 2 else 3), w.1, w.2) :: ex := h2
        obtain ⟨h4, h5⟩ := List.cons.inj h3
        have h6 := congrArg (fun e : Ev => e.2) h4
        exact ⟨rfl, by rw [show w' = w from h6], h5.symm⟩
    | cons x r =>
      exfalso
      have h3 : ((1, x.1, x.2) : Ev) :: evs r z = ((if w.1 = 0 then 2 else 3), w.1, w.2) :: ex := h2
      have h4 := congrArg (fun e : Ev => e.1) (List.cons.inj h3).1
      have h5 : 1 = (if w.1 = 0 then 2 else 3) := h4
      split at h5 <;> exact absurd h5 (by decide)
  | cons a L0 ih =>
    intro L h
    cases L with
    | nil =>
      exfalso
      cases z with
      | none => simp [evs] at h
      | some w' =>
        have h2 : [((if w'.1 = 0 then 2 else 3), w'.1, w'.2)] = (1, a.1, a.2) :: (evs L0 (some w) ++ ex) := h
        have h3 := congrArg (fun l => l.head?.map (fun e : Ev => e.1)) h2
        simp at h3
        split at h3 <;> exact absurd h3 (by decide)
    | cons x r =>
      have h2 : ((1, x.1, x.2) : Ev) :: evs r z = (1, a.1, a.2) :: (evs L0 (some w) ++ ex) := h
      have h3 := (List.cons.inj h2)
      have := ih r h3.2
      have h4 := congrArg (fun e : Ev => e.2) h3.1
      exact ⟨by rw [this.1, show x = a from h4], this.2⟩
theorem ev_enz {z : Option (Int32 × Nat)} : ∀ (r : List (Int32 × Nat)) (s : Sb), (s.1 = 0 → s.2.2.1 = 0) → ENZ z ((evs r z).foldl evf s) := by
  intro r
  induction r with
  | nil =>
    intro s hs
    cases z with
    | none => exact fun h => ⟨fun _ => hs h, fun w hw => by simp at hw⟩
    | some w =>
      show ENZ (some w) (evf s ((if w.1 = 0 then 2 else 3), w.1, w.2))
      obtain ⟨st, co, en, dm, dv, ws, hh⟩ := s
      intro h
      refine ⟨fun y => by simp at y, fun w' hw' => ?_⟩
      cases hw'
      unfold evf sst at h ⊢
      dsimp only at h ⊢
      by_cases h0 : st ≠ 0
      · rw [if_pos h0] at h; exact absurd h h0
      · have hne : ¬ (if w.1 = 0 then 2 else 3) = 1 := by split <;> decide
        rw [if_neg h0, if_neg hne] at h ⊢
        unfold sef at h ⊢
        dsimp only at h ⊢
        have hk : (if w.1 = 0 then 2 else 3) ≠ 0 := by split <;> decide
        by_cases hw : ws = []
        · exfalso
          rw [if_pos ⟨hk, hw⟩] at h
          revert h
          dsimp only
          split <;> decide
        · rw [if_neg (fun y => hw y.2)]
          exact ⟨rfl, rfl, hw⟩
  | cons x r ih =>
    intro s hs
    show ENZ z ((evs r z).foldl evf (evf s (1, x.1, x.2)))
    refine ih _ (fun y => ?_)
    obtain ⟨st, co, en, dm, dv, ws, hh⟩ := s
    have hs' : st = 0 → en = 0 := hs
    unfold evf sst at y ⊢
    dsimp only at y ⊢
    by_cases h0 : st ≠ 0
    · rw [if_pos h0] at y; exact absurd y h0
    · have he := hs' (Decidable.not_not.mp h0)
      rw [if_neg h0, if_pos rfl]
      unfold sdl
      dsimp only
      split
      · split <;> exact he
      · exact he
def y_cst (v : SY) := (y_stages v, y_heard v, y_now v, y_calls v, y_kind v, y_opA v, y_opB v, y_heardBy v, y_what v, y_said v, y_when v, y_over v, y_stageOf v, y_began v, y_asked v)
def RepW (v : SY) (id : Nat) (s : Sb) : Prop := RepV (y_status v) (y_code v) (y_demand v) (y_waits v) (y_waiting v) (y_came v) (y_given v) (y_got v) id s
def YC (ns : Nat) (K A B : Nat → Nat) (oa ob : Nat → Int32) (LG : List Lg) (t : Nat) (v : SY) : Prop := TYt ns K A B oa ob (y_kind v) (y_opA v) (y_opB v) ∧ y_now v = nI t ∧ y_heard v = nI LG.length ∧ YL (y_heardBy v) (y_what v) (y_said v) (y_when v) LG
def GIN (ns : Nat) (K A B : Nat → Nat) (oa ob : Nat → Int32) (LG : List Lg) (t j σ B0 : Nat) (sg us : Nat → Nat) (H : Nat → List Ev) (bf : Nat → Option Nat) (L0 : List (Int32 × Nat)) (z0 : Option (Int32 × Nat)) (ex : List Ev) (s : Sb) (v : SY) : Prop :=
  RUN ns K A B oa ob LG t j σ B0 sg us H bf ∧ y_stageOf v j = nI σ ∧ y_began v j = lN B0 ∧ y_taken v j = nI L0.length ∧ H (sz K A B σ - 1) = evs L0 z0 ++ ex ∧ ENZ z0 s
def GOUT (Hr : List Ev) (j : Nat) (G : Sb) (v : SY) : Prop := ∃ L z, evs L z = Hr ∧ zok z ∧ (G.1 = 0 → y_taken v j = nI L.length ∧ ENZ z G)
section
variable {f_stages : Int32} {f_heard : Int32} {f_now : Int32} {f_calls : Int64} {f_parts : Int32} {f_start : Int64} {f_at : Int32} {f_nextX : Int32} {f_nextY : Int32} {f_x : Int32} {f_y : Int32} {a_kind : (Nat → Int32)} {a_opA : (Nat → Int32)} {a_opB : (Nat → Int32)} {a_heardBy : (Nat → Int32)} {a_what : (Nat → Int32)} {a_said : (Nat → Int32)} {a_when : (Nat → Int64)} {a_over : (Nat → Int32)} {a_part : (Nat → Int32)} {a_first : (Nat → Int32)} {a_second : (Nat → Int32)} {a_user : (Nat → Int32)} {a_goStage : (Nat → Int32)} {a_goStep : (Nat → Int32)} {a_done : (Nat → Int32)} {a_val : (Nat → Int32)} {a_mom : (Nat → Int64)} {a_cnt : (Nat → Int32)} {a_end : (Nat → Int32)} {a_endMom : (Nat → Int64)} {a_begun : (Nat → Int32)} {a_status : (Nat → Int32)} {a_stageOf : (Nat → Int32)} {a_began : (Nat → Int64)} {a_taken : (Nat → Int32)} {a_demand : (Nat → Int64)} {a_asked : (Nat → Int32)} {a_code : (Nat → Int32)} {a_waits : (Nat → Int32)} {a_waiting : (Nat → Int32)} {a_came : (Nat → Int32)} {a_given : (Nat → Int32)} {a_got : (Nat → Int64)}
theorem ye_cst : y_cst (f_stages, f_heard, f_now, f_calls, f_parts, f_start, f_at, f_nextX, f_nextY, f_x, f_y, a_kind, a_opA, a_opB, a_heardBy, a_what, a_said, a_when, a_over, a_part, a_first, a_second, a_user, a_goStage, a_goStep, a_done, a_val, a_mom, a_cnt, a_end, a_endMom, a_begun, a_status, a_stageOf, a_began, a_taken, a_demand, a_asked, a_code, a_waits, a_waiting, a_came, a_given, a_got) = (f_stages, f_heard, f_now, f_calls, a_kind, a_opA, a_opB, a_heardBy, a_what, a_said, a_when, a_over, a_stageOf, a_began, a_asked) := rfl
theorem ye_rw {id : Nat} {s : Sb} (h : RepW (f_stages, f_heard, f_now, f_calls, f_parts, f_start, f_at, f_nextX, f_nextY, f_x, f_y, a_kind, a_opA, a_opB, a_heardBy, a_what, a_said, a_when, a_over, a_part, a_first, a_second, a_user, a_goStage, a_goStep, a_done, a_val, a_mom, a_cnt, a_end, a_endMom, a_begun, a_status, a_stageOf, a_began, a_taken, a_demand, a_asked, a_code, a_waits, a_waiting, a_came, a_given, a_got) id s) : RepV a_status a_code a_demand a_waits a_waiting a_came a_given a_got id s := h
theorem ye_rw' {id : Nat} {s : Sb} (h : RepV a_status a_code a_demand a_waits a_waiting a_came a_given a_got id s) : RepW (f_stages, f_heard, f_now, f_calls, f_parts, f_start, f_at, f_nextX, f_nextY, f_x, f_y, a_kind, a_opA, a_opB, a_heardBy, a_what, a_said, a_when, a_over, a_part, a_first, a_second, a_user, a_goStage, a_goStep, a_done, a_val, a_mom, a_cnt, a_end, a_endMom, a_begun, a_status, a_stageOf, a_began, a_taken, a_demand, a_asked, a_code, a_waits, a_waiting, a_came, a_given, a_got) id s := h
theorem yx_step {post : SY → Prop} {J : Int32 → Int32 → Int32 → Int32 → Int64 → Int32 → Int64 → Int32 → Int32 → Int32 → Int32 → Int32 → (Nat → Int32) → (Nat → Int32) → (Nat → Int32) → (Nat → Int32) → (Nat → Int32) → (Nat → Int32) → (Nat → Int64) → (Nat → Int32) → (Nat → Int32) → (Nat → Int32) → (Nat → Int32) → (Nat → Int32) → (Nat → Int32) → (Nat → Int32) → (Nat → Int32) → (Nat → Int32) → (Nat → Int64) → (Nat → Int32) → (Nat → Int32) → (Nat → Int64) → (Nat → Int32) → (Nat → Int32) → (Nat → Int32) → (Nat → Int64) → (Nat → Int32) → (Nat → Int64) → (Nat → Int32) → (Nat → Int32) → (Nat → Int32) → (Nat → Int32) → (Nat → Int32) → (Nat → Int32) → (Nat → Int64) → Prop} {ns j σ B0 t : Nat} {K A B sg us : Nat → Nat} {oa ob : Nat → Int32} {LG : List Lg} {H : Nat → List Ev} {bf : Nat → Option Nat} {L0 : List (Int32 × Nat)} {z0 : Option (Int32 × Nat)} {ex : List Ev} {s : Sb} (hj : j < 3) (hC : YC ns K A B oa ob LG t (f_stages, f_heard, f_now, f_calls, f_parts, f_start, f_at, f_nextX, f_nextY, f_x, f_y, a_kind, a_opA, a_opB, a_heardBy, a_what, a_said, a_when, a_over, a_part, a_first, a_second, a_user, a_goStage, a_goStep, a_done, a_val, a_mom, a_cnt, a_end, a_endMom, a_begun, a_status, a_stageOf, a_began, a_taken, a_demand, a_asked, a_code, a_waits, a_waiting, a_came, a_given, a_got)) (ht : t ≤ 200) (h32 : LG.length ≤ 32) (hsl : LG.Pairwise (fun x y => x.2.2.2 ≤ y.2.2.2)) (hR : RepW (f_stages, f_heard, f_now, f_calls, f_parts, f_start, f_at, f_nextX, f_nextY, f_x, f_y, a_kind, a_opA, a_opB, a_heardBy, a_what, a_said, a_when, a_over, a_part, a_first, a_second, a_user, a_goStage, a_goStep, a_done, a_val, a_mom, a_cnt, a_end, a_endMom, a_begun, a_status, a_stageOf, a_began, a_taken, a_demand, a_asked, a_code, a_waits, a_waiting, a_came, a_given, a_got) j s) (h0 : s.1 = 0) (hG : GIN ns K A B oa ob LG t j σ B0 sg us H bf L0 z0 ex s (f_stages, f_heard, f_now, f_calls, f_parts, f_start, f_at, f_nextX, f_nextY, f_x, f_y, a_kind, a_opA, a_opB, a_heardBy, a_what, a_said, a_when, a_over, a_part, a_first, a_second, a_user, a_goStage, a_goStep, a_done, a_val, a_mom, a_cnt, a_end, a_endMom, a_begun, a_status, a_stageOf, a_began, a_taken, a_demand, a_asked, a_code, a_waits, a_waiting, a_came, a_given, a_got))
    (KK : ∀ v', y_cst v' = y_cst (f_stages, f_heard, f_now, f_calls, f_parts, f_start, f_at, f_nextX, f_nextY, f_x, f_y, a_kind, a_opA, a_opB, a_heardBy, a_what, a_said, a_when, a_over, a_part, a_first, a_second, a_user, a_goStage, a_goStep, a_done, a_val, a_mom, a_cnt, a_end, a_endMom, a_begun, a_status, a_stageOf, a_began, a_taken, a_demand, a_asked, a_code, a_waits, a_waiting, a_came, a_given, a_got) → RepW v' j (ex.foldl evf s) → GOUT (H (sz K A B σ - 1)) j (ex.foldl evf s) v' → (∀ i, i ≠ j → (∀ s', RepW (f_stages, f_heard, f_now, f_calls, f_parts, f_start, f_at, f_nextX, f_nextY, f_x, f_y, a_kind, a_opA, a_opB, a_heardBy, a_what, a_said, a_when, a_over, a_part, a_first, a_second, a_user, a_goStage, a_goStep, a_done, a_val, a_mom, a_cnt, a_end, a_endMom, a_begun, a_status, a_stageOf, a_began, a_taken, a_demand, a_asked, a_code, a_waits, a_waiting, a_came, a_given, a_got) i s' → RepW v' i s') ∧ y_taken v' i = a_taken i ∧ y_status v' i = a_status i) → J (nI (j + 1)) (y_stages v') (y_heard v') (y_now v') (y_calls v') (y_parts v') (y_start v') (y_at v') (y_nextX v') (y_nextY v') (y_x v') (y_y v') (y_kind v') (y_opA v') (y_opB v') (y_heardBy v') (y_what v') (y_said v') (y_when v') (y_over v') (y_part v') (y_first v') (y_second v') (y_user v') (y_goStage v') (y_goStep v') (y_done v') (y_val v') (y_mom v') (y_cnt v') (y_end v') (y_endMom v') (y_begun v') (y_status v') (y_stageOf v') (y_began v') (y_taken v') (y_demand v') (y_asked v') (y_code v') (y_waits v') (y_waiting v') (y_came v') (y_given v') (y_got v')) :
    wpY_work (fun u => match u with | (f_stages, f_heard, f_now, f_calls, f_parts, f_start, f_at, f_nextX, f_nextY, f_x, f_y, a_kind, a_opA, a_opB, a_heardBy, a_what, a_said, a_when, a_over, a_part, a_first, a_second, a_user, a_goStage, a_goStep, a_done, a_val, a_mom, a_cnt, a_end, a_endMom, a_begun, a_status, a_stageOf, a_began, a_taken, a_demand, a_asked, a_code, a_waits, a_waiting, a_came, a_given, a_got) => (∀ x : Int32, x = f_parts - 1 → (∃ n31 : Nat, wY_go_31 post J (nI j) x n31 f_stages f_heard f_now f_calls f_parts f_start f_at f_nextX f_nextY f_x f_y a_kind a_opA a_opB a_heardBy a_what a_said a_when a_over a_part a_first a_second a_user a_goStage a_goStep a_done a_val a_mom a_cnt a_end a_endMom a_begun a_status a_stageOf a_began a_taken a_demand a_asked a_code a_waits a_waiting a_came a_given a_got))) (f_stages, f_heard, f_now, f_calls, f_parts, f_start, f_at, f_nextX, f_nextY, f_x, f_y, a_kind, a_opA, a_opB, a_heardBy, a_what, a_said, a_when, a_over, a_part, a_first, a_second, a_user, a_goStage, a_goStep, a_done, a_val, a_mom, a_cnt, a_end, a_endMom, a_begun, a_status, a_stageOf, a_began, a_taken, a_demand, a_asked, a_code, a_waits, a_waiting, a_came, a_given, a_got) (nI j) := by
  obtain ⟨hrun, hso, hbg, htk, hH, hE⟩ := hG
  obtain ⟨hc1, hc2, hc3, hc4⟩ := hC
  have hTB := hc1.1
  have hpos := tr_pos hTB hrun.1
  have h9 := hrun.2.1
  refine yx_work hj hc1 hrun hso hbg ht hc2 hc3 h32 hc4 hsl (fun at0 fx fy nx ny pa fi1 se uu gs gt dn va mm cn en em be k1 k2 => ?_)
  obtain ⟨⟨L, z, y1, y2, y3⟩, y4, y5⟩ := k2 (sz K A B σ - 1) (by omega)
  have hR' := ye_rw hR
  refine nm_r (e' := nI (sz K A B σ - 1)) (by rw [show (1 : Int32) = nI 1 from rfl, pk_sub (by omega)]) ?_
  have htk' : a_taken j = nI L0.length := htk
  have hend := hH
  rw [← y2] at hend
  have hs1 : a_status j = 0 := by
    obtain ⟨st, co, en0, dm, dv, ws, hh⟩ := s
    exact hR'.1.trans h0
  cases z0 with
  | none =>
    obtain ⟨e1, e2⟩ := ev_pre0 L0 L hend
    have hen := (hE h0).1 rfl
    refine ⟨(L.drop L0.length).length + 1, yx_loop (G := ex.foldl evf s) (f_parts := nI (sz K A B σ)) (f_start := lN B0) (f_at := at0) (f_nextX := nx) (f_nextY := ny) (f_x := fx) (f_y := fy) (a_part := pa) (a_first := fi1) (a_second := se) (a_user := uu) (a_goStage := gs) (a_goStep := gt) (a_done := dn) (a_val := va) (a_mom := mm) (a_cnt := cn) (a_end := en) (a_endMom := em) (a_begun := be) hj (by omega) y1 (fun ss sc sd tk wt wg cm gv gt2 g1 g2 g3 g4 => ?_) (L.drop L0.length) L0.length s a_status a_code a_demand a_taken a_waits a_waiting a_given a_got rfl e1 (fun _ => htk') (fun _ _ => rfl) hR' vf_refl ⟨fun _ => hen, by rw [e2]⟩⟩
    refine KK _ (ye_cst.trans ye_cst.symm) (ye_rw' g1) ⟨L, z, y2, y1.2.2.2.1, fun hg => ⟨g3 hg, ?_⟩⟩ (fun i hi => ⟨fun s' hs' => ye_rw' ((g2 i hi).1 s' (ye_rw hs')), g4 i hi, (g2 i hi).2⟩)
    rw [e2]
    exact ev_enz _ s (fun _ => hen)
  | some w =>
    obtain ⟨e1, e2, e3⟩ := ev_pre1 L0 L hend
    subst e1; subst e2; subst e3
    have hcl : (nI j).toNatClampNeg = j := nI_clamp (by omega)
    have hclr : (nI (sz K A B σ - 1)).toNatClampNeg = sz K A B σ - 1 := nI_clamp (by omega)
    have hin : vp_in (nI j) 3 := vp_in_nI hj (by decide)
    have hinr : vp_in (nI (sz K A B σ - 1)) 9 := vp_in_nI (by omega) (by decide)
    have hl := y1.2.1
    refine ⟨0 + 1, hin, br_t (by rw [hcl]; exact hs1) ⟨hin, hinr, br_t (by rw [hcl, hclr, y1.1, htk']; exact nI_le (Nat.le_refl _) (by omega)) ?_⟩⟩
    refine yx_end (G := s) (f_parts := nI (sz K A B σ)) (f_start := lN B0) (f_at := at0) (f_nextX := nx) (f_nextY := ny) (f_x := fx) (f_y := fy) (a_part := pa) (a_first := fi1) (a_second := se) (a_user := uu) (a_goStage := gs) (a_goStep := gt) (a_done := dn) (a_val := va) (a_mom := mm) (a_cnt := cn) (a_end := en) (a_endMom := em) (a_begun := be) hj (by omega) y1 hR' (Or.inr (Or.inr ⟨h0, w, rfl, ?_⟩)) (fun ss sc wt cm g1 g2 => ?_)
    · have hz := (hE h0).2 w rfl
      obtain ⟨st, co, en0, dm, dv, ws, hh⟩ := s
      have h0' : st = 0 := h0
      have z1 : en0 = (if w.1 = 0 then 2 else 3) := hz.1
      have z2 : co = w.1 := hz.2.1
      have z3 : ws ≠ [] := hz.2.2
      unfold sef
      dsimp only
      rw [if_neg (fun y => z3 y.2), h0', z1, z2]
    · refine KK _ (ye_cst.trans ye_cst.symm) (ye_rw' g1) ⟨L, some w, y2, y1.2.2.2.1, fun _ => ⟨htk, hE⟩⟩ (fun i hi => ⟨fun s' hs' => ye_rw' ((g2 i hi).1 s' (ye_rw hs')), rfl, (g2 i hi).2⟩)
end
theorem yx_ycst {v v' : SY} (h : y_cst v' = y_cst v) : y_stages v' = y_stages v ∧ y_heard v' = y_heard v ∧ y_now v' = y_now v ∧ y_calls v' = y_calls v ∧ y_kind v' = y_kind v ∧ y_opA v' = y_opA v ∧ y_opB v' = y_opB v ∧ y_heardBy v' = y_heardBy v ∧ y_what v' = y_what v ∧ y_said v' = y_said v ∧ y_when v' = y_when v ∧ y_over v' = y_over v ∧ y_stageOf v' = y_stageOf v ∧ y_began v' = y_began v ∧ y_asked v' = y_asked v := by
  unfold y_cst at h
  simp only [Prod.mk.injEq] at h
  exact h
theorem yx_yc {ns : Nat} {K A B : Nat → Nat} {oa ob : Nat → Int32} {LG : List Lg} {t : Nat} {v v' : SY} (h : y_cst v' = y_cst v) (hC : YC ns K A B oa ob LG t v) : YC ns K A B oa ob LG t v' := by
  obtain ⟨h1, h2, h3, h4, h5, h6, h7, h8, h9, h10, h11, h12, h13, h14, h15⟩ := yx_ycst h
  unfold YC at hC ⊢
  rw [h2, h3, h5, h6, h7, h8, h9, h10, h11]
  exact hC
theorem yx_go {post : SY → Prop} {t : Nat} {LG : List Lg} (ns : Nat → Nat) (K A B : Nat → Nat → Nat) (oa ob : Nat → Nat → Int32) (σ B0 : Nat → Nat) (sg us : Nat → Nat → Nat) (H : Nat → Nat → List Ev) (bf : Nat → Nat → Option Nat) (L0 : Nat → List (Int32 × Nat)) (z0 : Nat → Option (Int32 × Nat)) (ex : Nat → List Ev) (S : Nat → Sb) {v : SY} (hC : ∀ j, j < 3 → (S j).1 = 0 → YC (ns j) (K j) (A j) (B j) (oa j) (ob j) LG t v) (ht : t ≤ 200) (h32 : LG.length ≤ 32) (hsl : LG.Pairwise (fun x y => x.2.2.2 ≤ y.2.2.2)) (hR : ∀ j, j < 3 → RepW v j (S j)) (hG : ∀ j, j < 3 → (S j).1 = 0 → GIN (ns j) (K j) (A j) (B j) (oa j) (ob j) LG t j (σ j) (B0 j) (sg j) (us j) (H j) (bf j) (L0 j) (z0 j) (ex j) (S j) v)
    (KK : ∀ v', y_cst v' = y_cst v → (∀ j, j < 3 → RepW v' j (if (S j).1 = 0 then (ex j).foldl evf (S j) else S j)) → (∀ j, j < 3 → (S j).1 = 0 → GOUT (H j (sz (K j) (A j) (B j) (σ j) - 1)) j ((ex j).foldl evf (S j)) v') → post v') : wpY_go post v := by
  have key : ∀ (e id : Nat) (w : SY), id + e = 3 → y_cst w = y_cst v → (∀ j, j < 3 → RepW w j (if j < id then (if (S j).1 = 0 then (ex j).foldl evf (S j) else S j) else S j)) → (∀ j, j < 3 → id ≤ j → (S j).1 = 0 → GIN (ns j) (K j) (A j) (B j) (oa j) (ob j) LG t j (σ j) (B0 j) (sg j) (us j) (H j) (bf j) (L0 j) (z0 j) (ex j) (S j) w) → (∀ j, j < id → (S j).1 = 0 → GOUT (H j (sz (K j) (A j) (B j) (σ j) - 1)) j ((ex j).foldl evf (S j)) w) → wY_go_2 post (e + 1) (nI id) (y_stages w) (y_heard w) (y_now w) (y_calls w) (y_parts w) (y_start w) (y_at w) (y_nextX w) (y_nextY w) (y_x w) (y_y w) (y_kind w) (y_opA w) (y_opB w) (y_heardBy w) (y_what w) (y_said w) (y_when w) (y_over w) (y_part w) (y_first w) (y_second w) (y_user w) (y_goStage w) (y_goStep w) (y_done w) (y_val w) (y_mom w) (y_cnt w) (y_end w) (y_endMom w) (y_begun w) (y_status w) (y_stageOf w) (y_began w) (y_taken w) (y_demand w) (y_asked w) (y_code w) (y_waits w) (y_waiting w) (y_came w) (y_given w) (y_got w) := by
    intro e
    induction e with
    | zero =>
      intro id w hi hc h1 h2 h3
      have : id = 3 := by omega
      subst this
      have hk := KK w hc (fun j hj => by have := h1 j hj; rw [if_pos hj] at this; exact this) (fun j hj hs => h3 j hj hs)
      obtain ⟨f_stages, f_heard, f_now, f_calls, f_parts, f_start, f_at, f_nextX, f_nextY, f_x, f_y, a_kind, a_opA, a_opB, a_heardBy, a_what, a_said, a_when, a_over, a_part, a_first, a_second, a_user, a_goStage, a_goStep, a_done, a_val, a_mom, a_cnt, a_end, a_endMom, a_begun, a_status, a_stageOf, a_began, a_taken, a_demand, a_asked, a_code, a_waits, a_waiting, a_came, a_given, a_got⟩ := w
      exact br_t (by decide) hk
    | succ e ih =>
      intro id w hi hc h1 h2 h3
      have hid : id < 3 := by omega
      have hcl : (nI id).toNatClampNeg = id := nI_clamp (by omega)
      have hRid := h1 id hid
      rw [if_neg (by omega)] at hRid
      have hst : y_status w id = (S id).1 := by
        have hq := hRid
        cases hS : S id with
        | mk st r =>
          rw [hS] at hq
          obtain ⟨co, en, dm, dv, ws, hh⟩ := r
          exact hq.1
      have hout : ∀ (w' : SY), y_cst w' = y_cst w → (∀ i, i ≠ id → y_taken w' i = y_taken w i) → (∀ j, j < 3 → id + 1 ≤ j → (S j).1 = 0 → GIN (ns j) (K j) (A j) (B j) (oa j) (ob j) LG t j (σ j) (B0 j) (sg j) (us j) (H j) (bf j) (L0 j) (z0 j) (ex j) (S j) w') ∧ (∀ j, j < id → (S j).1 = 0 → GOUT (H j (sz (K j) (A j) (B j) (σ j) - 1)) j ((ex j).foldl evf (S j)) w') := by
        intro w' hw ht2
        obtain ⟨g1, g2, g3, g4, g5, g6, g7, g8, g9, g10, g11, g12, g13, g14, g15⟩ := yx_ycst hw
        refine ⟨fun j hj hij hs => ?_, fun j hj hs => ?_⟩
        · obtain ⟨q1, q2, q3, q4, q5, q6⟩ := h2 j hj (by omega) hs
          exact ⟨q1, by rw [g13]; exact q2, by rw [g14]; exact q3, by rw [ht2 j (by omega)]; exact q4, q5, q6⟩
        · obtain ⟨L, z, q1, q2, q3⟩ := h3 j hj hs
          exact ⟨L, z, q1, q2, fun y => by rw [ht2 j (by omega)]; exact q3 y⟩
      by_cases h0 : (S id).1 = 0
      · have hC' := yx_yc hc (hC id hid h0)
        have hG' := h2 id hid (Nat.le_refl _) h0
        obtain ⟨f_stages, f_heard, f_now, f_calls, f_parts, f_start, f_at, f_nextX, f_nextY, f_x, f_y, a_kind, a_opA, a_opB, a_heardBy, a_what, a_said, a_when, a_over, a_part, a_first, a_second, a_user, a_goStage, a_goStep, a_done, a_val, a_mom, a_cnt, a_end, a_endMom, a_begun, a_status, a_stageOf, a_began, a_taken, a_demand, a_asked, a_code, a_waits, a_waiting, a_came, a_given, a_got⟩ := w
        refine br_f (nI_ge (b := 3) hid (by decide)) ⟨vp_in_nI hid (by decide), br_t (by rw [hcl]; exact hst.trans h0) ?_⟩
        refine yx_step hid hC' ht h32 hsl hRid h0 hG' (fun v' c1 c2 c3 c4 => ?_)
        obtain ⟨o1, o2⟩ := hout v' c1 (fun i hi => (c4 i hi).2.1)
        refine ih (id + 1) v' (by omega) (c1.trans hc) (fun j hj => ?_) o1 (fun j hj hs => ?_)
        · by_cases e1 : j = id
          · subst e1
            rw [if_pos (by omega), if_pos h0]; exact c2
          · have := (c4 j e1).1 _ (h1 j hj)
            rcases Nat.lt_or_ge j id with y | y
            · rw [if_pos y] at this; rw [if_pos (by omega)]; exact this
            · rw [if_neg (by omega)] at this; rw [if_neg (by omega)]; exact this
        · by_cases e1 : j = id
          · subst e1; exact c3
          · exact o2 j (by omega) hs
      · obtain ⟨o1, o2⟩ := hout w rfl (fun i _ => rfl)
        have hn := ih (id + 1) w (by omega) hc (fun j hj => ?_) o1 (fun j hj hs => ?_)
        · obtain ⟨f_stages, f_heard, f_now, f_calls, f_parts, f_start, f_at, f_nextX, f_nextY, f_x, f_y, a_kind, a_opA, a_opB, a_heardBy, a_what, a_said, a_when, a_over, a_part, a_first, a_second, a_user, a_goStage, a_goStep, a_done, a_val, a_mom, a_cnt, a_end, a_endMom, a_begun, a_status, a_stageOf, a_began, a_taken, a_demand, a_asked, a_code, a_waits, a_waiting, a_came, a_given, a_got⟩ := w
          exact br_f (nI_ge (b := 3) hid (by decide)) ⟨vp_in_nI hid (by decide), br_f (by rw [hcl]; exact fun y => h0 (hst.symm.trans y)) (nm_r (nI_1 id) hn)⟩
        · by_cases e1 : j = id
          · subst e1
            rw [if_pos (by omega), if_neg h0]; exact hRid
          · have := h1 j hj
            rcases Nat.lt_or_ge j id with y | y
            · rw [if_pos y] at this; rw [if_pos (by omega)]; exact this
            · rw [if_neg (by omega)] at this; rw [if_neg (by omega)]; exact this
        · by_cases e1 : j = id
          · subst e1; exact absurd hs h0
          · exact o2 j (by omega) hs
  have h0 := key 3 0 v rfl rfl (fun j hj => by rw [if_neg (by omega)]; exact hR j hj) (fun j hj _ hs => hG j hj hs) (fun j hj => by omega)
  obtain ⟨f_stages, f_heard, f_now, f_calls, f_parts, f_start, f_at, f_nextX, f_nextY, f_x, f_y, a_kind, a_opA, a_opB, a_heardBy, a_what, a_said, a_when, a_over, a_part, a_first, a_second, a_user, a_goStage, a_goStep, a_done, a_val, a_mom, a_cnt, a_end, a_endMom, a_begun, a_status, a_stageOf, a_began, a_taken, a_demand, a_asked, a_code, a_waits, a_waiting, a_came, a_given, a_got⟩ := v
  exact ⟨4, h0⟩
