/-! ===== the reference: go ===== -/
def gE (id n : Nat) (K A B sg us : Nat → Nat) (oa ob : Nat → Int32) : EnvP := mkE id n 0 0 0 K A B sg us oa ob (fun _ => 0) (fun _ => []) [] (0, 0, 0, 0, 0, [], fun _ => 0)
def TYt (ns : Nat) (K A B : Nat → Nat) (oa ob : Nat → Int32) (ki pa pb : Nat → Int32) : Prop := TB K A B ns ∧ ∀ σ, σ < ns → ki σ = nI (K σ) ∧ pa σ = oa σ ∧ pb σ = ob σ ∧ opk (K σ) (oa σ) (ob σ) ∧ (3 ≤ K σ → oa σ = nI (A σ)) ∧ (16 ≤ K σ → ob σ = nI (B σ))
def RUN (ns : Nat) (K A B : Nat → Nat) (oa ob : Nat → Int32) (LG : List Lg) (t j σ B0 : Nat) (sg us : Nat → Nat) (H : Nat → List Ev) (bf : Nat → Option Nat) : Prop :=
  σ < ns ∧ sz K A B σ ≤ 9 ∧ LYf K A B sg us 13 0 σ ∧ SOL (gE j (sz K A B σ) K A B sg us oa ob) B0 LG t H bf ∧ CMs t (B0 :: LG.map (fun g => g.2.2.2))
theorem yx_TR {ns j σ : Nat} {K A B sg us : Nat → Nat} {oa ob : Nat → Int32} (hj : j < 3) (hTB : TB K A B ns) (hs : σ < ns) (h9 : sz K A B σ ≤ 9) (hL : LYf K A B sg us 13 0 σ) : TR (gE j (sz K A B σ) K A B sg us oa ob) := ly_TR hj hTB hs h9 (tr_ok hTB 13 0 σ hs hL)
def evd (s : Sb) (l : List Ev) : Sb := l.foldl evf s
theorem ev_dead {s : Sb} (h : s.1 ≠ 0) : ∀ l : List Ev, l.foldl evf s = s := by
  intro l
  induction l with
  | nil => rfl
  | cons e l ih =>
    rw [List.foldl_cons]
    have : evf s e = s := by
      obtain ⟨st, co, en, dm, dv, ws, hh⟩ := s
      unfold evf sst
      dsimp only
      rw [if_pos h]
    rw [this]; exact ih
theorem vf_refl {id : Nat} {ss sc : Nat → Int32} {sd : Nat → Int64} {wt wg cm gv : Nat → Int32} {gt : Nat → Int64} : VF id ss sc sd wt wg cm gv gt ss sc sd wt wg cm gv gt := fun _ _ => ⟨fun _ h => h, rfl⟩
theorem vf_trans {id : Nat} {ss sc ss1 sc1 ss2 sc2 : Nat → Int32} {sd sd1 sd2 : Nat → Int64} {wt wg cm gv wt1 wg1 cm1 gv1 wt2 wg2 cm2 gv2 : Nat → Int32} {gt gt1 gt2 : Nat → Int64} (h1 : VF id ss sc sd wt wg cm gv gt ss1 sc1 sd1 wt1 wg1 cm1 gv1 gt1) (h2 : VF id ss1 sc1 sd1 wt1 wg1 cm1 gv1 gt1 ss2 sc2 sd2 wt2 wg2 cm2 gv2 gt2) : VF id ss sc sd wt wg cm gv gt ss2 sc2 sd2 wt2 wg2 cm2 gv2 gt2 := fun j hj => ⟨fun s hs => (h2 j hj).1 s ((h1 j hj).1 s hs), (h2 j hj).2.trans (h1 j hj).2⟩
def ENZ (z : Option (Int32 × Nat)) (s : Sb) : Prop := s.1 = 0 → (z = none → s.2.2.1 = 0) ∧ ∀ w, z = some w → s.2.2.1 = (if w.1 = 0 then 2 else 3) ∧ s.2.1 = w.1 ∧ s.2.2.2.2.2.1 ≠ []
theorem yx_fin3 {z : Option (Int32 × Nat)} (hz : zok z) {w : Int32 × Nat} (h : z = some w) : ((if w.1 = 0 then 2 else 3) = 2 ∧ w.1 = 0) ∨ ((if w.1 = 0 then 2 else 3) = 3 ∧ ∃ j : Nat, 1 ≤ j ∧ j ≤ 9 ∧ w.1 = nI j) := by
  obtain ⟨_, j, hj, ej⟩ := hz w h
  by_cases h0 : w.1 = 0
  · exact Or.inl ⟨if_pos h0, h0⟩
  · refine Or.inr ⟨if_neg h0, j, ?_, hj, ej⟩
    rcases Nat.eq_zero_or_pos j with y | y
    · exfalso; apply h0; rw [ej, y]; rfl
    · exact y
section
variable {f_stages : Int32} {f_heard : Int32} {f_now : Int32} {f_calls : Int64} {f_parts : Int32} {f_start : Int64} {f_at : Int32} {f_nextX : Int32} {f_nextY : Int32} {f_x : Int32} {f_y : Int32} {a_kind : (Nat → Int32)} {a_opA : (Nat → Int32)} {a_opB : (Nat → Int32)} {a_heardBy : (Nat → Int32)} {a_what : (Nat → Int32)} {a_said : (Nat → Int32)} {a_when : (Nat → Int64)} {a_over : (Nat → Int32)} {a_part : (Nat → Int32)} {a_first : (Nat → Int32)} {a_second : (Nat → Int32)} {a_user : (Nat → Int32)} {a_goStage : (Nat → Int32)} {a_goStep : (Nat → Int32)} {a_done : (Nat → Int32)} {a_val : (Nat → Int32)} {a_mom : (Nat → Int64)} {a_cnt : (Nat → Int32)} {a_end : (Nat → Int32)} {a_endMom : (Nat → Int64)} {a_begun : (Nat → Int32)} {a_status : (Nat → Int32)} {a_stageOf : (Nat → Int32)} {a_began : (Nat → Int64)} {a_taken : (Nat → Int32)} {a_demand : (Nat → Int64)} {a_asked : (Nat → Int32)} {a_code : (Nat → Int32)} {a_waits : (Nat → Int32)} {a_waiting : (Nat → Int32)} {a_came : (Nat → Int32)} {a_given : (Nat → Int32)} {a_got : (Nat → Int64)}
theorem yw_time {post : Int32 → Prop} {m : Nat} (hm : m < 1000000000000000) (H : post (nI (tim m))) : wpY_time post (f_stages, f_heard, f_now, f_calls, f_parts, f_start, f_at, f_nextX, f_nextY, f_x, f_y, a_kind, a_opA, a_opB, a_heardBy, a_what, a_said, a_when, a_over, a_part, a_first, a_second, a_user, a_goStage, a_goStep, a_done, a_val, a_mom, a_cnt, a_end, a_endMom, a_begun, a_status, a_stageOf, a_began, a_taken, a_demand, a_asked, a_code, a_waits, a_waiting, a_came, a_given, a_got) (lN m) := by
  show post (((lN m) >>> ((41 : Int32).toInt64 &&& 63)).toInt32)
  rw [ts_time (by omega)]
  exact H
/-- the stream's end, then the next subscription -/
theorem yx_end {post : SY → Prop} {J : Int32 → Int32 → Int32 → Int32 → Int64 → Int32 → Int64 → Int32 → Int32 → Int32 → Int32 → Int32 → (Nat → Int32) → (Nat → Int32) → (Nat → Int32) → (Nat → Int32) → (Nat → Int32) → (Nat → Int32) → (Nat → Int64) → (Nat → Int32) → (Nat → Int32) → (Nat → Int32) → (Nat → Int32) → (Nat → Int32) → (Nat → Int32) → (Nat → Int32) → (Nat → Int32) → (Nat → Int32) → (Nat → Int64) → (Nat → Int32) → (Nat → Int32) → (Nat → Int64) → (Nat → Int32) → (Nat → Int32) → (Nat → Int32) → (Nat → Int64) → (Nat → Int32) → (Nat → Int64) → (Nat → Int32) → (Nat → Int32) → (Nat → Int32) → (Nat → Int32) → (Nat → Int32) → (Nat → Int32) → (Nat → Int64) → Prop} {id root : Nat} {L : List (Int32 × Nat)} {z : Option (Int32 × Nat)} {s : Sb} (hid : id < 3) (hr : root < 9) (hA : YA a_val a_mom a_cnt a_end a_endMom root L z) (hR : RepV a_status a_code a_demand a_waits a_waiting a_came a_given a_got id s) {G : Sb}
    (hG : (s.1 ≠ 0 ∧ G = s) ∨ (s.1 = 0 ∧ z = none ∧ s.2.2.1 = 0 ∧ G = s) ∨ (s.1 = 0 ∧ ∃ w, z = some w ∧ G = sef (0, w.1, (if w.1 = 0 then 2 else 3), s.2.2.2.1, s.2.2.2.2.1, s.2.2.2.2.2.1, s.2.2.2.2.2.2)))
    (K : ∀ ss sc wt cm, RepV ss sc a_demand wt a_waiting cm a_given a_got id G → VF id a_status a_code a_demand a_waits a_waiting a_came a_given a_got ss sc a_demand wt a_waiting cm a_given a_got → J (nI (id + 1)) f_stages f_heard f_now f_calls f_parts f_start f_at f_nextX f_nextY f_x f_y a_kind a_opA a_opB a_heardBy a_what a_said a_when a_over a_part a_first a_second a_user a_goStage a_goStep a_done a_val a_mom a_cnt a_end a_endMom a_begun (ss) a_stageOf a_began a_taken a_demand a_asked (sc) (wt) a_waiting (cm) a_given a_got) : wY_go_91 post J (nI id) (nI root) f_stages f_heard f_now f_calls f_parts f_start f_at f_nextX f_nextY f_x f_y a_kind a_opA a_opB a_heardBy a_what a_said a_when a_over a_part a_first a_second a_user a_goStage a_goStep a_done a_val a_mom a_cnt a_end a_endMom a_begun a_status a_stageOf a_began a_taken a_demand a_asked a_code a_waits a_waiting a_came a_given a_got := by
  have hcl : (nI id).toNatClampNeg = id := nI_clamp (by omega)
  have hclr : (nI root).toNatClampNeg = root := nI_clamp (by omega)
  have hin : vp_in (nI id) 3 := vp_in_nI hid (by decide)
  have hinr : vp_in (nI root) 9 := vp_in_nI hr (by decide)
  obtain ⟨st, co, en, dm, dv, ws, hh⟩ := s
  have hR0 := hR
  obtain ⟨a1, a2, a3, a4, a5, a6, a7, a8, a9⟩ := hR
  refine ⟨hin, ?_⟩
  rcases hG with ⟨h0, hG⟩ | ⟨h0, hz, he, hG⟩ | ⟨h0, w, hz, hG⟩
  · have h0' : st ≠ 0 := h0
    refine br_f (by rw [hcl, a1]; exact h0') ?_
    refine yu_finish hid (fun y => absurd y h0') hR0 (fun ss sc wt k1 k2 => nm_r (nI_1 id) (K ss sc wt a_came ?_ k2))
    rw [if_neg h0'] at k1
    rw [hG]; exact k1
  · have h0' : st = 0 := h0
    have he' : en = 0 := he
    refine br_t (by rw [hcl, a1]; exact h0') ⟨hinr, hin, nm_r (e' := upd a_came id (-1)) (by rw [hcl, hclr, hA.2.2.2.2.1 hz]) ?_⟩
    have hR1 : RepV a_status a_code a_demand a_waits a_waiting (upd a_came id (-1)) a_given a_got id (st, co, en, dm, dv, ws, hh) := ⟨a1, a2, a3, a4, a5, a6, a7, a8, fun _ => by rw [pk_us, if_pos he']⟩
    refine yu_finish (a_came := upd a_came id (-1)) hid (fun _ => Or.inl he') hR1 (fun ss sc wt k1 k2 => nm_r (nI_1 id) (K ss sc wt _ ?_ (vf_trans (fun j hj => ⟨fun s hs => rv_frame hs rfl rfl rfl rfl (pk_un hj) rfl (fun _ _ => rfl) (fun _ _ => rfl), rfl⟩) k2)))
    rw [if_pos h0', show sef (st, co, en, dm, dv, ws, hh) = (st, co, en, dm, dv, ws, hh) from by simp [sef, he']] at k1
    rw [hG]; exact k1
  · have h0' : st = 0 := h0
    have hev := hA.2.2.2.2.2 w hz
    refine br_t (by rw [hcl, a1]; exact h0') ⟨hinr, hin, nm_r (e' := upd a_came id w.1) (by rw [hcl, hclr, hev.1]) ?_⟩
    have hR1 : RepV a_status a_code a_demand a_waits a_waiting (upd a_came id w.1) a_given a_got id (0, w.1, (if w.1 = 0 then 2 else 3), dm, dv, ws, hh) := ⟨a1.trans h0', fun y => absurd y (by decide), a3, a4, a5, a6, a7, a8, fun _ => by
      rw [pk_us, if_neg]
      split <;> decide⟩
    refine yu_finish (a_came := upd a_came id w.1) hid (fun _ => Or.inr (yx_fin3 hA.2.2.2.1 hz)) hR1 (fun ss sc wt k1 k2 => nm_r (nI_1 id) (K ss sc wt _ ?_ (vf_trans (fun j hj => ⟨fun s hs => rv_frame hs rfl rfl rfl rfl (pk_un hj) rfl (fun _ _ => rfl) (fun _ _ => rfl), rfl⟩) k2)))
    rw [if_pos rfl] at k1
    rw [hG]; exact k1
theorem yx_loop {post : SY → Prop} {J : Int32 → Int32 → Int32 → Int32 → Int64 → Int32 → Int64 → Int32 → Int32 → Int32 → Int32 → Int32 → (Nat → Int32) → (Nat → Int32) → (Nat → Int32) → (Nat → Int32) → (Nat → Int32) → (Nat → Int32) → (Nat → Int64) → (Nat → Int32) → (Nat → Int32) → (Nat → Int32) → (Nat → Int32) → (Nat → Int32) → (Nat → Int32) → (Nat → Int32) → (Nat → Int32) → (Nat → Int32) → (Nat → Int64) → (Nat → Int32) → (Nat → Int32) → (Nat → Int64) → (Nat → Int32) → (Nat → Int32) → (Nat → Int32) → (Nat → Int64) → (Nat → Int32) → (Nat → Int64) → (Nat → Int32) → (Nat → Int32) → (Nat → Int32) → (Nat → Int32) → (Nat → Int32) → (Nat → Int32) → (Nat → Int64) → Prop} {id root : Nat} {L : List (Int32 × Nat)} {z : Option (Int32 × Nat)} {G : Sb} (hid : id < 3) (hr : root < 9) (hA : YA a_val a_mom a_cnt a_end a_endMom root L z)
    (K : ∀ ss sc sd tk wt wg cm gv gt, RepV ss sc sd wt wg cm gv gt id G → VF id a_status a_code a_demand a_waits a_waiting a_came a_given a_got ss sc sd wt wg cm gv gt → (G.1 = 0 → tk id = nI L.length) → (∀ j, j ≠ id → tk j = a_taken j) → J (nI (id + 1)) f_stages f_heard f_now f_calls f_parts f_start f_at f_nextX f_nextY f_x f_y a_kind a_opA a_opB a_heardBy a_what a_said a_when a_over a_part a_first a_second a_user a_goStage a_goStep a_done a_val a_mom a_cnt a_end a_endMom a_begun (ss) a_stageOf a_began (tk) (sd) a_asked (sc) (wt) (wg) (cm) (gv) (gt)) :
    ∀ (r : List (Int32 × Nat)) (i : Nat) (s : Sb) (ss sc : Nat → Int32) (sd : Nat → Int64) (tk wt wg gv : Nat → Int32) (gt : Nat → Int64), L.drop i = r → i ≤ L.length → (s.1 = 0 → tk id = nI i) → (∀ j, j ≠ id → tk j = a_taken j) → RepV ss sc sd wt wg a_came gv gt id s → VF id a_status a_code a_demand a_waits a_waiting a_came a_given a_got ss sc sd wt wg a_came gv gt → ((s.1 = 0 → s.2.2.1 = 0) ∧ G = (evs r z).foldl evf s) → wY_go_31 post J (nI id) (nI root) (r.length + 1) f_stages f_heard f_now f_calls f_parts f_start f_at f_nextX f_nextY f_x f_y a_kind a_opA a_opB a_heardBy a_what a_said a_when a_over a_part a_first a_second a_user a_goStage a_goStep a_done a_val a_mom a_cnt a_end a_endMom a_begun (ss) a_stageOf a_began (tk) (sd) a_asked (sc) (wt) (wg) a_came (gv) (gt) := by
  have hcl : (nI id).toNatClampNeg = id := nI_clamp (by omega)
  have hclr : (nI root).toNatClampNeg = root := nI_clamp (by omega)
  have hin : vp_in (nI id) 3 := vp_in_nI hid (by decide)
  have hinr : vp_in (nI root) 9 := vp_in_nI hr (by decide)
  have hl := hA.2.1
  have hdead : ∀ (r : List (Int32 × Nat)) (n : Nat) (s : Sb) (ss sc : Nat → Int32) (sd : Nat → Int64) (tk wt wg gv : Nat → Int32) (gt : Nat → Int64), s.1 ≠ 0 → (∀ j, j ≠ id → tk j = a_taken j) → RepV ss sc sd wt wg a_came gv gt id s → VF id a_status a_code a_demand a_waits a_waiting a_came a_given a_got ss sc sd wt wg a_came gv gt → G = (evs r z).foldl evf s → wY_go_31 post J (nI id) (nI root) (n + 1) f_stages f_heard f_now f_calls f_parts f_start f_at f_nextX f_nextY f_x f_y a_kind a_opA a_opB a_heardBy a_what a_said a_when a_over a_part a_first a_second a_user a_goStage a_goStep a_done a_val a_mom a_cnt a_end a_endMom a_begun (ss) a_stageOf a_began (tk) (sd) a_asked (sc) (wt) (wg) a_came (gv) (gt) := by
    intro r n s ss sc sd tk wt wg gv gt h0 htk hR hF hG
    rw [ev_dead h0] at hG
    obtain ⟨st, co, en, dm, dv, ws, hh⟩ := s
    have h1 : ss id = st := hR.1
    refine ⟨hin, br_f (by rw [hcl, h1]; exact h0) ?_⟩
    refine yx_end (a_status := ss) (a_code := sc) (a_demand := sd) (a_taken := tk) (a_waits := wt) (a_waiting := wg) (a_given := gv) (a_got := gt) hid hr hA hR (Or.inl ⟨h0, hG⟩) (fun ss2 sc2 wt2 cm2 k1 k2 => K ss2 sc2 sd tk wt2 wg cm2 gv gt k1 (vf_trans hF k2) (fun y => ?_) htk)
    rw [hG] at y
    exact absurd y h0
  intro r
  induction r with
  | nil =>
    intro i s ss sc sd tk wt wg gv gt hdr hi htk htk2 hR hF hG
    have hiL : L.length ≤ i := List.drop_eq_nil_iff.mp hdr
    by_cases h0 : s.1 = 0
    · have hs1 : ss id = 0 := by
        obtain ⟨st, co, en, dm, dv, ws, hh⟩ := s
        exact hR.1.trans h0
      refine ⟨hin, br_t (by rw [hcl]; exact hs1) ⟨hin, hinr, br_t (by rw [hclr, hcl, hA.1, htk h0]; exact nI_le hiL (by omega)) ?_⟩⟩
      refine yx_end (G := G) (a_status := ss) (a_code := sc) (a_demand := sd) (a_taken := tk) (a_waits := wt) (a_waiting := wg) (a_given := gv) (a_got := gt) hid hr hA hR (Or.inr ?_) (fun ss2 sc2 wt2 cm2 k1 k2 => K ss2 sc2 sd tk wt2 wg cm2 gv gt k1 (vf_trans hF k2) (fun _ => by rw [htk h0]; congr 1; omega) htk2)
      cases z with
      | none => exact Or.inl ⟨h0, rfl, hG.1 h0, hG.2⟩
      | some w =>
        refine Or.inr ⟨h0, w, rfl, ?_⟩
        rw [hG.2]
        show evf s ((if w.1 = 0 then 2 else 3), w.1, w.2) = _
        obtain ⟨st, co, en, dm, dv, ws, hh⟩ := s
        have h0' : st = 0 := h0
        subst h0'
        unfold evf sst
        dsimp only
        rw [if_neg (show ¬ ((0 : Int32) ≠ 0) from fun h => h rfl), if_neg]
        split <;> decide
    · exact hdead [] 0 s ss sc sd tk wt wg gv gt h0 htk2 hR hF hG.2
  | cons x r ih =>
    intro i s ss sc sd tk wt wg gv gt hdr hi htk htk2 hR hF hG
    by_cases h0 : s.1 = 0
    · have hs1 : ss id = 0 := by
        obtain ⟨st, co, en, dm, dv, ws, hh⟩ := s
        exact hR.1.trans h0
      have hxi : L[i]? = some x := by rw [← List.head?_drop, hdr]; rfl
      have hil := yb_idx hxi
      have hr' : L.drop (i + 1) = r := by rw [← List.drop_drop, hdr]; rfl
      have hxm := (hA.2.2.1 i x hxi).2.2
      have htx : tim x.2 < 1000 := by unfold tim; omega
      refine ⟨hin, br_t (by rw [hcl]; exact hs1) ⟨hin, hinr, br_f (by rw [hclr, hcl, hA.1, htk h0]; exact nI_ge hil (by omega)) ⟨hin, hin, nm_r (e' := upd tk id (nI (i + 1))) (by rw [hcl, htk h0, nI_1]) (nm_r (e' := nI i) (by rw [hcl, htk h0]) ?_)⟩⟩⟩
      refine yw_word hr hA hxi (yw_of hr hA hxi (yw_time hxm ?_))
      refine yu_arrive (a_status := ss) (a_code := sc) (a_demand := sd) (a_waits := wt) (a_waiting := wg) (a_given := gv) (a_got := gt) hid htx h0 hR (fun ss2 sc2 sd2 wt2 wg2 gv2 gt2 k1 k2 => ?_)
      refine ih (i + 1) (sst (tim x.2) 1 x.1 s) ss2 sc2 sd2 _ wt2 wg2 gv2 gt2 hr' (by omega) (fun _ => pk_us) (fun j hj => by rw [pk_un hj]; exact htk2 j hj) k1 (vf_trans hF k2) ⟨fun y => ?_, hG.2⟩
      have he := hG.1 h0
      obtain ⟨st, co, en, dm, dv, ws, hh⟩ := s
      have he' : en = 0 := he
      unfold sst sdl
      dsimp only
      split
      · exact he'
      · split
        · split
          · split <;> exact he'
          · exact he'
        · rename_i h1; exact absurd rfl h1
    · exact hdead (x :: r) _ s ss sc sd tk wt wg gv gt h0 htk2 hR hF hG.2
theorem yx_work {post : SY → Prop} {id ns s t B0 : Nat} {K A B sg us : Nat → Nat} {oa ob : Nat → Int32} {LG : List Lg} {H : Nat → List Ev} {bf : Nat → Option Nat} (hid : id < 3) (htab : TYt ns K A B oa ob a_kind a_opA a_opB) (hrun : RUN ns K A B oa ob LG t id s B0 sg us H bf) (hso : a_stageOf id = nI s) (hbg : a_began id = lN B0) (ht : t ≤ 200) (hnow : f_now = nI t) (hh : f_heard = nI LG.length) (h32 : LG.length ≤ 32) (hLG : YL a_heardBy a_what a_said a_when LG) (hsl : LG.Pairwise (fun x y => x.2.2.2 ≤ y.2.2.2))
    (KK : ∀ at0 fx fy nx ny pa fi1 se uu gs gt dn va mm cn en em be, YLY (gE id (sz K A B s) K A B sg us oa ob) a_kind a_opA a_opB pa fi1 se uu → YI (gE id (sz K A B s) K A B sg us oa ob) H bf (sz K A B s) va mm cn en em be → post (f_stages, f_heard, f_now, f_calls, nI (sz K A B s), lN B0, at0, nx, ny, fx, fy, a_kind, a_opA, a_opB, a_heardBy, a_what, a_said, a_when, a_over, pa, fi1, se, uu, gs, gt, dn, va, mm, cn, en, em, be, a_status, a_stageOf, a_began, a_taken, a_demand, a_asked, a_code, a_waits, a_waiting, a_came, a_given, a_got)) : wpY_work post (f_stages, f_heard, f_now, f_calls, f_parts, f_start, f_at, f_nextX, f_nextY, f_x, f_y, a_kind, a_opA, a_opB, a_heardBy, a_what, a_said, a_when, a_over, a_part, a_first, a_second, a_user, a_goStage, a_goStep, a_done, a_val, a_mom, a_cnt, a_end, a_endMom, a_begun, a_status, a_stageOf, a_began, a_taken, a_demand, a_asked, a_code, a_waits, a_waiting, a_came, a_given, a_got) (nI id) := by
  obtain ⟨hs, h9, hL, hS, hW⟩ := hrun
  obtain ⟨hTB, htb⟩ := htab
  have hcl : (nI id).toNatClampNeg = id := nI_clamp (by omega)
  have hin : vp_in (nI id) 3 := vp_in_nI hid (by decide)
  have hTR := yx_TR (oa := oa) (ob := ob) hid hTB hs h9 hL
  have hok := tr_ok hTB 13 0 s hs hL
  have h12 := hTB.1
  have hso' : a_stageOf (nI id).toNatClampNeg = nI s := by rw [hcl]; exact hso
  refine ⟨hin, ?_⟩
  rw [hso']
  refine yv_whole hTB (fun σ hσ => ⟨(htb σ hσ).1, fun k => by rw [(htb σ hσ).2.1]; exact (htb σ hσ).2.2.2.2.1 k, fun k => by rw [(htb σ hσ).2.2.1]; exact (htb σ hσ).2.2.2.2.2 k⟩) hs hL (fun y => by omega) (fun _ pa fi1 se uu gs gt dn r1 => ?_)
  have hY : YLY (gE id (sz K A B s) K A B sg us oa ob) a_kind a_opA a_opB pa fi1 se uu := by
    intro q hq
    have hq' : q < sz K A B s := hq
    obtain ⟨q1, q2, q3, q4⟩ := r1 q (Nat.zero_le _) (by omega)
    have hsq := (hok.1 q (Nat.zero_le _) (by omega)).1
    obtain ⟨b1, b2, b3, b4, b5, b6⟩ := htb (sg q) hsq
    refine ⟨q1, by show sg q < 12; omega, b1, b2, b3, b4, q2, q3, ?_⟩
    rw [Nat.zero_add] at q4
    exact q4
  refine ⟨hin, nm_r (e' := lN B0) (by rw [hcl, hbg]) ⟨sz K A B s + 1, ?_⟩⟩
  exact yz_loop (f_start := lN B0) (f_parts := nI (sz K A B s)) (a_part := pa) (a_first := fi1) (a_second := se) (a_user := uu) (a_goStage := gs) (a_goStep := gt) (a_done := dn) hTR hS hW ht hY rfl rfl hnow hh h32 hLG hsl (fun at0 fx fy nx ny va mm cn en em be k1 => KK at0 fx fy nx ny pa fi1 se uu gs gt dn va mm cn en em be hY k1) (sz K A B s) 0 f_at f_x f_y f_nextX f_nextY a_val a_mom a_cnt a_end a_endMom a_begun (Nat.zero_add _) (fun q hq => by omega)
end
