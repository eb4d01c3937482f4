/-! ===== the reference: quiet ===== -/
theorem yq_tms {p c0 D : Nat} {a b : Int32} {d cx : Nat} {h hy : Int32} {f fy qx ox oy : Bool} {q : List (Int32 × Nat)} {Lo : List (Int32 × Nat)} (hp : p < 9) (hd : c0 < d) : (tms p c0 D).foldl (stp 12 a b) ((d, cx, h, hy, f, fy, qx, q, ox, oy), evs Lo none) = if d ≤ c0 + D then ((0, cx, h, hy, f, fy, qx, q, ox, oy), evs (Lo ++ [(h, tm d p)]) none) else ((d, cx, h, hy, f, fy, qx, q, ox, oy), evs Lo none) := by
  have fno : ∀ d T : Nat, T ≠ d → fi 12 a b T (d, cx, h, hy, f, fy, qx, q, ox, oy) = ((d, cx, h, hy, f, fy, qx, q, ox, oy), []) := fun d T hT => by
    have hne : ¬ d = T := fun y => hT y.symm
    simp only [fi, if_neg hne]
  have fyes : fi 12 a b d (d, cx, h, hy, f, fy, qx, q, ox, oy) = ((0, cx, h, hy, f, fy, qx, q, ox, oy), [(1, h)]) := by simp only [fi, if_true]
  by_cases hle : d ≤ c0 + D
  · rw [if_pos hle, yt_one hp (yo_fin Lo) hd hle (fun T' h3 h4 => fno d T' (by omega)) fyes, yt_same hp _ (fun T h3 h4 => fno 0 T (by omega)), yo_snoc]
    rfl
  · rw [if_neg hle, yt_same hp _ (fun T h3 h4 => fno d T (by omega))]
theorem yq_tms0 {p c0 D : Nat} {a b : Int32} {cx : Nat} {h hy : Int32} {f fy qx ox oy : Bool} {q : List (Int32 × Nat)} {O : List Ev} (hp : p < 9) : (tms p c0 D).foldl (stp 12 a b) ((0, cx, h, hy, f, fy, qx, q, ox, oy), O) = ((0, cx, h, hy, f, fy, qx, q, ox, oy), O) :=
  yt_same hp _ (fun T h3 h4 => by
    have hne : ¬ 0 = T := by omega
    simp only [fi, if_neg hne])
theorem yq_hear {a b : Int32} {d cx : Nat} {h hy : Int32} {f fy qx ox oy : Bool} {q : List (Int32 × Nat)} {Lo : List (Int32 × Nat)} {x : Int32 × Nat} : stp 12 a b ((d, cx, h, hy, f, fy, qx, q, ox, oy), evs Lo none) (0, 1, x.1, x.2) = ((tim x.2 + cl b, cx, x.1, hy, f, fy, qx, q, ox, oy), evs Lo none) := by
  rw [yo_item]
  show ((tim x.2 + cl b, cx, x.1, hy, f, fy, qx, q, ox, oy), evs Lo none ++ []) = _
  rw [List.append_nil]
theorem yq_end0 {a b : Int32} {cx : Nat} {h hy : Int32} {f fy qx ox oy : Bool} {q : List (Int32 × Nat)} {Lo : List (Int32 × Nat)} {v : Int32} {m : Nat} : (stp 12 a b ((0, cx, h, hy, f, fy, qx, q, ox, oy), evs Lo none) (0, (if v = 0 then 2 else 3), v, m)).2 = evs Lo (some (v, m)) := by
  rw [rn_stp_go (yo_fin Lo), yo_end]
  by_cases h0 : v = 0
  · subst h0; rfl
  · rw [if_neg h0]; rfl
theorem yq_end1 {a b : Int32} {d cx : Nat} {h hy : Int32} {f fy qx ox oy : Bool} {q : List (Int32 × Nat)} {Lo : List (Int32 × Nat)} {v : Int32} {m : Nat} (hd : d ≠ 0) : (stp 12 a b ((d, cx, h, hy, f, fy, qx, q, ox, oy), evs Lo none) (0, (if v = 0 then 2 else 3), v, m)).2 = if v = 0 then evs (Lo ++ [(h, m)]) (some (v, m)) else evs Lo (some (v, m)) := by
  rw [rn_stp_go (yo_fin Lo)]
  by_cases h0 : v = 0
  · subst h0
    rw [if_pos rfl, if_pos rfl, yo_end, yo_snoc]
    have e : hc 12 b (tim m) true (d, cx, h, hy, f, fy, qx, q, ox, oy) = ((d, cx, h, hy, f, fy, qx, q, ox, oy), [(1, h), (2, 0)]) := by simp [hc, hd]
    show evs Lo none ++ ems m (hc 12 b (tim m) true (d, cx, h, hy, f, fy, qx, q, ox, oy)).2 = _
    rw [e]
    simp [ems]
  · rw [if_neg h0, if_neg h0, yo_end, if_neg h0]; rfl
section
variable {f_stages : Int32} {f_heard : Int32} {f_now : Int32} {f_calls : Int64} {f_parts : Int32} {f_start : Int64} {f_at : Int32} {f_nextX : Int32} {f_nextY : Int32} {f_x : Int32} {f_y : Int32} {a_kind : (Nat → Int32)} {a_opA : (Nat → Int32)} {a_opB : (Nat → Int32)} {a_heardBy : (Nat → Int32)} {a_what : (Nat → Int32)} {a_said : (Nat → Int32)} {a_when : (Nat → Int64)} {a_over : (Nat → Int32)} {a_part : (Nat → Int32)} {a_first : (Nat → Int32)} {a_second : (Nat → Int32)} {a_user : (Nat → Int32)} {a_goStage : (Nat → Int32)} {a_goStep : (Nat → Int32)} {a_done : (Nat → Int32)} {a_val : (Nat → Int32)} {a_mom : (Nat → Int64)} {a_cnt : (Nat → Int32)} {a_end : (Nat → Int32)} {a_endMom : (Nat → Int64)} {a_begun : (Nat → Int32)} {a_status : (Nat → Int32)} {a_stageOf : (Nat → Int32)} {a_began : (Nat → Int64)} {a_taken : (Nat → Int32)} {a_demand : (Nat → Int64)} {a_asked : (Nat → Int32)} {a_code : (Nat → Int32)} {a_waits : (Nat → Int32)} {a_waiting : (Nat → Int32)} {a_came : (Nat → Int32)} {a_given : (Nat → Int32)} {a_got : (Nat → Int64)}
/-- what is left of the run at item r.head, all timers before it fired; nothing pends -/
def QV (p t : Nat) (a b : Int32) (RES : List Ev) (cx : Nat) (hy : Int32) (f fy qx ox oy : Bool) (q : List (Int32 × Nat)) (z : Option (Int32 × Nat)) (Lo : List (Int32 × Nat)) : List (Int32 × Nat) → Prop
  | [] => RES = evs Lo z
  | x :: r => ∀ h : Int32, RES = (((0, 1, x.1, x.2) :: feed p (ckm p x.2) (evs r z) t).foldl (stp 12 a b) ((0, cx, h, hy, f, fy, qx, q, ox, oy), evs Lo none)).2
theorem yq_loop {post : SY → Prop} {p xq t : Nat} {a b : Int32} {L : List (Int32 × Nat)} {z : Option (Int32 × Nat)} {RES : List Ev} {cx : Nat} {hy : Int32} {f fy qx ox oy : Bool} {q : List (Int32 × Nat)} (hp : p < 9) (hxq : xq < 9) (hpx : xq ≠ p) (hat : f_at = nI p) (hfx : f_x = nI xq) (hnow : f_now = nI t) (ht : t ≤ 200) (hL : ∀ x ∈ L, tim x.2 ≤ t) (hz : ∀ w, z = some w → tim w.2 ≤ t) (hL250 : L.length ≤ 250) (hb : 1 ≤ cl b ∧ cl b ≤ 30 ∧ b = nI (cl b)) (hfree : FRa p L z)
    (K : ∀ va mm cn en em L' z', YA va mm cn en em p L' z' → evs L' z' = RES → YF p a_val a_mom a_cnt a_end a_endMom va mm cn en em → L'.length ≤ L.length → post (f_stages, f_heard, f_now, f_calls, f_parts, f_start, f_at, f_nextX, f_nextY, f_x, f_y, a_kind, a_opA, a_opB, a_heardBy, a_what, a_said, a_when, a_over, a_part, a_first, a_second, a_user, a_goStage, a_goStep, a_done, va, mm, cn, en, em, a_begun, a_status, a_stageOf, a_began, a_taken, a_demand, a_asked, a_code, a_waits, a_waiting, a_came, a_given, a_got)) :
    ∀ (r : List (Int32 × Nat)) (i : Nat) (Lo : List (Int32 × Nat)) (va : Nat → Int32) (mm : Nat → Int64) (cn : Nat → Int32), L.drop i = r → i ≤ L.length → Lo.length ≤ i → YA va mm cn a_end a_endMom p Lo none → YA va mm cn a_end a_endMom xq L z → YF p a_val a_mom a_cnt a_end a_endMom va mm cn a_end a_endMom → QV p t a b RES cx hy f fy qx ox oy q z Lo r → wY_quiet_2 post b (r.length + 1) (nI i) f_stages f_heard f_now f_calls f_parts f_start f_at f_nextX f_nextY f_x f_y a_kind a_opA a_opB a_heardBy a_what a_said a_when a_over a_part a_first a_second a_user a_goStage a_goStep a_done (va) (mm) (cn) a_end a_endMom a_begun a_status a_stageOf a_began a_taken a_demand a_asked a_code a_waits a_waiting a_came a_given a_got := by
  have hcl : f_x.toNatClampNeg = xq := by rw [hfx]; exact nI_clamp (by omega)
  have hin : vp_in f_x 9 := by rw [hfx]; exact vp_in_nI hxq (by decide)
  intro r
  induction r with
  | nil =>
    intro i Lo va mm cn hr hiL hLo hY hx hF hT
    have hT' : RES = evs Lo z := hT
    have hiL2 : L.length ≤ i := List.drop_eq_nil_iff.mp hr
    obtain ⟨b1, b2, b3⟩ := yb_m1 hx.2.2.2.1 hx.2.2.2.2.1 (fun w hw => (hx.2.2.2.2.2 w hw).1)
    refine ⟨hin, br_t (by rw [hcl, hx.1]; exact nI_le hiL2 (by omega)) ⟨hin, ?_⟩⟩
    cases z with
    | none => exact br_t (by rw [hcl]; exact b1.mpr rfl) (K va mm cn a_end a_endMom Lo none hY hT'.symm hF (by omega))
    | some w =>
      obtain ⟨v, m⟩ := w
      obtain ⟨hm1, j, hj, ej⟩ := hx.2.2.2.1 (v, m) rfl
      have hev0 := hx.2.2.2.2.2 (v, m) rfl
      refine br_f (by rw [hcl]; exact fun y => by have := b1.mp y; simp at this) ⟨hin, hin, ?_⟩
      rw [show a_end f_x.toNatClampNeg = v from by rw [hcl]; exact hev0.1, show a_endMom f_x.toNatClampNeg = lN m from by rw [hcl]; exact hev0.2]
      exact yw_stop hp hat hnow ht hm1 hj ej hY (fun _ en em h1 h2 => K va mm cn en em Lo (some (v, m)) h1 hT'.symm (yb_trans hF h2) (by omega)) (fun y => absurd (hz _ rfl) y)
  | cons x r ih =>
    intro i Lo va mm cn hr hiL hLo hY hx hF hT
    have hxi : L[i]? = some x := by rw [← List.head?_drop, hr]; rfl
    have hil := yb_idx hxi
    have hr' : L.drop (i + 1) = r := by rw [← List.drop_drop, hr]; rfl
    have hxmem := List.mem_of_getElem? hxi
    have hxt := hL x hxmem
    have hxm := (hx.2.2.1 i x hxi).2.2
    have hck := yt_cktim (p := p) (m := x.2)
    obtain ⟨b1, b2, b3⟩ := yb_m1 hx.2.2.2.1 hx.2.2.2.2.1 (fun w hw => (hx.2.2.2.2.2 w hw).1)
    have hT1 : RES = ((feed p (ckm p x.2) (evs r z) t).foldl (stp 12 a b) ((tim x.2 + cl b, cx, x.1, hy, f, fy, qx, q, ox, oy), evs Lo none)).2 := by
      have h0 : RES = _ := hT 0
      rw [List.foldl_cons, yq_hear] at h0
      exact h0
    have hdm : tm (tim x.2 + cl b) p < 1000000000000000 := by unfold tm; omega
    have hdt : tim (tm (tim x.2 + cl b) p) = tim x.2 + cl b := tim_tm hp
    -- putting x's value at the due moment, then on
    have putDue : (tim x.2 + cl b ≤ t → QV p t a b RES cx hy f fy qx ox oy q z (Lo ++ [(x.1, tm (tim x.2 + cl b) p)]) r) → (¬ tim x.2 + cl b ≤ t → QV p t a b RES cx hy f fy qx ox oy q z Lo r) → wY_quiet_111 post (wY_quiet_2 post b (r.length + 1)) b (nI i) (lN (tm (tim x.2 + cl b) p)) f_stages f_heard f_now f_calls f_parts f_start f_at f_nextX f_nextY f_x f_y a_kind a_opA a_opB a_heardBy a_what a_said a_when a_over a_part a_first a_second a_user a_goStage a_goStep a_done (va) (mm) (cn) a_end a_endMom a_begun a_status a_stageOf a_began a_taken a_demand a_asked a_code a_waits a_waiting a_came a_given a_got := by
      intro q1 q2
      refine br_t rfl ?_
      rw [hfx]
      refine yw_word (f_x := nI xq) hxq hx hxi ?_
      rw [← hfx]
      refine yw_put hp hat hnow ht hdm hY (by omega) (fun y va2 mm2 cn2 g1 g2 => nm_r (nI_1 i) ?_) (fun y => nm_r (nI_1 i) ?_)
      · rw [hdt] at y
        exact ih (i + 1) _ va2 mm2 cn2 hr' (by omega) (by simp; omega) g1 (g2 xq hpx _ _ hx) (yb_trans hF g2) (q1 y)
      · rw [hdt] at y
        exact ih (i + 1) Lo va mm cn hr' (by omega) (by omega) hY hx hF (q2 y)
    refine ⟨hin, br_f (by rw [hcl, hx.1]; exact nI_ge hil (by omega)) ?_⟩
    rw [hfx]
    refine yw_of (f_x := nI xq) hxq hx hxi ?_
    rw [← hfx]
    refine yt_later hb.2.2 hp hat hxm (by omega) ⟨hin, ?_⟩
    have hcnt : cn f_x.toNatClampNeg = nI L.length := by rw [hcl]; exact hx.1
    cases r with
    | nil =>
      have hlast : i + 1 = L.length := by
        have := List.drop_eq_nil_iff.mp hr'
        omega
      refine br_t (by rw [hcnt, nI_1, hlast]) (br_f (by decide) (br_f (by decide) ⟨hin, ?_⟩))
      cases z with
      | none =>
        have hT2 : RES = ((tms p (ckm p x.2) (t - ckm p x.2)).foldl (stp 12 a b) ((tim x.2 + cl b, cx, x.1, hy, f, fy, qx, q, ox, oy), evs Lo none)).2 := hT1
        rw [yq_tms hp (by omega)] at hT2
        refine br_t (by rw [hcl]; exact b1.mpr rfl) (putDue (fun y => ?_) (fun y => ?_))
        · show RES = _
          rw [hT2, if_pos (by omega)]
        · show RES = _
          rw [hT2, if_neg (by omega)]
      | some w =>
        obtain ⟨v, m⟩ := w
        obtain ⟨hm1, j, hj, ej⟩ := hx.2.2.2.1 (v, m) rfl
        have hev0 := hx.2.2.2.2.2 (v, m) rfl
        have hmt : tim m ≤ t := hz _ rfl
        have hem : a_endMom f_x.toNatClampNeg = lN m := by rw [hcl]; exact hev0.2
        have hev : a_end f_x.toNatClampNeg = v := by rw [hcl]; exact hev0.1
        have hlt := yt_lt (p := p) (m := m) (T := tim x.2 + cl b) hp (by omega) (hfree.2 _ rfl _)
        have hckm := yt_cktim (p := p) (m := m)
        rw [yt_feede, List.foldl_append, yq_tms hp (by omega)] at hT1
        refine br_f (by rw [hcl]; exact fun y => by have := b1.mp y; simp at this) ⟨hin, ?_⟩
        by_cases hle : tm (tim x.2 + cl b) p ≤ m
        · have hdk : tim x.2 + cl b ≤ ckm p m := hlt.mp (Nat.lt_of_le_of_ne hle (fun y => hfree.2 _ rfl _ y.symm))
          refine br_t (by rw [hem]; exact (pk_lLE (by omega) (by omega)).mpr hle) (putDue (fun y => ?_) (fun y => by omega))
          show RES = _
          rw [hT1, if_pos (by omega), List.foldl_cons]
          have hfin : fin (stp 12 a b ((0, cx, x.1, hy, f, fy, qx, q, ox, oy), evs (Lo ++ [(x.1, tm (tim x.2 + cl b) p)]) none) (0, (if v = 0 then 2 else 3), v, m)).2 = true := by rw [yq_end0]; exact yt_finend _ v m
          rw [rn_fold_fin _ _ hfin, yq_end0]
        · have hdk : ¬ tim x.2 + cl b ≤ ckm p m := fun y => hle (Nat.le_of_lt (hlt.mpr y))
          have hE := yq_end1 (a := a) (b := b) (d := tim x.2 + cl b) (cx := cx) (h := x.1) (hy := hy) (f := f) (fy := fy) (qx := qx) (ox := ox) (oy := oy) (q := q) (Lo := Lo) (v := v) (m := m) (by omega)
          have hfin : fin (stp 12 a b ((tim x.2 + cl b, cx, x.1, hy, f, fy, qx, q, ox, oy), evs Lo none) (0, (if v = 0 then 2 else 3), v, m)).2 = true := by
            rw [hE]
            by_cases h0 : v = 0
            · rw [if_pos h0]; exact yt_finend _ v m
            · rw [if_neg h0]; exact yt_finend _ v m
          rw [if_neg (by omega), List.foldl_cons, rn_fold_fin _ _ hfin, hE] at hT1
          refine br_f (by rw [hem]; exact fun y => hle ((pk_lLE (by omega) (by omega)).mp y)) (br_f (by decide) ⟨hin, ?_⟩)
          by_cases h0 : v = 0
          · refine br_t (by rw [hev]; exact h0) ?_
            rw [hfx]
            refine yw_word (f_x := nI xq) hxq hx hxi ⟨by rw [← hfx]; exact hin, ?_⟩
            rw [← hfx, hem]
            refine yw_put hp hat hnow ht hm1 hY (by omega) (fun y va2 mm2 cn2 g1 g2 => nm_r (nI_1 i) ?_) (fun y => absurd hmt y)
            refine ih (i + 1) _ va2 mm2 cn2 hr' (by omega) (by simp; omega) g1 (g2 xq hpx _ _ hx) (yb_trans hF g2) ?_
            show RES = _
            rw [hT1, if_pos h0]
          · refine br_f (by rw [hev]; exact h0) (nm_r (nI_1 i) ?_)
            refine ih (i + 1) Lo va mm cn hr' (by omega) (by omega) hY hx hF ?_
            show RES = _
            rw [hT1, if_neg h0]
    | cons y r2 =>
      have hyi : L[i + 1]? = some y := by rw [← List.head?_drop, hr']; rfl
      have hyl := yb_idx hyi
      have hymem := List.mem_of_getElem? hyi
      have hyt := hL y hymem
      have hym := (hx.2.2.1 (i + 1) y hyi).2.2
      have hlt := yt_lt (p := p) (m := y.2) (T := tim x.2 + cl b) hp (by omega) (hfree.1 y hymem _)
      have hcky := yt_cktim (p := p) (m := y.2)
      rw [yt_feedi, List.foldl_append, yq_tms hp (by omega)] at hT1
      refine br_f (by rw [hcnt, nI_1, nI_eq (by omega) (by omega)]; omega) (br_t rfl ?_)
      rw [hfx, nI_1]
      refine yw_of (f_x := nI xq) hxq hx hyi ?_
      rw [← hfx]
      by_cases hle : tm (tim x.2 + cl b) p ≤ y.2
      · have hdk : tim x.2 + cl b ≤ ckm p y.2 := hlt.mp (Nat.lt_of_le_of_ne hle (fun w => hfree.1 y hymem _ w.symm))
        refine br_t ((pk_lLE (by omega) (by omega)).mpr hle) (br_t rfl (putDue (fun _ h => ?_) (fun w => by omega)))
        rw [hT1, if_pos (by omega), List.foldl_cons, List.foldl_cons, yq_hear, yq_hear]
      · have hdk : ¬ tim x.2 + cl b ≤ ckm p y.2 := fun w => hle (Nat.le_of_lt (hlt.mpr w))
        refine br_f (fun w => hle ((pk_lLE (by omega) (by omega)).mp w)) (nm_e ?_)
        refine ih (i + 1) Lo va mm cn hr' (by omega) (by omega) hY hx hF (fun h => ?_)
        rw [hT1, if_neg (by omega), List.foldl_cons, List.foldl_cons, yq_hear, yq_hear]
end
