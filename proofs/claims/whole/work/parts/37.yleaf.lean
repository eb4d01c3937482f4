/-! ===== the reference: source, interval, just ===== -/
def YL (hb wh sa : Nat → Int32) (wn : Nat → Int64) (LG : List Lg) : Prop := ∀ h g, LG[h]? = some g → hb h = nI g.1 ∧ wh h = nI g.2.1 ∧ sa h = g.2.2.1 ∧ wn h = lN g.2.2.2 ∧ g.1 < 3 ∧ g.2.1 ≤ 2 ∧ g.2.2.2 < 900000000000000 ∧ (g.2.1 = 1 → g.2.2.1 = 0) ∧ (g.2.1 = 2 → ∃ j : Nat, 1 ≤ j ∧ j ≤ 9 ∧ g.2.2.1 = nI j)
section
variable {f_stages : Int32} {f_heard : Int32} {f_now : Int32} {f_calls : Int64} {f_parts : Int32} {f_start : Int64} {f_at : Int32} {f_nextX : Int32} {f_nextY : Int32} {f_x : Int32} {f_y : Int32} {a_kind : (Nat → Int32)} {a_opA : (Nat → Int32)} {a_opB : (Nat → Int32)} {a_heardBy : (Nat → Int32)} {a_what : (Nat → Int32)} {a_said : (Nat → Int32)} {a_when : (Nat → Int64)} {a_over : (Nat → Int32)} {a_part : (Nat → Int32)} {a_first : (Nat → Int32)} {a_second : (Nat → Int32)} {a_user : (Nat → Int32)} {a_goStage : (Nat → Int32)} {a_goStep : (Nat → Int32)} {a_done : (Nat → Int32)} {a_val : (Nat → Int32)} {a_mom : (Nat → Int64)} {a_cnt : (Nat → Int32)} {a_end : (Nat → Int32)} {a_endMom : (Nat → Int64)} {a_begun : (Nat → Int32)} {a_status : (Nat → Int32)} {a_stageOf : (Nat → Int32)} {a_began : (Nat → Int64)} {a_taken : (Nat → Int32)} {a_demand : (Nat → Int64)} {a_asked : (Nat → Int32)} {a_code : (Nat → Int32)} {a_waits : (Nat → Int32)} {a_waiting : (Nat → Int32)} {a_came : (Nat → Int32)} {a_given : (Nat → Int32)} {a_got : (Nat → Int64)}
theorem yl_src {post : SY → Prop} {p t s fr : Nat} {LG : List Lg} {RES : List Ev} (hp : p < 9) (hat : f_at = nI p) (hnow : f_now = nI t) (ht : t ≤ 200) (hs : s < 3) (hfr : fr < 1000000000000000) (hh : f_heard = nI LG.length) (h32 : LG.length ≤ 32) (hLG : YL a_heardBy a_what a_said a_when LG) (htim : ∀ g ∈ LG, tim (g.2.2.2 + p + 1) ≤ t)
    (K : ∀ va mm cn en em L' z', YA va mm cn en em p L' z' → evs L' z' = RES → YF p a_val a_mom a_cnt a_end a_endMom va mm cn en em → L'.length ≤ 32 → post (f_stages, f_heard, f_now, f_calls, f_parts, f_start, f_at, f_nextX, f_nextY, f_x, f_y, a_kind, a_opA, a_opB, a_heardBy, a_what, a_said, a_when, a_over, a_part, a_first, a_second, a_user, a_goStage, a_goStep, a_done, va, mm, cn, en, em, a_begun, a_status, a_stageOf, a_began, a_taken, a_demand, a_asked, a_code, a_waits, a_waiting, a_came, a_given, a_got)) :
    ∀ (r : List Lg) (i : Nat) (Lo : List (Int32 × Nat)) (zo : Option (Int32 × Nat)) (va : Nat → Int32) (mm : Nat → Int64) (cn en : Nat → Int32) (em : Nat → Int64), LG.drop i = r → i ≤ LG.length → Lo.length ≤ i → YA va mm cn en em p Lo zo → YF p a_val a_mom a_cnt a_end a_endMom va mm cn en em → RES = (match zo with | none => evs Lo none ++ src s p fr r | some _ => evs Lo zo) → wY_source_3 post (nI s) (lN fr) (r.length + 1) (nI i) f_stages f_heard f_now f_calls f_parts f_start f_at f_nextX f_nextY f_x f_y a_kind a_opA a_opB a_heardBy a_what a_said a_when a_over a_part a_first a_second a_user a_goStage a_goStep a_done (va) (mm) (cn) (en) (em) a_begun a_status a_stageOf a_began a_taken a_demand a_asked a_code a_waits a_waiting a_came a_given a_got := by
  have hcl : f_at.toNatClampNeg = p := by rw [hat]; exact nI_clamp (by omega)
  have hin : vp_in f_at 9 := by rw [hat]; exact vp_in_nI hp (by decide)
  intro r
  induction r with
  | nil =>
    intro i Lo zo va mm cn en em hr hiL hLo hY hF hT
    have hiL2 : LG.length ≤ i := List.drop_eq_nil_iff.mp hr
    refine br_t (by rw [hh]; exact nI_le hiL2 (by omega)) (K va mm cn en em Lo zo hY ?_ hF (by omega))
    rw [hT]
    cases zo with
    | none => simp [src]
    | some w => rfl
  | cons g r ih =>
    intro i Lo zo va mm cn en em hr hiL hLo hY hF hT
    have hgi : LG[i]? = some g := by rw [← List.head?_drop, hr]; rfl
    have hil : i < LG.length := by
      rcases Nat.lt_or_ge i LG.length with y | y
      · exact y
      · rw [List.getElem?_eq_none y] at hgi; exact absurd hgi (by simp)
    have hr' : LG.drop (i + 1) = r := by rw [← List.drop_drop, hr]; rfl
    obtain ⟨g1, g2, g3, g4, g5, g6, g7, g8, g9⟩ := hLG i g hgi
    have hgt := htim g (List.mem_of_getElem? hgi)
    have hci : (nI i).toNatClampNeg = i := nI_clamp (by omega)
    have hii : vp_in (nI i) 32 := vp_in_nI (by omega) (by decide)
    obtain ⟨b1, b2, b3⟩ := yb_m1 hY.2.2.2.1 hY.2.2.2.2.1 (fun w hw => (hY.2.2.2.2.2 w hw).1)
    refine br_f (by rw [hh]; exact nI_ge hil (by omega)) ⟨hin, ?_⟩
    cases zo with
    | some w => exact br_t (by rw [hcl]; exact b2.mpr (by simp)) (K va mm cn en em Lo (some w) hY hT.symm hF (by omega))
    | none =>
      have hT' : RES = evs Lo none ++ src s p fr (g :: r) := hT
      refine br_f (by rw [hcl]; exact fun y => b2.mp y rfl) ⟨hii, ?_⟩
      by_cases hgs : g.1 = s
      · refine br_t (by rw [hci, g1, hgs]) ?_
        have emo : a_when (nI i).toNatClampNeg + f_at.toInt64 + 1 = lN (g.2.2.2 + p + 1) := by
          rw [hci, g4, hat, nI_l (by omega), lN_add, lN_1]
        have go : ∀ hb : Bool, hb = hrs fr g.2.2.2 → wY_source_91 post (wY_source_3 post (nI s) (lN fr) (r.length + 1)) (nI s) (lN fr) (nI i) (bI hb) f_stages f_heard f_now f_calls f_parts f_start f_at f_nextX f_nextY f_x f_y a_kind a_opA a_opB a_heardBy a_what a_said a_when a_over a_part a_first a_second a_user a_goStage a_goStep a_done (va) (mm) (cn) (en) (em) a_begun a_status a_stageOf a_began a_taken a_demand a_asked a_code a_waits a_waiting a_came a_given a_got := by
          intro hb hbe
          cases hb
          · refine br_t rfl (nm_r (nI_1 i) ?_)
            refine ih (i + 1) Lo none va mm cn en em hr' (by omega) (by omega) hY hF ?_
            rw [hT']
            show _ = evs Lo none ++ src s p fr r
            congr 1
            show (if g.1 = s ∧ hrs fr g.2.2.2 = true then _ else src s p fr r) = _
            rw [if_neg (by rw [← hbe]; simp)]
          · have hcond : g.1 = s ∧ hrs fr g.2.2.2 = true := ⟨hgs, hbe.symm⟩
            have hsrc : src s p fr (g :: r) = (g.2.1 + 1, g.2.2.1, g.2.2.2 + p + 1) :: (if g.2.1 = 0 then src s p fr r else []) := by
              show (if g.1 = s ∧ hrs fr g.2.2.2 = true then _ else src s p fr r) = _
              rw [if_pos hcond]
            rw [hsrc] at hT'
            refine br_f (by decide) ⟨hii, ?_⟩
            by_cases hw0 : g.2.1 = 0
            · refine br_t (by rw [hci, g2, hw0]; rfl) ⟨hii, hii, ?_⟩
              rw [emo, show a_said (nI i).toNatClampNeg = g.2.2.1 from by rw [hci]; exact g3]
              refine yw_put hp hat hnow ht (by omega) hY (by omega) (fun _ va2 mm2 cn2 k1 k2 => nm_r (nI_1 i) ?_) (fun y => absurd hgt y)
              refine ih (i + 1) _ none va2 mm2 cn2 en em hr' (by omega) (by simp; omega) k1 (yb_trans hF k2) ?_
              rw [hT', if_pos hw0, hw0]
              show _ = evs (Lo ++ [(g.2.2.1, g.2.2.2 + p + 1)]) none ++ src s p fr r
              rw [yo_snoc, List.append_assoc]
              rfl
            · refine br_f (by rw [hci, g2]; exact nI_ne0 (by omega) (by omega)) ⟨hii, ?_⟩
              have stopit : ∀ v : Int32, v = g.2.2.1 → (∃ j : Nat, j ≤ 9 ∧ v = nI j) → (if v = 0 then 2 else 3) = g.2.1 + 1 → wY_source_163 post (wY_source_3 post (nI s) (lN fr) (r.length + 1)) (nI s) (lN fr) (nI i) v f_stages f_heard f_now f_calls f_parts f_start f_at f_nextX f_nextY f_x f_y a_kind a_opA a_opB a_heardBy a_what a_said a_when a_over a_part a_first a_second a_user a_goStage a_goStep a_done (va) (mm) (cn) (en) (em) a_begun a_status a_stageOf a_began a_taken a_demand a_asked a_code a_waits a_waiting a_came a_given a_got := by
                intro v hv ⟨j, hj, ej⟩ hk
                refine ⟨hii, ?_⟩
                rw [emo]
                refine yw_stop hp hat hnow ht (by omega) hj ej hY (fun _ en2 em2 k1 k2 => nm_r (nI_1 i) ?_) (fun y => absurd hgt y)
                refine ih (i + 1) Lo (some (v, g.2.2.2 + p + 1)) va mm cn en2 em2 hr' (by omega) (by omega) k1 (yb_trans hF k2) ?_
                rw [hT', if_neg hw0]
                show _ = evs Lo (some (v, g.2.2.2 + p + 1))
                rw [yo_end, hk, hv]
              by_cases hw1 : g.2.1 = 1
              · refine br_t (by rw [hci, g2, hw1]; rfl) (stopit 0 (g8 hw1).symm ⟨0, by omega, rfl⟩ ?_)
                rw [if_pos rfl, hw1]
              · have hw2 : g.2.1 = 2 := by omega
                obtain ⟨j, j1, j2, j3⟩ := g9 hw2
                refine br_f (by rw [hci, g2, show (1 : Int32) = nI 1 from rfl, nI_eq (by omega) (by decide)]; exact hw1) ⟨hii, ?_⟩
                rw [show a_said (nI i).toNatClampNeg = g.2.2.1 from by rw [hci]; exact g3]
                refine stopit _ rfl ⟨j, j2, j3⟩ ?_
                rw [j3, if_neg (nI_ne0 (by omega) (by omega)), hw2]
        -- byCall, number
        show (_ → _) ∧ (_ → _)
        by_cases hbc : fr / 1099511627776 % 2 = 1
        · have h1 : ((lN fr >>> ((40 : Int32).toInt64 &&& 63)) &&& 1) = 1 := (ts_byCall (by omega)).mpr hbc
          refine br_t h1 (br_f (by decide) ⟨hii, ?_⟩)
          rw [show a_when (nI i).toNatClampNeg = lN g.2.2.2 from by rw [hci]; exact g4]
          show (_ → _) ∧ (_ → _)
          rw [ts_number (by omega), ts_number (by omega)]
          have hlt : hrs fr g.2.2.2 = decide (fr / 256 % 4294967296 < g.2.2.2 / 256 % 4294967296) := by unfold hrs; rw [if_pos hbc]
          by_cases hle : g.2.2.2 / 256 % 4294967296 ≤ fr / 256 % 4294967296
          · exact br_t ((pk_lLE (by omega) (by omega)).mpr hle) (go false (by rw [hlt]; exact (decide_eq_false (by omega)).symm))
          · exact br_f (fun y => hle ((pk_lLE (by omega) (by omega)).mp y)) (go true (by rw [hlt]; exact (decide_eq_true (by omega)).symm))
        · have h1 : ¬ ((lN fr >>> ((40 : Int32).toInt64 &&& 63)) &&& 1) = 1 := fun y => hbc ((ts_byCall (by omega)).mp y)
          refine br_f h1 (br_t rfl ⟨hii, ?_⟩)
          rw [show a_when (nI i).toNatClampNeg = lN g.2.2.2 from by rw [hci]; exact g4]
          have hlt : hrs fr g.2.2.2 = decide (fr < g.2.2.2) := by unfold hrs; rw [if_neg hbc]
          by_cases hle : g.2.2.2 ≤ fr
          · exact br_t ((pk_lLE (by omega) (by omega)).mpr hle) (go false (by rw [hlt]; exact (decide_eq_false (by omega)).symm))
          · exact br_f (fun y => hle ((pk_lLE (by omega) (by omega)).mp y)) (go true (by rw [hlt]; exact (decide_eq_true (by omega)).symm))
      · refine br_f (by rw [hci, g1, nI_eq (by omega) (by omega)]; exact hgs) (nm_r (nI_1 i) ?_)
        refine ih (i + 1) Lo none va mm cn en em hr' (by omega) (by omega) hY hF ?_
        rw [hT']
        show _ = evs Lo none ++ src s p fr r
        congr 1
        show (if g.1 = s ∧ hrs fr g.2.2.2 = true then _ else src s p fr r) = _
        rw [if_neg (fun y => hgs y.1)]
theorem yl_source {post : SY → Prop} {p t fr c : Nat} {a b : Int32} {LG : List Lg} {Hx Hy : List Ev} (ho : opk 0 a b) (hp : p < 9) (hat : f_at = nI p) (hnow : f_now = nI t) (ht : t ≤ 200) (hfr : fr < 1000000000000000) (hh : f_heard = nI LG.length) (h32 : LG.length ≤ 32) (hLG : YL a_heardBy a_what a_said a_when LG) (htim : ∀ g ∈ LG, tim (g.2.2.2 + p + 1) ≤ t) (hY : YA a_val a_mom a_cnt a_end a_endMom p [] none)
    (K : ∀ va mm cn en em L' z', YA va mm cn en em p L' z' → evs L' z' = (RR 0 a b p fr LG c Hx Hy).2 → YF p a_val a_mom a_cnt a_end a_endMom va mm cn en em → L'.length ≤ 32 → post (f_stages, f_heard, f_now, f_calls, f_parts, f_start, f_at, f_nextX, f_nextY, f_x, f_y, a_kind, a_opA, a_opB, a_heardBy, a_what, a_said, a_when, a_over, a_part, a_first, a_second, a_user, a_goStage, a_goStep, a_done, va, mm, cn, en, em, a_begun, a_status, a_stageOf, a_began, a_taken, a_demand, a_asked, a_code, a_waits, a_waiting, a_came, a_given, a_got)) :
    wpY_source post (f_stages, f_heard, f_now, f_calls, f_parts, f_start, f_at, f_nextX, f_nextY, f_x, f_y, a_kind, a_opA, a_opB, a_heardBy, a_what, a_said, a_when, a_over, a_part, a_first, a_second, a_user, a_goStage, a_goStep, a_done, a_val, a_mom, a_cnt, a_end, a_endMom, a_begun, a_status, a_stageOf, a_began, a_taken, a_demand, a_asked, a_code, a_waits, a_waiting, a_came, a_given, a_got) a (lN fr) := by
  have h0 := ho.2.1 rfl
  rw [h0.2]
  exact ⟨LG.length + 1, yl_src hp hat hnow ht h0.1 hfr hh h32 hLG htim K LG 0 [] none _ _ _ _ _ rfl (Nat.zero_le _) (Nat.le_refl _) hY yb_refl rfl⟩
end
