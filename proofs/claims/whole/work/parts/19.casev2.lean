/-! ===== the cascade: EVT and BEG, one step each ===== -/
theorem cw_27 {E : EnvP} (hT : TR E) {p : Nat} (hp : p < e_n E) : ab E p < 27 := by
  have h1 := hT.1
  have h3 := hT.2.2.1
  unfold ab; omega
theorem cw_chain {k p fr c : Nat} {a b : Int32} {lg : List Lg} {Hx : List Ev} (hk : 19 ≤ k) (hk20 : k ≤ 20) (hf : fin Hx = false) : fin (RR k a b p fr lg c Hx []).2 = false := by
  have hall : ∀ e ∈ Hx, e.1 = 1 := by
    intro e he
    unfold fin at hf
    rw [List.any_eq_false] at hf
    simpa using hf e he
  have key : ∀ (l : List Ev) (R : RSt), (∀ e ∈ l, e.1 = 1) → fin R.2 = false → fin ((tg 0 l).foldl (stp k a b) R).2 = false := by
    intro l
    induction l with
    | nil => intro R _ h; exact h
    | cons e l ih =>
      intro R hl h
      show fin ((tg 0 l).foldl (stp k a b) (stp k a b R (0, e))).2 = false
      refine ih _ (fun e' he' => hl e' (List.mem_cons_of_mem _ he')) ?_
      rw [rn_stp_go h]
      obtain ⟨⟨d, cc, hh, hy, f, fy, qx, q, ox, oy⟩, O⟩ := R
      have he1 := hl e (by simp)
      obtain ⟨w, v, m⟩ := e
      have he1' : w = 1 := he1
      subst he1'
      have hk' : k = 19 ∨ k = 20 := by omega
      rw [rn_fin_app]
      have h' : fin O = false := h
      rcases hk' with e | e <;> subst e <;> simp [rsp, hear, hi, ems, fin] at h' ⊢ <;> exact h'
  have k0 : ¬ k = 0 := by omega
  have k2 : ¬ k = 2 := by omega
  unfold RR
  rw [if_neg k0, if_neg k2]
  unfold inp
  rw [if_neg (by omega), if_neg (by omega), if_neg (by omega), if_neg (by omega)]
  rw [show tg 1 [] = [] from rfl, List.append_nil]
  exact key Hx _ hall rfl
theorem cw_root {E : EnvP} {post : SX → Prop} {p : Nat} (hT : TR E) (hM : tim (e_M E) = e_t E) (hr : p + 1 = e_n E) : EVT E post p := by
  intro x w v R u H F bg hp hI hC hX hK hb hf hw hw3 hev hS hl hx K
  have hI0 := hI
  obtain ⟨i1, i2, i3, i4, i5, i6, i7, i8, i9, i10⟩ := hI
  have hn : e_n E - 1 = p := by omega
  have hHU := (i1.2 p hp).2.2
  rw [if_pos hr] at hHU
  have h9n := hT.2.2.1
  have h9 : 1 ≤ e3 (9 - p) := e3_lt (a := 0) (by omega)
  refine sw_evr hT.1 (by omega) (cw_27 hT hp) hw hw3 hS (by omega) hHU i1.1 i5.2 (fun u1 he => ?_)
  obtain ⟨f1, f2, f3, f4, f5, f6, f7⟩ := he
  have hH1 : fup H p (H p ++ [(w, v, e_M E)]) p = H p ++ [(w, v, e_M E)] := fu_s
  refine K (x + 1) u1 (fup H p (H p ++ [(w, v, e_M E)])) F bg (by omega) (ca_iv hI0 hp hb hf hw f1 f2 f3 ?_) (fun q h1 h2 => by omega) ?_ f7 ⟨⟨f1, fun j _ S h => f4 j S h, fun j hj => ⟨?_, by rw [f3]⟩, f6⟩, fun q hq => ⟨fu_n (by omega), rfl, rfl⟩, fun q _ h => ⟨h, rfl⟩, fun q _ h => Or.inl h, fun q hq hk hc => ?_, fun _ _ _ _ _ h _ => h⟩ (fun S h => f4 _ S h) hH1
  · rw [hn, hH1]
    rw [hn] at i5
    refine ⟨by rw [List.length_append]; omega, ?_⟩
    rw [cs_drop_snoc i5.1, List.foldl_append]
    show RepU u1 (e_id E) (sst (tim (e_M E)) w v (((H p).drop (e_h0 E)).foldl evf (e_s0 E)))
    rw [hM]
    rw [hn] at f5
    exact f5
  · intro z hz h16 h19 h1 h2 e he
    have := hT.2.2.2.2.2.2.2.1 z hz h16
    have h6 := hT.2.2.2.2.2.1 z hz (by omega)
    rw [fu_n (by omega)] at he
    exact hX z hz h16 h19 h1 h2 e he
  · rw [f2]
    by_cases h1 : w = 1
    · rw [if_pos h1]
    · rw [if_neg h1, pk_un (by have := hT.2.2.1; unfold ab; omega)]
  · intro e he hm
    have h6 := hT.2.2.2.2.2.1 q hq (by omega)
    rw [fu_n (by omega)] at he
    exact hc e he hm
theorem cw_evt {E : EnvP} {post : SX → Prop} {p : Nat} (hT : TR E) (hM : tim (e_M E) = e_t E) (ht : e_t E ≤ 200) (hp1 : p + 1 < e_n E) (hE : EVT E post (e_us E p)) (hB : ∀ z, z < e_n E → p < e_lo E z → BEG E post z) : EVT E post p := by
  intro x w v R u H F bg hp hI hC hX hK hb hf hw hw3 hev hS hl hx K
  have hI0 := hI
  have hT0 := hT
  obtain ⟨i1, i2, i3, i4, i5, i6, i7, i8, i9, i10⟩ := hI
  obtain ⟨t1, t2, t3, t4, t5, t6, t7, t8, t9, t10, t11⟩ := hT
  obtain ⟨z1, z2, z3, z4⟩ := t9 p hp1
  have hnx := cv_next (w := w) (v := v) hT0 hI0 hp1 hX hK hf
  have hxz := t6 _ z2 z3
  have h9 : 3 * e3 (9 - e_us E p) + 1 ≤ e3 (9 - p) := e3_lt (by omega)
  have hHU := (i1.2 p hp).2.2
  rw [if_neg (by omega)] at hHU
  have hbz := i8 p hp1 hb
  have hcz := (hC _ z1 z2).1 hbz
  have hphz := i2 _ z2
  rw [hbz] at hphz
  have hzp : ab E (e_us E p) ≠ ab E p := ca_ab (by omega)
  -- the state behind the popping: sub and frame
  have hsub : ∀ u1, x_sub u1 = x_sub u → e_h0 E ≤ (fup H p (H p ++ [(w, v, e_M E)]) (e_n E - 1)).length ∧ RepU u1 (e_id E) (((fup H p (H p ++ [(w, v, e_M E)]) (e_n E - 1)).drop (e_h0 E)).foldl evf (e_s0 E)) := by
    intro u1 hu1
    rw [fu_n (by omega)]
    exact ⟨i5.1, ca_sub hu1 _ _ i5.2⟩
  have hfr : ∀ u1, x_st2 u1 = x_st2 u → x_sub u1 = x_sub u → x_phase u1 = (if w = 1 then x_phase u else upd (x_phase u) (ab E p) 2) → x_beganAfter u1 = x_beganAfter u → (∀ j, j ≠ ab E (e_us E p) → ∀ S, RepP u j S → RepP u1 j S) → FR E (p + 1) u u1 := by
    intro u1 g1 g2 g3 g4 g5
    refine ⟨g1, fun j hj S hS => g5 j ?_ S hS, fun j hj => ⟨?_, by rw [g4]⟩, fun j hj s hs => ca_sub g2 j s hs⟩
    · unfold ab at hj ⊢; omega
    · rw [g3]
      by_cases h1 : w = 1
      · rw [if_pos h1]
      · rw [if_neg h1, pk_un (by unfold ab; omega)]
  have hC2 : ∀ q, q < e_n E → 19 ≤ e_kd E q → (q = e_us E p → e_xc E q = p → ¬ mt (e_kd E q) w = true) → C2 E H F bg q → C2 E (fup H p (H p ++ [(w, v, e_M E)])) F bg q := by
    intro q hq hk hno hc e he hm
    have h6 := t6 q hq (by omega)
    by_cases hqp : e_xc E q = p
    · have hqu : q = e_us E p := by rw [← hqp]; exact h6.2.1.symm
      rw [hqp, fu_s] at he
      rcases List.mem_append.mp he with y | y
      · have := cv_fin ⟨e, y, hm⟩
        rw [hf] at this
        exact absurd this (by decide)
      · rw [List.mem_singleton] at y
        subst y
        exact absurd hm (hno hqu hqp)
    · rw [fu_n hqp] at he
      exact hc e he hm
  by_cases hfz : fin (H (e_us E p)) = true
  · -- the user has ended
    rw [hfz] at hphz
    refine sw_evn (by omega) (cw_27 hT0 hp) (cw_27 hT0 z2) hw hw3 hS (by omega) hHU hzp (by rw [hphz]; decide) (fun u1 he => ?_)
    obtain ⟨f1, f2, f3, f4, f5, f6⟩ := he
    have hfr1 := hfr u1 f1 f2 f3 f4 (fun j _ S h => f5 j S h)
    have hst : Rn E (fup H p (H p ++ [(w, v, e_M E)])) F (e_us E p) = Rn E H F (e_us E p) := by
      rw [hnx]; exact rn_stp_fin (by rw [hcz.1]; exact hfz)
    refine K (x + 1) u1 (fup H p (H p ++ [(w, v, e_M E)])) F bg (by omega) (ca_iv hI0 hp hb hf hw f1 f3 f4 (hsub u1 f2)) (fun q h1 h2 => ?_) ?_ f6 ⟨fr_mono (by omega) hfr1, fun q hq => ⟨fu_n (by omega), rfl, rfl⟩, fun q _ h => ⟨h, rfl⟩, fun q _ h => Or.inl h, fun q hq hk hc => ?_, fun _ _ _ _ _ h _ => h⟩ (fun S h => f5 _ S h) fu_s
    · by_cases hqz : q = e_us E p
      · subst hqz
        refine ⟨fun _ => ?_, fun hb' => by rw [hbz] at hb'; exact absurd hb' (by decide)⟩
        rw [hst, fu_n (by omega)]
        exact ⟨hcz.1, fun h => by rw [hfz] at h; exact absurd h (by decide)⟩
      · exact cv_cl hT0 hp1 h2 h1 hqz (hC q h1 h2) (fun S h => f5 _ S h)
    · exact cv_xbd hT0 hp1 hX (cv_xbu hT0 hp1 hX) (fun q _ hq => fu_n hq)
    · refine hC2 q hq hk (fun hqu hqp => ?_) hc
      intro hm
      -- a chain that has ended while its X side runs: impossible
      subst hqu
      have hy8 := t8 _ hq (by omega)
      have hyb : bg (e_yc E (e_us E p)) = false := by
        rcases Bool.eq_false_or_eq_true (bg (e_yc E (e_us E p))) with y | y
        · have := cv_fin (i6 _ hq hk y)
          rw [hqp, hf] at this
          exact absurd this (by decide)
        · exact y
      have hy0 := i7 _ (by omega) hyb
      have h1 := hcz.1
      have : fin (Rn E H F (e_us E p)).2 = false := by
        unfold Rn
        rw [hqp, hy0]
        exact cw_chain hk (i1.2 _ z2).1.2.2.2.2.2.2.2.2.1 hf
      rw [h1, hfz] at this
      exact absurd this (by decide)
  · -- the user runs
    have hfz' : fin (H (e_us E p)) = false := by simpa using hfz
    rw [hfz'] at hphz
    have hcz2 := hcz.2 hfz'
    obtain ⟨hRO, hok, hfl⟩ := hcz2
    have hHZ := (i1.2 _ z2).1
    have hHC := (i1.2 _ z2).2.1
    have hop : opk (e_kd E (e_us E p)) (e_oa E (e_us E p)) (e_ob E (e_us E p)) := hHZ.2.2.2.2.2.2.2.2
    have hk20 := hop.1
    have hside : ab E p = if decide (e_xc E (e_us E p) = p) = true then ab E (e_xc E (e_us E p)) else ab E (e_yc E (e_us E p)) := by
      by_cases y : e_xc E (e_us E p) = p
      · rw [decide_eq_true y, if_pos rfl, y]
      · rw [decide_eq_false y, if_neg (by decide)]
        rcases z4 with q | q
        · exact absurd q y
        · rw [q.2]
    have hoth : 16 ≤ e_kd E (e_us E p) → e_kd E (e_us E p) < 19 → (x_phase u (if decide (e_xc E (e_us E p) = p) = true then ab E (e_yc E (e_us E p)) else ab E (e_xc E (e_us E p))) = 2 ↔ (if decide (e_xc E (e_us E p) = p) = true then (Rn E H F (e_us E p)).1.2.2.2.2.2.2.2.2.2 else (Rn E H F (e_us E p)).1.2.2.2.2.2.2.2.2.1) = true) := by
      intro h16 h19
      have hf2 := hfl h16 h19
      have hy8 := t8 _ z2 h16
      have ph2 : ∀ q, q < e_n E → (x_phase u (ab E q) = 2 ↔ fin (H q) = true) := by
        intro q hq
        rw [i2 q hq]
        rcases Bool.eq_false_or_eq_true (bg q) with y | y
        · rw [y]
          rcases Bool.eq_false_or_eq_true (fin (H q)) with y2 | y2 <;> rw [y2] <;> decide
        · rw [y, i7 q hq y]; decide
      by_cases y : e_xc E (e_us E p) = p
      · rw [decide_eq_true y, if_pos rfl, if_pos rfl, hf2.2]; exact ph2 _ (by omega)
      · rw [decide_eq_false y, if_neg (by decide), if_neg (by decide), hf2.1]; exact ph2 _ (by omega)
    refine sw_ev (sd := decide (e_xc E (e_us E p) = p)) (by omega) (cw_27 hT0 hp) (cw_27 hT0 z2) hw hw3 hS (by omega) hHU hHZ hHC z3 hside (fun h16 => ?_) hzp hphz hoth hRO hok (fun u1 he => ?_)
    · rcases z4 with q | q
      · exact decide_eq_true q
      · omega
    obtain ⟨f1, f2, f3, f4, f5, f6, f7⟩ := he
    have hfr1 := hfr u1 f1 f2 f3 f4 f6
    have hI1 := ca_iv (v := v) hI0 hp hb hf hw f1 f3 f4 (hsub u1 f2)
    obtain ⟨g1, g2, g3⟩ := rn_hear (sd := decide (e_xc E (e_us E p) = p)) (v := v) (w := w) hop hok ht z3 hev
    have hsd0 : ((if e_xc E (e_us E p) = p then 0 else 1) == 0) = decide (e_xc E (e_us E p) = p) := by
      by_cases y : e_xc E (e_us E p) = p
      · rw [if_pos y, decide_eq_true y]; rfl
      · rw [if_neg y, decide_eq_false y]; rfl
    have hs2 : ¬ (if e_xc E (e_us E p) = p then 0 else 1) = 2 := by split <;> omega
    have hst : Rn E (fup H p (H p ++ [(w, v, e_M E)])) F (e_us E p) = ((hear (e_kd E (e_us E p)) (e_ob E (e_us E p)) (e_t E) (decide (e_xc E (e_us E p) = p)) w v (Rn E H F (e_us E p)).1).1, H (e_us E p) ++ ems (e_M E) (hear (e_kd E (e_us E p)) (e_ob E (e_us E p)) (e_t E) (decide (e_xc E (e_us E p) = p)) w v (Rn E H F (e_us E p)).1).2) := by
      rw [hnx, rn_stp_go (by rw [hcz.1]; exact hfz'), hcz.1]
      unfold rsp
      rw [if_neg hs2, hsd0, hM]
    have hCo : ∀ q, p < q → q < e_n E → q ≠ e_us E p → CL E u1 (fup H p (H p ++ [(w, v, e_M E)])) F bg q := fun q h1 h2 hqz => cv_cl hT0 hp1 h2 h1 hqz (hC q h1 h2) (fun S h => f6 _ (ca_ab hqz) S h)
    -- the user's own cells, whatever it says
    have hself : ∀ (u' : SX) (H' : Nat → List Ev) (F' : Nat → Nat) (bg' : Nat → Bool), H' (e_us E p) = H (e_us E p) ++ ems (e_M E) (hear (e_kd E (e_us E p)) (e_ob E (e_us E p)) (e_t E) (decide (e_xc E (e_us E p) = p)) w v (Rn E H F (e_us E p)).1).2 → F' (e_us E p) = F (e_us E p) → bg' (e_us E p) = true → H' (e_xc E (e_us E p)) = fup H p (H p ++ [(w, v, e_M E)]) (e_xc E (e_us E p)) → (16 ≤ e_kd E (e_us E p) → e_kd E (e_us E p) < 19 → H' (e_yc E (e_us E p)) = fup H p (H p ++ [(w, v, e_M E)]) (e_yc E (e_us E p))) → Rn E H' F' (e_us E p) = Rn E (fup H p (H p ++ [(w, v, e_M E)])) F (e_us E p) → (∀ S, RepP u1 (ab E (e_us E p)) S → RepP u' (ab E (e_us E p)) S) → CL E u' H' F' bg' (e_us E p) := by
      intro u' H' F' bg' k1 k2 k3 k4 k5 k6 k7
      refine ⟨fun _ => ?_, fun hb' => by rw [k3] at hb'; exact absurd hb' (by decide)⟩
      rw [k6, hst]
      refine ⟨k1.symm, fun hf2 => ?_⟩
      rw [k1, rn_fin_app, Bool.or_eq_false_iff] at hf2
      have hall := ro_all_fin hf2.2
      refine ⟨k7 _ f5, g3 hall, fun h16 h19 => ?_⟩
      have hflg := rn_flags h16 h19 hw hw3 hall
      have hf3 := hfl h16 h19
      have hy8 := t8 _ z2 h16
      rw [k4, k5 h16 h19]
      show (hear _ _ _ _ _ _ _).1.2.2.2.2.2.2.2.2.1 = _ ∧ (hear _ _ _ _ _ _ _).1.2.2.2.2.2.2.2.2.2 = _
      rw [hflg.1, hflg.2, hf3.1, hf3.2]
      by_cases y : e_xc E (e_us E p) = p
      · rw [decide_eq_true y, if_pos rfl, if_pos rfl, y, fu_s, fu_n (by omega), cs_fin_snoc hf, hf]
        exact ⟨rfl, rfl⟩
      · have hyp : e_yc E (e_us E p) = p := by
          rcases z4 with q | q
          · exact absurd q y
          · exact q.2
        rw [decide_eq_false y, if_neg (by decide), if_neg (by decide), hyp, fu_s, fu_n y, cs_fin_snoc hf, hf]
        exact ⟨rfl, rfl⟩
    by_cases hbgn : bgn (e_kd E (e_us E p)) w (decide (e_xc E (e_us E p) = p)) = true
    · -- a chain begins its Y side
      rw [if_pos hbgn] at f7
      have ho := ro_bgn_nil (k := e_kd E (e_us E p)) (b := e_ob E (e_us E p)) (t := e_t E) (v := v) (S := (Rn E H F (e_us E p)).1) hbgn
      rw [ho] at f7
      have hb2 : e_xc E (e_us E p) = p ∧ mt (e_kd E (e_us E p)) w = true := by
        unfold bgn at hbgn
        rw [Bool.and_eq_true, decide_eq_true_eq] at hbgn
        exact hbgn
      have hk19 : 19 ≤ e_kd E (e_us E p) := by
        have := hb2.2
        simp only [mt, Bool.or_eq_true, Bool.and_eq_true, beq_iff_eq] at this
        omega
      have hy8 := t8 _ z2 (by omega)
      have hyb : bg (e_yc E (e_us E p)) = false := by
        rcases Bool.eq_false_or_eq_true (bg (e_yc E (e_us E p))) with y | y
        · have := cv_fin (i6 _ z2 hk19 y)
          rw [hb2.1, hf] at this
          exact absurd this (by decide)
        · exact y
      have hlo : e_lo E (e_yc E (e_us E p)) = p + 1 := by omega
      have hXz := cv_xbu (w := w) (v := v) hT0 hp1 hX
      have h1y : 1 ≤ e3 (9 - e_yc E (e_us E p)) := e3_lt (a := 0) (by omega)
      have hcu : CL E u1 (fup H p (H p ++ [(w, v, e_M E)])) F bg (e_us E p) := hself u1 _ F bg (by rw [fu_n (by omega), ho]; simp [ems]) rfl hbz rfl (fun _ _ => rfl) rfl (fun S h => h)
      have hC1 : ∀ q, p < q → q < e_n E → CL E u1 (fup H p (H p ++ [(w, v, e_M E)])) F bg q := by
        intro q h1 h2
        by_cases hqz : q = e_us E p
        · subst hqz; exact hcu
        · exact hCo q h1 h2 hqz
      refine hB (e_yc E (e_us E p)) (by omega) (by omega) (x + 1) R u1 _ F bg (by omega) hI1 (fun q h1 h2 => hC1 q (by omega) h2) ?_ (by rw [hlo]; exact hK) (fun q h1 h2 => cv_nb hT0 i8 (by omega) hyb _ q rfl h1 h2) (fun _ => by rw [hy8.2.1]; exact hbz) (fun q hq hk hyq => ?_) f7 (by rw [hlo]; omega) (by rw [hlo, show 10 - (p + 1) = 9 - p from by omega]; omega) ?_
      · -- XB for the Y side
        intro z hz h16 h19 hl2 hx2 e he
        have hzx := t6 z hz (by omega)
        have hne : e_yc E (e_us E p) ≠ e_xc E z := by
          intro y
          have := hzx.2.1
          rw [← y, hy8.2.1] at this
          subst this
          omega
        have h1 := t10 (e_xc E z) (by omega) (e_yc E (e_us E p)) (by omega) (by omega)
        rw [hy8.2.1] at h1
        exact hXz z hz h16 h19 (by omega) h1 e he
      · have h6 := t8 q hq (by omega)
        have hqz : q = e_us E p := by rw [← h6.2.1, hyq]; exact hy8.2.1
        subst hqz
        refine ⟨(w, v, e_M E), ?_, hb2.2⟩
        rw [hb2.1, fu_s]
        exact List.mem_append.mpr (Or.inr (by simp))
      · intro x' u' H' F' bg' k1 k2 k3 k4 k5 k6 k7 k8
        rw [hlo] at k1 k6
        rw [hlo] at k3
        rw [show 10 - (p + 1) = 9 - p from by omega] at k1
        have hHp : H' p = H p ++ [(w, v, e_M E)] := (k6.2.1 p (by omega)).1.trans fu_s
        refine K x' u' H' F' bg' (by omega) k2 (fun q h1 h2 => k3 q (by omega) h2) ?_ k5 ⟨fr_mono (by omega) (fr_trans hfr1 k6.1), fun q hq => ⟨(k6.2.1 q (by omega)).1.trans (fu_n (by omega)), (k6.2.1 q (by omega)).2.1, (k6.2.1 q (by omega)).2.2⟩, k6.2.2.1, k6.2.2.2.1, fun q hq hk hc => ?_, fun w hw h16 h19 hbw hyw _ => k6.2.2.2.2.2 w hw h16 h19 hbw hyw (fun y => by have hwu := (t8 w hw h16).2.1; rw [y, hy8.2.1] at hwu; subst hwu; omega)⟩ (fun S h => k6.1.2.1 _ (Or.inl (by unfold ab; omega)) S (f6 _ hzp.symm S h)) hHp
        · -- XB comes back down
          intro z hz h16 h19 hl2 hx2 e he
          have hzx := t6 z hz (by omega)
          have hzu : z ≠ e_us E p := by intro y; subst y; omega
          have hne : p ≠ e_xc E z := fun y => hzu (by rw [y]; exact hzx.2.1.symm)
          have h1 := t10 (e_xc E z) (by omega) p (by omega) (by omega)
          exact k4 z hz h16 h19 (by omega) (by omega) e he
        · by_cases hqz : q = e_us E p
          · subst hqz
            intro e he hm
            rw [hb2.1, hHp] at he
            rcases List.mem_append.mp he with y | y
            · have := cv_fin ⟨e, y, hm⟩
              rw [hf] at this
              exact absurd this (by decide)
            · rw [List.mem_singleton] at y
              subst y
              exact ⟨k7, k8⟩
          · exact k6.2.2.2.2.1 q hq hk (hC2 q hq hk (fun y _ => absurd y hqz) hc)
    · -- it says what it says
      rw [if_neg hbgn, List.nil_append] at f7
      have hXz := cv_xbu (w := w) (v := v) hT0 hp1 hX
      have hmul : (hear (e_kd E (e_us E p)) (e_ob E (e_us E p)) (e_t E) (decide (e_xc E (e_us E p) = p)) w v (Rn E H F (e_us E p)).1).2.length * e3 (9 - e_us E p) ≤ 2 * e3 (9 - e_us E p) := Nat.mul_le_mul_right _ g2
      refine ca_list hT0 hE _ (x + 1) R u1 _ F bg z2 hI1 (fun r h1 h2 => hCo r (by omega) h2 (by omega)) hXz (fun q h1 h2 => hK q (by omega) h2) hbz (fun _ => by rw [fu_n (by omega)]; exact hfz') g1 f7 (by omega) (by omega) ?_
      intro x' u' H' F' bg' k1 k2 k3 k4 k5 k6 k7 k8
      have hHp : H' p = H p ++ [(w, v, e_M E)] := (k6.2.1 p (by omega)).1.trans fu_s
      have hHz : H' (e_us E p) = H (e_us E p) ++ ems (e_M E) (hear (e_kd E (e_us E p)) (e_ob E (e_us E p)) (e_t E) (decide (e_xc E (e_us E p) = p)) w v (Rn E H F (e_us E p)).1).2 := by
        rw [k8, fu_n (by omega)]
      have hmz := k6.2.2.1 _ z2 hbz
      refine K x' u' H' F' bg' (by omega) k2 (fun q h1 h2 => ?_) ?_ k5 ⟨fr_trans (fr_mono (by omega) hfr1) (fr_mono (by omega) k6.1), fun q hq => ⟨(k6.2.1 q (by omega)).1.trans (fu_n (by omega)), (k6.2.1 q (by omega)).2.1, (k6.2.1 q (by omega)).2.2⟩, k6.2.2.1, k6.2.2.2.1, fun q hq hk hc => ?_, k6.2.2.2.2.2⟩ (fun S h => k6.1.2.1 _ (Or.inl (by unfold ab; omega)) S (f6 _ hzp.symm S h)) hHp
      · rcases Nat.lt_or_ge (e_us E p) q with y | y
        · exact k3 q y h2
        · by_cases hqz : q = e_us E p
          · subst hqz
            refine hself u' H' F' bg' hHz hmz.2 hmz.1 (k6.2.1 _ (by omega)).1 (fun h16 _ => (k6.2.1 _ (by have := t8 _ z2 h16; omega)).1) ?_ k7
            exact ca_Rn hmz.2 (fun _ => (k6.2.1 _ (by omega)).1) (fun h16 => (k6.2.1 _ (by have := t8 _ z2 h16; omega)).1)
          · have hq' := k6.2.1 q (by omega)
            exact ca_cl (hCo q h1 h2 hqz) hq'.1 hq'.2.1 hq'.2.2 (fun h3 => (k6.2.1 _ (by have := t6 q h2 h3; omega)).1) (fun h16 => (k6.2.1 _ (by have := t8 q h2 h16; omega)).1) (fun S h => k6.1.2.1 _ (Or.inl (by unfold ab; omega)) S h)
      · exact cv_xbd hT0 hp1 hX k4 (fun q h1 h2 => (k6.2.1 q h1).1.trans (fu_n h2))
      · refine k6.2.2.2.2.1 q hq hk (hC2 q hq hk (fun y1 y2 hm => hbgn ?_) hc)
        subst y1
        unfold bgn
        rw [Bool.and_eq_true, decide_eq_true_eq]
        exact ⟨y2, hm⟩
