/-! ===== the cascade: a part begins ===== -/
theorem cb_ini {k p M c : Nat} {a b : Int32} {lg : List Lg} {Hx Hy : List Ev} (h2 : k ≠ 2) (hc : ckm p M = c) (hl : ∀ g ∈ lg, hrs M g.2.2.2 = false) (hx : 3 ≤ k → Hx = []) (hy : 16 ≤ k → Hy = []) : RR k a b p M lg c Hx Hy = (ini k a b (tim M), []) := by
  rw [ca_RR (Hx := []) (Hy := []) hx hy]
  unfold RR
  by_cases h0 : k = 0
  · rw [if_pos h0]
    have : ∀ l : List Lg, (∀ g ∈ l, hrs M g.2.2.2 = false) → src (cl a) p M l = [] := by
      intro l
      induction l with
      | nil => intro _; rfl
      | cons g l ih =>
        intro hl
        unfold src
        rw [if_neg (by rw [hl g (by simp)]; simp)]
        exact ih (fun g' hg' => hl g' (List.mem_cons_of_mem _ hg'))
    rw [this lg hl]
  · rw [if_neg h0, if_neg h2]
    have : inp k p (ckm p M) c [] [] = [] := by
      unfold inp
      rw [hc]
      by_cases h1 : k = 1
      · rw [if_pos h1, Nat.sub_self]; rfl
      · rw [if_neg h1]
        by_cases h3 : k < 3
        · rw [if_pos h3]
        · rw [if_neg h3]
          by_cases h16 : k < 16
          · rw [if_pos h16]
            by_cases ht : tmd k = true
            · rw [if_pos ht]
              show tms p c (c - c) = []
              rw [Nat.sub_self]; rfl
            · rw [if_neg ht]; rfl
          · rw [if_neg h16]
            by_cases h19 : k < 19
            · rw [if_pos h19]; rfl
            · rw [if_neg h19]; rfl
    rw [this]; rfl
theorem cb_nb {LG : List Lg} {M : Nat} (h : ∀ g ∈ LG, hrs M g.2.2.2 = false) : nb LG M = LG.length := by
  unfold nb
  congr 1
  rw [List.filter_eq_self]
  intro g hg
  rw [h g hg]; rfl
theorem cb_pg {E : EnvP} {a z : Nat} {u u1 u' : SX} {H H' : Nat → List Ev} {F F' : Nat → Nat} {bg bg' : Nat → Bool} (hT : TR E) (hz : z < e_n E) (haz : a ≤ z) (hb : bg z = false) (hfr : FR E a u u1) {z0 : Nat} (hz0 : z0 = z ∨ ∀ w, w < e_n E → 16 ≤ e_kd E w → e_kd E w < 19 → w ≠ z → e_yc E w ≠ z0)
    (h : PG E a z0 u1 H (fup F z (e_M E)) (fup bg z true) u' H' F' bg') (hFz : F' z = e_M E) (hd : DN E F' bg' z) : PG E a z u H F bg u' H' F' bg' := by
  have hne : ∀ q, bg q = true → q ≠ z := fun q hq e => by subst e; rw [hb] at hq; exact absurd hq (by decide)
  refine ⟨fr_trans hfr h.1, fun q hq => ?_, fun q hq hbq => ?_, fun q hq hbq => ?_, fun q hq hk hc => h.2.2.2.2.1 q hq hk ?_, fun w hw h16 h19 hbw hyw hyz => ?_⟩
  · have := h.2.1 q hq
    exact ⟨this.1, this.2.1.trans (fu_n (by omega)), this.2.2.trans (fu_n (by omega))⟩
  · have := h.2.2.1 q hq (by rw [fu_n (hne q hbq)]; exact hbq)
    exact ⟨this.1, this.2.trans (fu_n (hne q hbq))⟩
  · by_cases hqz : q = z
    · subst hqz; exact Or.inr ⟨hFz, hd⟩
    · rcases h.2.2.2.1 q hq hbq with y | y
      · rw [fu_n hqz] at y; exact Or.inl y
      · exact Or.inr y
  · intro e he hm
    have := hc e he hm
    rw [fu_n (hne _ this.1), fu_n (hne _ this.1)]
    exact this
  · have hwz := hne w hbw
    refine h.2.2.2.2.2 w hw h16 h19 (by rw [fu_n hwz]; exact hbw) (by rw [fu_n hyz]; exact hyw) ?_
    rcases hz0 with y | y
    · rw [y]; exact hyz
    · exact y w hw h16 h19 hwz
theorem cb_beg {E : EnvP} {post : SX → Prop} {z : Nat} (hT : TR E) (hM : tim (e_M E) = e_t E) (ht : e_t E ≤ 200) (hLG : (∀ q, q < e_n E → ∀ g ∈ e_lg E q, hrs (e_M E) g.2.2.2 = false) ∧ ∀ g ∈ e_LG E, hrs (e_M E) g.2.2.2 = false)
    (hE : e_kd E z = 2 → EVT E post z) (hBx : 3 ≤ e_kd E z → BEG E post (e_xc E z)) (hBy : 16 ≤ e_kd E z → e_kd E z < 19 → BEG E post (e_yc E z)) : BEG E post z := by
  intro x R u H F bg hz hI hC hX hK hnb hus hch hS hl hx K
  have hI0 := hI
  have hT0 := hT
  obtain ⟨i1, i2, i3, i4, i5, i6, i7, i8, i9, i10⟩ := hI
  obtain ⟨t1, t2, t3, t4, t5, t6, t7, t8, t9, t10, t11⟩ := hT
  have hlz := t4 z hz
  have hbz := hnb z hlz (Nat.le_refl _)
  have hHZ := (i1.2 z hz).1
  have hHC := (i1.2 z hz).2.1
  have hop : opk (e_kd E z) (e_oa E z) (e_ob E z) := hHZ.2.2.2.2.2.2.2.2
  have hk20 := hop.1
  have h9 : e3 (10 - z) = 3 * e3 (9 - z) + 1 := by
    rw [show 10 - z = (9 - z) + 1 from by omega]; rfl
  have hlo3 : e3 (10 - z) ≤ e3 (10 - e_lo E z) := e3_mono (by omega)
  have hHx : 3 ≤ e_kd E z → H (e_xc E z) = [] := fun h3 => by
    have := t6 z hz h3
    have h4 := t4 (e_xc E z) (by omega)
    exact i7 _ (by omega) (hnb _ (by omega) (by omega))
  have hHy : 16 ≤ e_kd E z → H (e_yc E z) = [] := fun h16 => by
    have h6 := t6 z hz (by omega)
    have h8 := t8 z hz h16
    have h4 := t4 (e_xc E z) (by omega)
    exact i7 _ (by omega) (hnb _ (by omega) (by omega))
  refine sw_bg (by omega) (by omega) hS hHZ hHC ((hC z hlz hz).2 hbz) (fun u1 he => ?_)
  obtain ⟨f1, f2, f3, f4, f5, f6, f7⟩ := he
  have hfr : FR E (e_lo E z) u u1 := by
    refine ⟨f1, fun j hj S hS => f6 j ?_ S hS, fun j hj => ⟨?_, ?_⟩, fun j hj s hs => ca_sub f2 j s hs⟩
    · unfold ab at hj ⊢; omega
    · rw [f3, pk_un (by unfold ab; omega)]
    · rw [f4, pk_un (by unfold ab; omega)]
  have hI1 : IV E u1 H (fup F z (e_M E)) (fup bg z true) := by
    refine ⟨by rw [f1]; exact i1, fun q hq => ?_, i3, fun q hq hb => ?_, ⟨i5.1, ca_sub f2 _ _ i5.2⟩, fun q hq hk hy => ?_, fun q hq hb => ?_, fun q hq hb => ?_, fun q hq hb => ?_, by rw [ca_sent f1]; exact i10⟩
    · by_cases e : q = z
      · subst e; rw [f3, pk_us, fu_s, i7 q hq hbz]; rfl
      · rw [f3, pk_un (ca_ab e), fu_n e]; exact i2 q hq
    · by_cases e : q = z
      · subst e; rw [fu_s]; exact Nat.le_refl _
      · rw [fu_n e] at hb ⊢; exact i4 q hq hb
    · by_cases e : e_yc E q = z
      · exact hch q hq hk e
      · rw [fu_n e] at hy; exact i6 q hq hk hy
    · by_cases e : q = z
      · subst e; rw [fu_s] at hb; exact absurd hb (by decide)
      · rw [fu_n e] at hb; exact i7 q hq hb
    · by_cases e : e_us E q = z
      · rw [e, fu_s]
      · rw [fu_n e]
        by_cases e2 : q = z
        · subst e2; exact hus hq
        · rw [fu_n e2] at hb; exact i8 q hq hb
    · by_cases e : q = z
      · subst e; rw [f4, pk_us, fu_s, cb_nb hLG.2]; exact i10
      · rw [fu_n e] at hb; rw [f4, pk_un (ca_ab e), fu_n e]; exact i9 q hq hb
  have hCo : ∀ q, e_lo E z ≤ q → q < e_n E → q ≠ z → CL E u1 H (fup F z (e_M E)) (fup bg z true) q := fun q h1 h2 hqz => ca_cl (hC q h1 h2) rfl (fu_n hqz) (fu_n hqz) (fun _ => rfl) (fun _ => rfl) (fun S h => f6 _ (ca_ab hqz) S h)
  have hRz : e_kd E z ≠ 2 → Rn E H (fup F z (e_M E)) z = (ini (e_kd E z) (e_oa E z) (e_ob E z) (e_t E), []) := by
    intro h2
    unfold Rn
    rw [fu_s, cb_ini h2 (hK z hlz hz) (hLG.1 z hz) hHx hHy, hM]
  have hCz : e_kd E z ≠ 2 → CL E u1 H (fup F z (e_M E)) (fup bg z true) z := by
    intro h2
    refine ⟨fun _ => ?_, fun hb => by rw [fu_s] at hb; exact absurd hb (by decide)⟩
    rw [hRz h2]
    refine ⟨(i7 z hz hbz).symm, fun _ => ⟨f5, rn_ok_ini hop ht, fun h16 h19 => ?_⟩⟩
    rw [hHx (by omega), hHy h16]
    exact ⟨rfl, rfl⟩
  have hCa : e_kd E z ≠ 2 → ∀ q, e_lo E z ≤ q → q < e_n E → CL E u1 H (fup F z (e_M E)) (fup bg z true) q := by
    intro h2 q h1 h3
    by_cases e : q = z
    · subst e; exact hCz h2
    · exact hCo q h1 h3 e
  by_cases hk2 : e_kd E z < 2
  · -- SOURCE, INTERVAL
    have hb : begs (e_kd E z) (ab E z) (ab E (e_xc E z)) (ab E (e_yc E z)) (e_oa E z) = [] := by unfold begs; rw [if_pos hk2]
    rw [hb, List.nil_append] at f7
    exact K (x + 1) u1 H _ _ (by omega) hI1 (hCa (by omega)) hX f7 (cb_pg hT0 hz hlz hbz hfr (Or.inl rfl) pg_refl fu_s ⟨fun h => by omega, fun h => by omega⟩) fu_s fu_s
  · by_cases hk : e_kd E z = 2
    · -- JUST
      have hb : begs (e_kd E z) (ab E z) (ab E (e_xc E z)) (ab E (e_yc E z)) (e_oa E z) = ots (ab E z) [(1, e_oa E z), (2, 0)] := by unfold begs; rw [if_neg hk2, if_pos hk]; rfl
      rw [hb] at f7
      have hlo := t5 z hz (by omega)
      rw [hlo] at hx hl
      have hRz2 : Rn E H (fup F z (e_M E)) z = (ini (e_kd E z) (e_oa E z) (e_ob E z) (e_t E), [(1, e_oa E z, e_M E), (2, 0, e_M E)]) := by
        unfold Rn RR
        rw [if_neg (by omega), if_pos hk, fu_s, hM]
      refine ca_list hT0 (hE hk) [(1, e_oa E z), (2, 0)] (x + 1) R u1 H _ _ hz hI1 (fun r h1 h2 => hCo r (by omega) h2 (by omega)) hX (fun q h1 h2 => hK q (by omega) h2) fu_s (fun _ => by rw [i7 z hz hbz]; rfl) (rn_wfo_12 _) f7 (by simp; omega) (by simp; omega) ?_
      intro x' u' H' F' bg' k1 k2 k3 k4 k5 k6 k7 k8
      have hmz := k6.2.2.1 z hz fu_s
      rw [fu_s] at hmz
      simp only [List.length_cons, List.length_nil] at k1
      refine K x' u' H' F' bg' (by rw [hlo]; omega) k2 (fun q h1 h2 => ?_) k4 k5 (cb_pg hT0 hz hlz hbz hfr (z0 := e_n E) (Or.inr (fun w hw h16 _ _ => by have := t8 w hw h16; omega)) (by rw [hlo]; exact k6) hmz.2 ⟨fun h => by omega, fun h => by omega⟩) hmz.1 hmz.2
      by_cases e : q = z
      · subst e
        refine ⟨fun _ => ?_, fun hb => by rw [hmz.1] at hb; exact absurd hb (by decide)⟩
        rw [ca_Rn (H := H) (F := fup F q (e_M E)) (by rw [hmz.2, fu_s]) (fun h => by omega) (fun h => by omega), hRz2]
        have hH' : H' q = [(1, e_oa E q, e_M E), (2, 0, e_M E)] := by rw [k8, i7 q hz hbz]; rfl
        refine ⟨hH'.symm, fun hf => ?_⟩
        rw [hH'] at hf
        exact absurd hf (by simp [fin])
      · exact k3 q (by omega) h2
    · have h3 : 3 ≤ e_kd E z := by omega
      have hx6 := t6 z hz h3
      have hx9 : 3 * e3 (9 - z) + 1 ≤ e3 (9 - e_xc E z) := e3_lt (by omega)
      have hxl := t4 (e_xc E z) (by omega)
      have hXx : XB E H (e_xc E z) := by
        intro z' hz' h16 h19 hl2 hx2 e he
        by_cases hzz : z' = z
        · subst hzz; rw [hHy h16] at he; exact absurd he (by simp)
        · have h6 := t6 z' hz' (by omega)
          have hne : e_xc E z ≠ e_xc E z' := fun y => hzz (by rw [← h6.2.1, ← y]; exact hx6.2.1)
          have h1 := t10 (e_xc E z') (by omega) (e_xc E z) (by omega) (by omega)
          rw [hx6.2.1] at h1
          exact hX z' hz' h16 h19 (by omega) h1 e he
      have hXz : ∀ H', XB E H' (e_xc E z) → XB E H' z := by
        intro H' h z' hz' h16 h19 hl2 hx2 e he
        have h6 := t6 z' hz' (by omega)
        have h11 := t11 (e_xc E z') (by omega) z (by omega) hx2
        exact h z' hz' h16 h19 (by omega) (by omega) e he
      have hnbx : ∀ q, e_lo E (e_xc E z) ≤ q → q ≤ e_xc E z → fup bg z true q = false := fun q h1 h2 => by rw [fu_n (by omega)]; exact hnb q (by omega) (by omega)
      have hchx : ∀ q, q < e_n E → 19 ≤ e_kd E q → e_yc E q = e_xc E z → ∃ e ∈ H (e_xc E q), mt (e_kd E q) e.1 = true := by
        intro q hq hkq hyq
        have h8 := t8 q hq (by omega)
        have hqz : q = z := by rw [← h8.2.1, hyq]; exact hx6.2.1
        subst hqz
        omega
      by_cases hj : 16 ≤ e_kd E z ∧ e_kd E z < 19
      · -- a join: X, then Y
        have hb : begs (e_kd E z) (ab E z) (ab E (e_xc E z)) (ab E (e_yc E z)) (e_oa E z) ++ R = (0, ab E (e_xc E z), 0) :: (0, ab E (e_yc E z), 0) :: R := by unfold begs; rw [if_neg hk2, if_neg hk, if_pos hj]; rfl
        rw [hb] at f7
        have hy8 := t8 z hz hj.1
        have hy9 : 3 * e3 (9 - z) + 1 ≤ e3 (9 - e_yc E z) := e3_lt (by omega)
        refine hBx h3 (x + 1) ((0, ab E (e_yc E z), 0) :: R) u1 H _ _ (by omega) hI1 (fun q h1 h2 => hCa hk q (by omega) h2) hXx (by rw [hx6.2.2]; exact hK) hnbx (fun _ => by rw [hx6.2.1, fu_s]) hchx f7 (by rw [List.length_cons, hx6.2.2]; omega) (by rw [hx6.2.2]; omega) ?_
        intro x2 u2 H2 F2 bg2 k1 k2 k3 k4 k5 k6 k7 k8
        rw [hx6.2.2] at k1 k3 k6
        have hmz := k6.2.2.1 z hz fu_s
        rw [fu_s] at hmz
        have hyb2 : bg2 (e_yc E z) = false := k6.2.2.2.2.2 z hz hj.1 hj.2 fu_s (by rw [fu_n (by omega)]; exact hnb _ (by omega) (by omega)) (by omega)
        obtain ⟨j1, j2, j3, j4, j5, j6, j7, j8, j9, j10⟩ := k2
        refine hBy hj.1 hj.2 x2 R u2 H2 F2 bg2 (by omega) ⟨j1, j2, j3, j4, j5, j6, j7, j8, j9, j10⟩ (fun q h1 h2 => k3 q (by omega) h2) ?_ (fun q h1 h2 => hK q (by omega) h2) (fun q h1 h2 => cv_nb hT0 j8 (by omega) hyb2 _ q rfl h1 h2) (fun _ => by rw [hy8.2.1]; exact hmz.1) (fun q hq hkq hyq => ?_) k5 (by omega) ?_ ?_
        · intro z' hz' h16 h19 hl2 hx2 e he
          have h6 := t6 z' hz' (by omega)
          have hzz : z' ≠ z := by intro y; subst y; omega
          have hne : e_yc E z ≠ e_xc E z' := fun y => hzz (by rw [← h6.2.1, ← y]; exact hy8.2.1)
          have h1 := t10 (e_xc E z') (by omega) (e_yc E z) (by omega) (by omega)
          rw [hy8.2.1] at h1
          have h11 := t11 (e_xc E z') (by omega) z (by omega) h1
          exact k4 z' hz' h16 h19 (by omega) (by omega) e he
        · exfalso
          have h8 := t8 q hq (by omega)
          have hqz : q = z := by rw [← h8.2.1, hyq]; exact hy8.2.1
          subst hqz
          omega
        · rw [hy8.2.2.1, show 10 - (e_xc E z + 1) = 9 - e_xc E z from by omega]
          omega
        · intro x3 u3 H3 F3 bg3 m1 m2 m3 m4 m5 m6 m7 m8
          rw [hy8.2.2.1, show 10 - (e_xc E z + 1) = 9 - e_xc E z from by omega] at m1
          rw [hy8.2.2.1] at m3 m6
          have hmz3 := m6.2.2.1 z hz hmz.1
          have hmx3 := m6.2.2.1 _ (by omega) k7
          have hXz3 : XB E H3 z := by
            intro z' hz' h16 h19 hl2 hx2 e he
            have h6 := t6 z' hz' (by omega)
            have h11 := t11 (e_xc E z') (by omega) z (by omega) hx2
            exact m4 z' hz' h16 h19 (by omega) (by omega) e he
          have hdn : DN E F3 bg3 z := ⟨fun _ => ⟨hmx3.1, by rw [hmx3.2, k8, hmz3.2, hmz.2]⟩, fun _ _ => ⟨m7, by rw [m8, hmz3.2, hmz.2]⟩⟩
          have hpg12 : PG E (e_lo E z) (e_yc E z) u1 H (fup F z (e_M E)) (fup bg z true) u3 H3 F3 bg3 := by
            have k6' : PG E (e_lo E z) (e_yc E z) u1 H (fup F z (e_M E)) (fup bg z true) u2 H2 F2 bg2 := ⟨k6.1, k6.2.1, k6.2.2.1, k6.2.2.2.1, k6.2.2.2.2.1, fun w hw h16 h19 hbw hyw _ => k6.2.2.2.2.2 w hw h16 h19 hbw hyw (fun y => by
              have h8 := t8 w hw h16
              have hwz : w = z := by rw [← h8.2.1, y]; exact hx6.2.1
              subst hwz
              omega)⟩
            exact pg_trans hT0 k6' (pg_mono (by omega) m6)
          refine K x3 u3 H3 F3 bg3 (by omega) m2 (fun q h1 h2 => ?_) hXz3 m5 (cb_pg hT0 hz hlz hbz hfr (z0 := e_yc E z) (Or.inr (fun w hw h16 _ hwz y => hwz (by have h8 := t8 w hw h16; rw [← h8.2.1, y]; exact hy8.2.1))) hpg12 (hmz3.2.trans hmz.2) hdn) hmz3.1 (hmz3.2.trans hmz.2)
          rcases Nat.lt_or_ge (e_xc E z) q with y | y
          · exact m3 q (by omega) h2
          · have hq' := m6.2.1 q (by omega)
            exact ca_cl (k3 q (by omega) h2) hq'.1 hq'.2.1 hq'.2.2 (fun h3 => (m6.2.1 _ (by have := t6 q h2 h3; omega)).1) (fun h16 => (m6.2.1 _ (by have := t8 q h2 h16; omega)).1) (fun S h => m6.1.2.1 _ (Or.inl (by unfold ab; omega)) S h)
      · -- one child, or a chain
        have hb : begs (e_kd E z) (ab E z) (ab E (e_xc E z)) (ab E (e_yc E z)) (e_oa E z) ++ R = (0, ab E (e_xc E z), 0) :: R := by unfold begs; rw [if_neg hk2, if_neg hk, if_neg hj]; rfl
        rw [hb] at f7
        refine hBx h3 (x + 1) R u1 H _ _ (by omega) hI1 (fun q h1 h2 => hCa hk q (by omega) h2) hXx (by rw [hx6.2.2]; exact hK) hnbx (fun _ => by rw [hx6.2.1, fu_s]) hchx f7 (by rw [hx6.2.2]; omega) (by rw [hx6.2.2]; omega) ?_
        intro x2 u2 H2 F2 bg2 k1 k2 k3 k4 k5 k6 k7 k8
        rw [hx6.2.2] at k1 k3 k6
        have hmz := k6.2.2.1 z hz fu_s
        rw [fu_s] at hmz
        refine K x2 u2 H2 F2 bg2 (by omega) k2 k3 (hXz H2 k4) k5 (cb_pg hT0 hz hlz hbz hfr (z0 := e_xc E z) (Or.inr (fun w hw h16 _ hwz y => hwz (by have h8 := t8 w hw h16; rw [← h8.2.1, y]; exact hx6.2.1))) k6 hmz.2 ⟨fun _ => ⟨k7, by rw [k8, hmz.2]⟩, fun h16 h19 => absurd ⟨h16, h19⟩ hj⟩) hmz.1 hmz.2
