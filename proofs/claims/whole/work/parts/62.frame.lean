/-! ===== calls without go: what they leave as it is ===== -/
theorem dy_frame {ns ns2 : Nat} {d : Dt} {v v2 : SY} (hn : ns ≤ ns2) (hk : ∀ σ, σ < ns → y_kind v2 σ = y_kind v σ ∧ y_opA v2 σ = y_opA v σ ∧ y_opB v2 σ = y_opB v σ) (h : DYt ns d v) : DYt ns2 d v2 := by
  obtain ⟨h1, ⟨h2, h3⟩, h4⟩ := h
  refine ⟨Nat.le_trans h1 hn, ⟨h2, fun σ hσ => ?_⟩, h4⟩
  obtain ⟨k1, k2, k3⟩ := hk σ (by omega)
  rw [k1, k2, k3]
  exact h3 σ hσ
theorem sa_mono {id ns ns' : Nat} {z z' : St2} (h : ns' ≤ ns) (hA : SA id ns z z') : SA id ns' z z' := by
  obtain ⟨ti, se, sc, so, sk, sa, sb, sp, ps, pu, px, py, sr⟩ := z
  obtain ⟨ti', se', sc', so', sk', sa', sb', sp', ps', pu', px', py', sr'⟩ := z'
  obtain ⟨h1, h2, h3, h4⟩ := hA
  exact ⟨h1, h2, fun σ hσ => h3 σ (by omega), h4⟩
theorem fo_mono {id ns ns' : Nat} {u u' : SX} (h : ns' ≤ ns) (hf : FO2 id ns u u') : FO2 id ns' u u' := ⟨sa_mono h hf.1, hf.2⟩
theorem d_sgl {ns j : Nat} {d : Dt} {v : SY} {s : Sb} (h : DYt ns d v) : ∀ p, p < e_n (d_E j d s) → e_sg (d_E j d s) p < d_n d := by
  intro p hp
  have hok := tr_ok h.2.1.1 13 0 _ h.2.2.1 h.2.2.2.2
  have hp' : p < d_z d := hp
  exact (hok.1 p (Nat.zero_le _) (by show p < 0 + d_z d; omega)).1
theorem act_fo {ns cc cc' t j : Nat} {LG : List Lg} {d : Dt} {v : SY} {s : Sb} {u u' : SX} (hj : j < 3) (hD : DYt ns d v) (hf : FO2 j ns u u') (hc : cc ≤ cc') (h : ACT cc t LG j d s u) : ACT cc' t LG j d s u' := by
  obtain ⟨M, F, bg, hM, hA⟩ := h
  have hTR : TR (d_E j d s) := rl_TR hj hD
  have h2 := sb_ar (E := eU (d_E j d s) t M (fun _ => t) (fun _ => LG) LG) (ns := d_n d) hTR (d_sgl (s := s) (j := j) hD) hA (fo_mono hD.1 hf)
  refine ⟨M, F, bg, ?_, h2.1, h2.2.1, fun q hq hb y => Nat.le_trans (h2.2.2.1 q hq hb y) hc, h2.2.2.2⟩
  have := cq_le (t := t) (t' := t) (c := cc' + 1) (c' := cc + 1) (Nat.le_refl _) (by omega)
  have e : mo t 1 (cc + 1) ≤ mo t 1 (cc' + 1) := by
    unfold mo
    omega
  omega
theorem rj_frame {ns ns2 cc t j : Nat} {LG : List Lg} {u u' : SX} {v v2 : SY} {s : Sb} (hj : j < 3) (hn : ns ≤ ns2) (h : RJ ns cc t LG j u v s) (hf : FO2 j ns u u') (hq : x_subRequests u' j = x_subRequests u j) (hW : RepW v j s → RepW v2 j s) (ha : y_asked v2 j = y_asked v j) (hk : ∀ σ, σ < ns → y_kind v2 σ = y_kind v σ ∧ y_opA v2 σ = y_opA v σ ∧ y_opB v2 σ = y_opB v σ) (hv : y_taken v2 j = y_taken v j ∧ y_stageOf v2 j = y_stageOf v j ∧ y_began v2 j = y_began v j) : RJ ns2 cc t LG j u' v2 s := by
  obtain ⟨h1, h2, h3, h4, h5⟩ := h
  refine ⟨hf.2.2.1 _ h1, hW h2, by rw [hq, ha]; exact h3, by rw [ha]; exact h4, fun h0 => ?_⟩
  obtain ⟨d, a1, a2, a3, ⟨L0, z0, b1, b2, b3, b4⟩, a5, a6⟩ := h5 h0
  exact ⟨d, dy_frame hn hk a1, a2, act_fo hj a1 hf (Nat.le_refl _) a3, ⟨L0, z0, b1, b2, b3, hv.1.trans b4⟩, hv.2.1.trans a5, hv.2.2.trans a6⟩
theorem ar_own {j n h0 h1 t M B0 cc : Nat} {K A B sg us : Nat → Nat} {oa ob : Nat → Int32} {c cf : Nat → Nat} {lg lf : Nat → List Lg} {L LG : List Lg} {s0 s1 : Sb} {u u' : SX} {H : Nat → List Ev} {F : Nat → Nat} {bg : Nat → Bool} (h : AR (eU (mkE j n 0 0 h0 K A B sg us oa ob c lg L s0) t M cf lf LG) B0 cc u H F bg) (hX : XS (eU (mkE j n 0 0 h0 K A B sg us oa ob c lg L s0) t M cf lf LG) (x_st2 u')) (hph : x_phase u' = x_phase u ∧ x_beganAfter u' = x_beganAfter u) (hse : x_sent u' = x_sent u) (hrp : ∀ i S, RepP u i S → RepP u' i S) (hS' : RepS u' []) (hh : h1 ≤ (H (n - 1)).length) (hr : RepU u' j (((H (n - 1)).drop h1).foldl evf s1)) : AR (eU (mkE j n 0 0 h1 K A B sg us oa ob c lg L s1) t M cf lf LG) B0 cc u' H F bg := by
  obtain ⟨⟨⟨i1, i2, i3, i4, i5, i6, i7, i8, i9, i10⟩, hC, hS, hD, hC2, hroot, hCW⟩, hB, hmv, hpz⟩ := h
  rw [← hph.1] at i2 hpz
  rw [← hph.2] at i9
  rw [← hse] at i10
  refine ⟨⟨⟨hX, i2, i3, i4, ⟨hh, hr⟩, i6, i7, i8, i9, i10⟩, fun q hq => ?_, hS', hD, hC2, hroot, hCW⟩, hB, hmv, hpz⟩
  have hc := hC q hq
  exact ⟨fun hb => ⟨(hc.1 hb).1, fun hf => ⟨hrp _ _ ((hc.1 hb).2 hf).1, ((hc.1 hb).2 hf).2⟩⟩, fun hb => hrp _ _ (hc.2 hb)⟩
/-- the subscription's own state is set anew, its parts are as they were -/
theorem rj_sub {ns cc t j : Nat} {LG : List Lg} {u u' : SX} {v v2 : SY} {s s1 : Sb} (hj : j < 3) (h : RJ ns cc t LG j u v s) (h0 : s.1 = 0) (hA : SA j ns (x_st2 u) (x_st2 u')) (hph : x_ph u' = x_ph u) (hpa : x_pa u' = x_pa u) (hS : RepS u' []) (hU : RepU u' j s1) (hW : RepW v2 j s1) (hq : x_subRequests u' j = y_asked v2 j) (ha : ∃ r, r ≤ 32 ∧ y_asked v2 j = nI r) (hyt : y_tab v2 = y_tab v) (hv : y_taken v2 j = y_taken v j ∧ y_stageOf v2 j = y_stageOf v j ∧ y_began v2 j = y_began v j) (hz : ∀ z0, ENZ z0 s → ENZ z0 s1) : RJ ns cc t LG j u' v2 s1 := by
  obtain ⟨h1, h2, h3, h4, h5⟩ := h
  refine ⟨hU, hW, hq, ha, fun hs1 => ?_⟩
  obtain ⟨d, a1, a2, ⟨M, F, bg, hM, hA0⟩, ⟨L0, z0, b1, b2, b3, b4⟩, a5, a6⟩ := h5 h0
  obtain ⟨t1, t2, t3, t4⟩ := yt_eq hyt
  have hph2 : x_phase u' = x_phase u ∧ x_beganAfter u' = x_beganAfter u := by
    unfold x_ph at hph
    simp only [Prod.mk.injEq] at hph
    exact hph
  have hrp : ∀ i S, RepP u i S → RepP u' i S := by
    intro i S hS
    unfold x_pa at hpa
    simp only [Prod.mk.injEq] at hpa
    obtain ⟨p1, p2, p3, p4, p5, p6, p7, p8, p9, p10⟩ := hpa
    unfold RepP at hS ⊢
    rw [p1, p2, p3, p4, p5, p6, p7, p8, p9, p10]
    exact hS
  refine ⟨d, dy_frame (Nat.le_refl _) (fun σ _ => ⟨by rw [t2], by rw [t3], by rw [t4]⟩) a1, a2, ⟨M, F, bg, hM, ?_⟩, ⟨L0, z0, b1, b2, hz z0 b3, hv.1.trans b4⟩, hv.2.1.trans a5, hv.2.2.trans a6⟩
  have hTR : TR (d_E j d s) := rl_TR hj a1
  refine ar_own hA0 (sb_xs (E := eU (d_E j d s) t M (fun _ => t) (fun _ => LG) LG) (ns := d_n d) hTR (d_sgl (s := s) (j := j) a1) hA0.1.1.1 (sa_mono a1.1 hA)) hph2 (sb_sent hA) hrp hS (Nat.le_refl _) ?_
  show RepU u' j (((d_R d).drop (d_R d).length).foldl evf s1)
  rw [List.drop_length]
  exact hU
theorem rl_frame {k : Nat} {u : SX} {v v2 : SY} (h1 : y_sub v2 = y_sub v) (h2 : y_tab v2 = y_tab v) (h3 : y_log v2 = y_log v) (h4 : y_heard v2 = y_heard v) (h5 : y_calls v2 = y_calls v) (h6 : y_over v2 = y_over v) (h7 : y_now v2 = y_now v) (I : i_Rel k u v) : i_Rel k u v2 := by
  obtain ⟨ns, K, A, B, oa, ob, cc, t, LG, S, hck, hX, hY, hC, hSE, hJ⟩ := I
  obtain ⟨s1, s2, s3, s4, s5, s6, s7, s8, s9, s10, s11, s12⟩ := ys_eq h1
  obtain ⟨t1, t2, t3, t4⟩ := yt_eq h2
  obtain ⟨l1, l2, l3, l4⟩ := yl_eq h3
  refine ⟨ns, K, A, B, oa, ob, cc, t, LG, S, hck, hX, ⟨by rw [t2, t3, t4]; exact hY.1, t1.trans hY.2.1, h7.trans hY.2.2.1, h4.trans hY.2.2.2.1, by rw [l1, l2, l3, l4]; exact hY.2.2.2.2.1, h5.trans hY.2.2.2.2.2⟩, hC, fun s hs => by rw [h6]; exact hSE s hs, fun j hj => ?_⟩
  obtain ⟨j1, j2, j3, j4, j5⟩ := hJ j hj
  refine ⟨j1, ys_rw h1 j2, by rw [s10]; exact j3, by rw [s10]; exact j4, fun h0 => ?_⟩
  obtain ⟨d, a1, a2, a3, ⟨L0, z0, b1, b2, b3, b4⟩, a5, a6⟩ := j5 h0
  exact ⟨d, dy_frame (Nat.le_refl _) (fun σ _ => ⟨by rw [t2], by rw [t3], by rw [t4]⟩) a1, a2, a3, ⟨L0, z0, b1, b2, b3, by rw [s9]; exact b4⟩, by rw [s11]; exact a5, by rw [s12]; exact a6⟩
