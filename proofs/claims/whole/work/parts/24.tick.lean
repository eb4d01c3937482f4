/-! ===== ticks: a timer, a call; what holds between them ===== -/
def CW (E : EnvP) : Prop := ∀ q, q < e_n E → tm (e_c E q) q ≤ e_M E ∧ e_M E < tm (e_c E q + 1) q
def RST (E : EnvP) (u : SX) (H : Nat → List Ev) (F : Nat → Nat) (bg : Nat → Bool) : Prop :=
  IV E u H F bg ∧ (∀ q, q < e_n E → CL E u H F bg q) ∧ RepS u [] ∧ (∀ q, q < e_n E → bg q = true → DN E F bg q) ∧ (∀ q, q < e_n E → 19 ≤ e_kd E q → C2 E H F bg q) ∧ bg (e_n E - 1) = true ∧ CW E
/-- E at another moment: M, clocks, logs -/
def eM (E : EnvP) (M : Nat) (c : Nat → Nat) (lg : Nat → List Lg) : EnvP := (M, c, lg, e_t E, e_LG E, e_id E, e_n E, e_h0 E, e_kd E, e_us E, e_xc E, e_yc E, e_lo E, e_sg E, e_oa E, e_ob E, e_s0 E)
theorem tk_ckm {r q t : Nat} (h : q < r) (hr : r < 9) (ht : 1 ≤ t) : ckm r (tm t q) = t - 1 := by
  have e := tim_tm (t := t) (show q < 9 by omega)
  unfold ckm
  rw [e, if_pos (by unfold tm; omega)]
theorem tk_fi0 {k : Nat} {a b : Int32} {t : Nat} {S : PSt} (hk : k ≤ 20) (h : ¬ tmd1 k = true) : fi k a b t S = (S, []) := by
  obtain ⟨d, c, hh, hy, f, fy, qx, q, ox, oy⟩ := S
  simp only [tmd1, tmd, Bool.or_eq_true, beq_iff_eq] at h
  rcases rn_k hk with e | e | e | e | e | e | e | e | e | e | e | e | e | e | e | e | e | e | e | e | e <;> (first | omega | (subst e; rfl))
theorem tk_ckle {p m M c : Nat} (hp : p < 9) (h : m ≤ M) (hM : M < tm (c + 1) p) : ckm p m ≤ c := by
  unfold ckm
  unfold tm at hM ⊢
  have h1 : tim m * 2199023255552 ≤ m := by unfold tim; omega
  have h2 : m < (tim m + 1) * 2199023255552 := by unfold tim; omega
  by_cases hh : m < tim m * 2199023255552 + p * 256
  · rw [if_pos hh]
    rcases Nat.lt_or_ge c (tim m - 1) with z | z
    · exfalso
      have : (c + 2) * 2199023255552 ≤ tim m * 2199023255552 := Nat.mul_le_mul_right _ (by omega)
      omega
    · exact z
  · rw [if_neg hh]
    rcases Nat.lt_or_ge c (tim m) with z | z
    · exfalso
      have : (c + 1) * 2199023255552 ≤ tim m * 2199023255552 := Nat.mul_le_mul_right _ (by omega)
      omega
    · exact z
theorem tk_iv {E : EnvP} {u : SX} {H : Nat → List Ev} {F : Nat → Nat} {bg : Nat → Bool} {M : Nat} {c : Nat → Nat} {lg : Nat → List Lg} (h : IV E u H F bg) (hM : e_M E ≤ M) : IV (eM E M c lg) u H F bg := by
  obtain ⟨i1, i2, i3, i4, i5, i6, i7, i8, i9, i10⟩ := h
  exact ⟨i1, i2, fun q hq e he => Nat.le_trans (i3 q hq e he) hM, fun q hq hb => Nat.le_trans (i4 q hq hb) hM, i5, i6, i7, i8, i9, i10⟩
/-- a stretch of the cascade that began at part q, seen from rest to rest -/
theorem tk_list {E : EnvP} {post : SX → Prop} {u u1 : SX} {H : Nat → List Ev} {F : Nat → Nat} {bg : Nat → Bool} {q M : Nat} {c : Nat → Nat} {lg : Nat → List Lg} {S' : PSt} {o : Otp} (hT : TR E) (hR : RST E u H F bg) (hq : q < e_n E) (hbq : bg q = true) (hfq : fin (H q) = false)
    (hM : tim M = e_t E) (ht : e_t E ≤ 200) (hMM : e_M E < M) (hLG : (∀ r, r < e_n E → ∀ g ∈ lg r, hrs M g.2.2.2 = false) ∧ ∀ g ∈ e_LG E, hrs M g.2.2.2 = false) (hck : ∀ r, q < r → r < e_n E → ckm r M = c r) (hcw : CW (eM E M c lg))
    (hoth : ∀ r, r < e_n E → r ≠ q → Rn (eM E M c lg) H F r = Rn E H F r) (hrn : Rn (eM E M c lg) H F q = (S', H q ++ ems M o)) (ho : wfo o) (hol : o.length ≤ 9) (hok : (∀ x ∈ o, x.1 = 1) → okS (e_kd E q) (e_ob E q) S') (hfl : 16 ≤ e_kd E q → e_kd E q < 19 → S' = (Rn E H F q).1)
    (e1 : x_st2 u1 = x_st2 u) (e2 : x_sub u1 = x_sub u) (e3' : x_phase u1 = x_phase u) (e4 : x_beganAfter u1 = x_beganAfter u) (hS' : RepP u1 (ab E q) S') (hfr : ∀ j, j ≠ ab E q → ∀ S, RepP u j S → RepP u1 j S) (hst : RepS u1 (ots (ab E q) o ++ []))
    (K : ∀ u' H' F' bg', RST (eM E M c lg) u' H' F' bg' → FR E 0 u u' → (∀ r, r < e_n E → bg r = true → bg' r = true ∧ F' r = F r) → (∀ r, r < e_n E → bg' r = true → bg r = true ∨ F' r = M) → post u') : Wr post (e_id E) 0 u1 := by
  obtain ⟨hI, hC, hS, hD, hC2, hroot, hCW⟩ := hR
  have hT' : TR (eM E M c lg) := hT
  have hT0 := hT
  obtain ⟨t1, t2, t3, t4, t5, t6, t7, t8, t9, t10, t11⟩ := hT
  have hI1 : IV (eM E M c lg) u1 H F bg := by
    have h := tk_iv (M := M) (c := c) (lg := lg) hI (by omega)
    obtain ⟨i1, i2, i3, i4, i5, i6, i7, i8, i9, i10⟩ := h
    exact ⟨by rw [e1]; exact i1, fun r hr => by rw [e3']; exact i2 r hr, i3, i4, ⟨i5.1, ca_sub e2 _ _ i5.2⟩, i6, i7, i8, fun r hr hb => by rw [e4]; exact i9 r hr hb, by rw [ca_sent e1]; exact i10⟩
  have hC1 : ∀ r, r < e_n E → r ≠ q → CL (eM E M c lg) u1 H F bg r := by
    intro r hr hrq
    have h := hC r hr
    refine ⟨fun hb => ?_, fun hb => hfr _ (ca_ab hrq) _ (h.2 hb)⟩
    rw [hoth r hr hrq]
    have h1 := h.1 hb
    exact ⟨h1.1, fun hf => ⟨hfr _ (ca_ab hrq) _ (h1.2 hf).1, (h1.2 hf).2⟩⟩
  have hXB : XB (eM E M c lg) H q := by
    intro z hz h16 h19 hl hx e he
    have hz' : z < e_n E := hz
    have h16' : 16 ≤ e_kd E z := h16
    have h8 := t8 z hz h16
    have h6 := t6 z hz (by omega)
    have := hI.2.2.1 (e_yc E z) (by omega) e he
    show e.2.2 < M
    omega
  have h9 : e3 (9 - q) ≤ e3 9 := e3_mono (by omega)
  have h99 : e3 9 = 9841 := by decide
  have hmul : o.length * e3 (9 - q) ≤ 9 * e3 (9 - q) := Nat.mul_le_mul_right _ hol
  refine ca_list (E := eM E M c lg) hT' (cz_evt hT' hM ht hLG hq) o 0 [] u1 H F bg hq hI1 (fun r h1 h2 => hC1 r h2 (by omega)) hXB (fun r h1 h2 => hck r (by omega) h2) hbq (fun _ => hfq) ho hst (by simp; omega) (by omega) ?_
  intro x' u' H' F' bg' k1 k2 k3 k4 k5 k6 k7 k8
  have hmq := k6.2.2.1 q hq hbq
  refine sw_end (by omega) k5 (K u' H' F' bg' ⟨k2, fun r hr => ?_, k5, fun r hr hb => ?_, fun r hr hk => k6.2.2.2.2.1 r hr hk (hC2 r hr hk), ?_, hcw⟩ ?_ k6.2.2.1 (fun r hr hb => ?_))
  · rcases Nat.lt_or_ge q r with z | z
    · exact k3 r z hr
    · by_cases hrq : r = q
      · subst hrq
        have e : Rn (eM E M c lg) H' F' r = Rn (eM E M c lg) H F r := ca_Rn hmq.2 (fun h3 => (k6.2.1 _ (by have := t6 r hr h3; exact this.1)).1) (fun h16 => (k6.2.1 _ (by have := t8 r hr h16; show e_yc E r < r; omega)).1)
        refine ⟨fun _ => ?_, fun hb => by rw [hmq.1] at hb; exact absurd hb (by decide)⟩
        rw [e, hrn]
        refine ⟨k8.symm, fun hf => ?_⟩
        rw [k8, rn_fin_app, Bool.or_eq_false_iff] at hf
        refine ⟨k7 _ hS', hok (ro_all_fin hf.2), fun h16 h19 => ?_⟩
        have hcf := ((hC r hr).1 hbq).2 hfq
        have hff := hcf.2.2 h16 h19
        have h6 := t6 r hr (show 3 ≤ e_kd E r from by have : 16 ≤ e_kd E r := h16; omega)
        have h8 := t8 r hr h16
        have hx1 := (k6.2.1 (e_xc E r) h6.1).1
        have hy1 := (k6.2.1 (e_yc E r) (by omega)).1
        show S'.2.2.2.2.2.2.2.2.1 = fin (H' (e_xc E r)) ∧ S'.2.2.2.2.2.2.2.2.2 = fin (H' (e_yc E r))
        rw [hfl h16 h19, hx1, hy1]
        exact hff
      · have hq' := k6.2.1 r (by omega)
        exact ca_cl (hC1 r hr hrq) hq'.1 hq'.2.1 hq'.2.2 (fun h3 => (k6.2.1 _ (by have := t6 r hr h3; show e_xc E r < q; omega)).1) (fun h16 => (k6.2.1 _ (by have := t8 r hr h16; show e_yc E r < q; omega)).1) (fun S h => k6.1.2.1 _ (Or.inl (by unfold ab; show 9 * e_id E + r < 9 * e_id E + q; omega)) S h)
  · rcases k6.2.2.2.1 r hr hb with z | z
    · exact pg_dn hT0 hr k6.2.2.1 z (hD r hr z)
    · exact z.2
  · exact (k6.2.2.1 _ (by show e_n E - 1 < e_n E; omega) hroot).1
  · refine ⟨k6.1.1.trans e1, fun j hj S hS => ?_, fun j hj => ?_, fun j hj s hs => k6.1.2.2.2 j hj s (ca_sub e2 j s hs)⟩
    · have hj' : j < ab E q ∨ 9 * e_id E + e_n E ≤ j := by unfold ab at hj ⊢; omega
      exact k6.1.2.1 j hj' S (hfr j (by unfold ab at hj ⊢; omega) S hS)
    · have := k6.1.2.2.1 j hj
      rw [this.1, this.2, e3', e4]
      exact ⟨rfl, rfl⟩
  · rcases k6.2.2.2.1 r hr hb with z | z
    · exact Or.inl z
    · exact Or.inr z.1
