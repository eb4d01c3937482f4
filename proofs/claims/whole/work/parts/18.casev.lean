/-! ===== the cascade: an event goes up ===== -/
theorem cv_mt {k w : Nat} (h : mt k w = true) : w ≠ 1 := by
  intro e; subst e; simp [mt] at h
theorem cv_fin {k : Nat} {L : List Ev} (h : ∃ e ∈ L, mt k e.1 = true) : fin L = true := by
  obtain ⟨e, he, hm⟩ := h
  unfold fin
  rw [List.any_eq_true]
  exact ⟨e, he, by simpa using cv_mt hm⟩
theorem cv_next {E : EnvP} {u : SX} {H : Nat → List Ev} {F : Nat → Nat} {bg : Nat → Bool} {p w : Nat} {v : Int32} (hT : TR E) (hI : IV E u H F bg) (hp : p + 1 < e_n E) (hX : XB E H p) (hK : CK E (p + 1)) (hf : fin (H p) = false) :
    Rn E (fup H p (H p ++ [(w, v, e_M E)])) F (e_us E p) = stp (e_kd E (e_us E p)) (e_oa E (e_us E p)) (e_ob E (e_us E p)) (Rn E H F (e_us E p)) ((if e_xc E (e_us E p) = p then 0 else 1), w, v, e_M E) := by
  obtain ⟨t1, t2, t3, t4, t5, t6, t7, t8, t9, t10, t11⟩ := hT
  obtain ⟨i1, i2, i3, i4, i5, i6, i7, i8, i9, i10⟩ := hI
  obtain ⟨z1, z2, z3, z4⟩ := t9 p hp
  have hx := t6 _ z2 z3
  by_cases hs : e_xc E (e_us E p) = p
  · rw [if_pos hs]
    have hy : 16 ≤ e_kd E (e_us E p) → e_yc E (e_us E p) ≠ p := fun h16 => by have := t8 _ z2 h16; omega
    unfold Rn
    rw [show RR (e_kd E (e_us E p)) (e_oa E (e_us E p)) (e_ob E (e_us E p)) (e_us E p) (F (e_us E p)) (e_lg E (e_us E p)) (e_c E (e_us E p)) (fup H p (H p ++ [(w, v, e_M E)]) (e_xc E (e_us E p))) (fup H p (H p ++ [(w, v, e_M E)]) (e_yc E (e_us E p))) = RR (e_kd E (e_us E p)) (e_oa E (e_us E p)) (e_ob E (e_us E p)) (e_us E p) (F (e_us E p)) (e_lg E (e_us E p)) (e_c E (e_us E p)) (H (e_xc E (e_us E p)) ++ [(w, v, e_M E)]) (H (e_yc E (e_us E p))) from ca_RR (fun _ => by rw [hs, fu_s]) (fun h16 => fu_n (hy h16))]
    refine rn_x z3 (hK _ (by omega) z2) (fun h16 h19 e he => ?_) (fun h19 => ?_)
    · exact hX _ z2 h16 h19 (by have := t4 _ (show e_xc E (e_us E p) < e_n E by omega); omega) (by omega) e he
    · have h8 := t8 _ z2 (by omega)
      refine i7 _ (by omega) ?_
      rcases Bool.eq_false_or_eq_true (bg (e_yc E (e_us E p))) with z | z
      · have := cv_fin (i6 _ z2 h19 z)
        rw [hs, hf] at this
        exact absurd this (by decide)
      · exact z
  · rw [if_neg hs]
    have h4 : 16 ≤ e_kd E (e_us E p) ∧ e_yc E (e_us E p) = p := by
      rcases z4 with z | z
      · exact absurd z hs
      · exact z
    unfold Rn
    rw [show RR (e_kd E (e_us E p)) (e_oa E (e_us E p)) (e_ob E (e_us E p)) (e_us E p) (F (e_us E p)) (e_lg E (e_us E p)) (e_c E (e_us E p)) (fup H p (H p ++ [(w, v, e_M E)]) (e_xc E (e_us E p))) (fup H p (H p ++ [(w, v, e_M E)]) (e_yc E (e_us E p))) = RR (e_kd E (e_us E p)) (e_oa E (e_us E p)) (e_ob E (e_us E p)) (e_us E p) (F (e_us E p)) (e_lg E (e_us E p)) (e_c E (e_us E p)) (H (e_xc E (e_us E p))) (H (e_yc E (e_us E p)) ++ [(w, v, e_M E)]) from ca_RR (fun _ => fu_n hs) (fun h16 => by rw [h4.2, fu_s])]
    exact rn_y h4.1 (fun _ e he => i3 _ (by omega) e he)
theorem cv_nb {E : EnvP} {bg : Nat → Bool} (hT : TR E) (hu : ∀ q, q + 1 < e_n E → bg q = true → bg (e_us E q) = true) {y : Nat} (hy : y < e_n E) (hb : bg y = false) : ∀ d q, y - q = d → e_lo E y ≤ q → q ≤ y → bg q = false := by
  intro d
  induction d using Nat.strongRecOn with
  | ind d ih =>
    intro q hd hl hq
    obtain ⟨t1, t2, t3, t4, t5, t6, t7, t8, t9, t10, t11⟩ := hT
    by_cases e : q = y
    · rw [e]; exact hb
    · have h1 := t10 y hy q hl (by omega)
      have h2 := t9 q (by omega)
      have h3 := ih (y - e_us E q) (by omega) (e_us E q) rfl (by omega) h1
      rcases Bool.eq_false_or_eq_true (bg q) with z | z
      · have := hu q (by omega) z
        rw [h3] at this
        exact absurd this (by decide)
      · exact z
/-- the parts above p but its user keep their run when p says something -/
theorem cv_cl {E : EnvP} {u u1 : SX} {H : Nat → List Ev} {F : Nat → Nat} {bg : Nat → Bool} {p q w : Nat} {v : Int32} (hT : TR E) (hp : p + 1 < e_n E) (hq : q < e_n E) (hpq : p < q) (hqz : q ≠ e_us E p) (h : CL E u H F bg q) (hr : ∀ S, RepP u (ab E q) S → RepP u1 (ab E q) S) : CL E u1 (fup H p (H p ++ [(w, v, e_M E)])) F bg q := by
  obtain ⟨t1, t2, t3, t4, t5, t6, t7, t8, t9, t10, t11⟩ := hT
  refine ca_cl h (fu_n (by omega)) rfl rfl (fun h3 => fu_n ?_) (fun h16 => fu_n ?_) hr
  · intro e
    have := t6 q hq h3
    rw [e] at this
    exact hqz this.2.1.symm
  · intro e
    have := t8 q hq h16
    rw [e] at this
    exact hqz this.2.1.symm
/-- XB goes up and comes back -/
theorem cv_xbu {E : EnvP} {H : Nat → List Ev} {p w : Nat} {v : Int32} (hT : TR E) (hp : p + 1 < e_n E) (hX : XB E H p) : XB E (fup H p (H p ++ [(w, v, e_M E)])) (e_us E p) := by
  obtain ⟨t1, t2, t3, t4, t5, t6, t7, t8, t9, t10, t11⟩ := hT
  obtain ⟨z1, z2, z3, z4⟩ := t9 p hp
  intro z hz h16 h19 hl hx e he
  have hzx := t6 z hz (by omega)
  have hzy := t8 z hz h16
  have hlo : e_lo E z ≤ e_lo E (e_us E p) := by
    have := t11 (e_xc E z) (by omega) (e_us E p) (by omega) hx
    omega
  have hup := t6 _ z2 z3
  have hl2 := t4 (e_xc E (e_us E p)) (by omega)
  have hpl : e_lo E (e_us E p) ≤ p := by
    rcases z4 with y | y
    · omega
    · have := t8 _ z2 y.1; omega
  rw [fu_n (by omega)] at he
  exact hX z hz h16 h19 (by omega) (by omega) e he
theorem cv_xbd {E : EnvP} {H H' : Nat → List Ev} {p : Nat} (hT : TR E) (hp : p + 1 < e_n E) (hX : XB E H p) (hX' : XB E H' (e_us E p)) (hk : ∀ q, q < e_us E p → q ≠ p → H' q = H q) : XB E H' p := by
  obtain ⟨t1, t2, t3, t4, t5, t6, t7, t8, t9, t10, t11⟩ := hT
  obtain ⟨z1, z2, z3, z4⟩ := t9 p hp
  intro z hz h16 h19 hl hx e he
  have hzx := t6 z hz (by omega)
  have hzy := t8 z hz h16
  by_cases hzu : z = e_us E p
  · subst hzu
    rw [hk _ (by omega) (by omega)] at he
    exact hX _ hz h16 h19 hl hx e he
  · have hne : p ≠ e_xc E z := fun y => hzu (by rw [y]; exact hzx.2.1.symm)
    have h1 := t10 (e_xc E z) (by omega) p (by omega) (by omega)
    exact hX' z hz h16 h19 (by omega) h1 e he
