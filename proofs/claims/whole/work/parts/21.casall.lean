/-! ===== the cascade, whole ===== -/
theorem cz_all {E : EnvP} {post : SX → Prop} (hT : TR E) (hM : tim (e_M E) = e_t E) (ht : e_t E ≤ 200) (hLG : (∀ q, q < e_n E → ∀ g ∈ e_lg E q, hrs (e_M E) g.2.2.2 = false) ∧ ∀ g ∈ e_LG E, hrs (e_M E) g.2.2.2 = false) :
    ∀ m, (∀ p, p < e_n E → 20 * (9 - p) ≤ m → EVT E post p) ∧ (∀ z, z < e_n E → 20 * (9 - e_lo E z) + 1 + (z - e_lo E z) ≤ m → BEG E post z) := by
  have hT0 := hT
  obtain ⟨t1, t2, t3, t4, t5, t6, t7, t8, t9, t10, t11⟩ := hT
  intro m
  induction m with
  | zero =>
    refine ⟨fun p hp h => ?_, fun z hz h => ?_⟩
    · omega
    · omega
  | succ m ih =>
    refine ⟨fun p hp h => ?_, fun z hz h => ?_⟩
    · by_cases hr : p + 1 = e_n E
      · exact cw_root hT0 hM hr
      · have h9 := t9 p (by omega)
        refine cw_evt hT0 hM ht (by omega) (ih.1 _ h9.2.1 (by omega)) (fun z hz hl => ih.2 z hz ?_)
        have := t4 z hz
        omega
    · have hlz := t4 z hz
      refine cb_beg hT0 hM ht hLG (fun hk => ?_) (fun h3 => ?_) (fun h16 h19 => ?_)
      · have := t5 z hz (by omega)
        exact ih.1 z hz (by omega)
      · have h6 := t6 z hz h3
        have h4 := t4 (e_xc E z) (by omega)
        exact ih.2 _ (by omega) (by omega)
      · have h6 := t6 z hz (by omega)
        have h8 := t8 z hz h16
        have h4 := t4 (e_xc E z) (by omega)
        exact ih.2 _ (by omega) (by omega)
theorem cz_evt {E : EnvP} {post : SX → Prop} (hT : TR E) (hM : tim (e_M E) = e_t E) (ht : e_t E ≤ 200) (hLG : (∀ q, q < e_n E → ∀ g ∈ e_lg E q, hrs (e_M E) g.2.2.2 = false) ∧ ∀ g ∈ e_LG E, hrs (e_M E) g.2.2.2 = false) {p : Nat} (hp : p < e_n E) : EVT E post p := (cz_all hT hM ht hLG (20 * (9 - p))).1 p hp (Nat.le_refl _)
theorem cz_beg {E : EnvP} {post : SX → Prop} (hT : TR E) (hM : tim (e_M E) = e_t E) (ht : e_t E ≤ 200) (hLG : (∀ q, q < e_n E → ∀ g ∈ e_lg E q, hrs (e_M E) g.2.2.2 = false) ∧ ∀ g ∈ e_LG E, hrs (e_M E) g.2.2.2 = false) {z : Nat} (hz : z < e_n E) : BEG E post z := (cz_all hT hM ht hLG _).2 z hz (Nat.le_refl _)
