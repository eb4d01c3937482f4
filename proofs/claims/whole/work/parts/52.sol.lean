/-! ===== solutions: walking up, moments, cuts, existence ===== -/
theorem rr_congr {k p fr c : Nat} {a b : Int32} {lg : List Lg} {Hx Hy Hx' Hy' : List Ev} (hx : 3 ≤ k → Hx = Hx') (hy : 16 ≤ k → Hy = Hy') : RR k a b p fr lg c Hx Hy = RR k a b p fr lg c Hx' Hy' := by
  rcases Nat.lt_or_ge k 3 with h | h
  · unfold RR
    have e : inp k p (ckm p fr) c Hx Hy = inp k p (ckm p fr) c Hx' Hy' := by
      unfold inp
      by_cases k1 : k = 1
      · rw [if_pos k1, if_pos k1]
      · rw [if_neg k1, if_neg k1, if_pos h, if_pos h]
    rw [e]
  · rw [hx h]
    rcases Nat.lt_or_ge k 16 with h2 | h2
    · unfold RR
      have e : inp k p (ckm p fr) c Hx' Hy = inp k p (ckm p fr) c Hx' Hy' := by
        unfold inp
        rw [if_pos h2, if_pos h2]
      rw [e]
    · rw [hy h2]
theorem so_walk2 {E : EnvP} {B0 : Nat} {H H' : Nat → List Ev} {bf bf' : Nat → Option Nat} {R : Option Nat → Option Nat → Prop} {q : Nat} (hT : TR E) (h : BF E B0 H bf) (h' : BF E B0 H' bf') (hq : q < e_n E) (h0 : R (some B0) (some B0)) (hu : ∀ u, u < e_n E → 19 ≤ e_kd E u → e_xc E u < q → q < u → R (lastm (e_kd E u) (H (e_xc E u))) (lastm (e_kd E u) (H' (e_xc E u)))) : R (bf q) (bf' q) := by
  obtain ⟨t1, t2, t3, t4, t5, t6, t7, t8, t9, t10, t11⟩ := hT
  have main : ∀ d q', e_n E - 1 - q' ≤ d → q' < e_n E → e_lo E q' ≤ q → q ≤ q' → R (bf q') (bf' q') := by
    intro d
    induction d with
    | zero =>
      intro q' hd hq' hl hle
      have : q' = e_n E - 1 := by omega
      subst this
      rw [h.1, h'.1]; exact h0
    | succ d ih =>
      intro q' hd hq' hl hle
      by_cases hr : q' + 1 < e_n E
      · have h9 := t9 q' hr
        by_cases hc : cy E q'
        · rw [h.2.1 q' hr hc, h'.2.1 q' hr hc]
          have h19 : 19 ≤ e_kd E (e_us E q') := hc.1
          have h8 := t8 (e_us E q') h9.2.1 (by omega)
          rw [hc.2] at h8
          exact hu _ h9.2.1 hc.1 (by omega) (by omega)
        · rw [h.2.2 q' hr hc, h'.2.2 q' hr hc]
          refine ih _ (by omega) h9.2.1 ?_ (by omega)
          have h6 := t6 (e_us E q') h9.2.1 h9.2.2.1
          rcases h9.2.2.2 with w | w
          · rw [w] at h6; omega
          · have h8 := t8 (e_us E q') h9.2.1 w.1
            rw [w.2] at h8
            have h4 := t4 (e_xc E (e_us E q')) (by omega)
            omega
      · have : q' = e_n E - 1 := by omega
        subst this
        rw [h.1, h'.1]; exact h0
  exact main _ q (Nat.le_refl _) hq (t4 q hq) (Nat.le_refl _)
theorem so_kids {E : EnvP} {B0 : Nat} {H : Nat → List Ev} {bf : Nat → Option Nat} {q : Nat} (hT : TR E) (h : BF E B0 H bf) (hq : q < e_n E) : (3 ≤ e_kd E q → e_xc E q < q ∧ bf (e_xc E q) = bf q) ∧ (16 ≤ e_kd E q → e_xc E q < e_yc E q ∧ e_yc E q < q ∧ (e_kd E q < 19 → bf (e_yc E q) = bf q) ∧ (19 ≤ e_kd E q → bf (e_yc E q) = lastm (e_kd E q) (H (e_xc E q)))) := by
  obtain ⟨t1, t2, t3, t4, t5, t6, t7, t8, t9, t10, t11⟩ := hT
  refine ⟨fun h3 => ?_, fun h16 => ?_⟩
  · have h6 := t6 q hq h3
    refine ⟨h6.1, ?_⟩
    rw [h.2.2 (e_xc E q) (by omega) ?_, h6.2.1]
    intro hc
    have h19 : 19 ≤ e_kd E q := by have := hc.1; rw [h6.2.1] at this; exact this
    have h8 := t8 q hq (by omega)
    have := hc.2
    rw [h6.2.1] at this
    omega
  · have h8 := t8 q hq h16
    refine ⟨h8.2.2.2, by omega, fun h19 => ?_, fun h19 => ?_⟩
    · rw [h.2.2 (e_yc E q) (by omega) ?_, h8.2.1]
      intro hc
      have := hc.1
      rw [h8.2.1] at this
      omega
    · rw [h.2.1 (e_yc E q) (by omega) ⟨by rw [h8.2.1]; exact h19, by rw [h8.2.1]⟩, h8.2.1]
def MQf (W : List Nat) (t p m : Nat) : Prop := (∃ T r, T ≤ t ∧ r ≤ p ∧ m = tm T r) ∨ (∃ w ∈ W, ∃ r, r ≤ 9 ∧ m = w + r)
def CMs (t : Nat) (W : List Nat) : Prop := (∀ w ∈ W, ∃ t' c', w = mo t' 1 c' ∧ t' ≤ t ∧ c' < 4000000000) ∧ ∀ w ∈ W, ∀ w' ∈ W, w / 256 % 4294967296 < w' / 256 % 4294967296 → w + 256 ≤ w'
theorem mq_mono {W : List Nat} {t p p' m : Nat} (h : p ≤ p') (hm : MQf W t p m) : MQf W t p' m := by
  rcases hm with ⟨T, r, h1, h2, h3⟩ | hw
  · exact Or.inl ⟨T, r, h1, by omega, h3⟩
  · exact Or.inr hw
theorem mq_call {t' c' r : Nat} (hc : c' < 4000000000) (hr : r ≤ 9) : tim (mo t' 1 c' + r) = t' ∧ (mo t' 1 c' + r) / 1099511627776 % 2 = 1 ∧ (mo t' 1 c' + r) / 256 % 4294967296 = c' ∧ mo t' 1 c' / 256 % 4294967296 = c' := by
  refine ⟨tim_mo (by decide) (by omega) (by omega), (ts_num (t := t') (c := c') (b := r) (by omega) (by omega)).1, (ts_num (t := t') (c := c') (b := r) (by omega) (by omega)).2, ?_⟩
  have := (ts_num (t := t') (c := c') (b := 0) (by omega) (by omega)).2
  rw [Nat.add_zero] at this
  exact this
theorem mq_tim {W : List Nat} {t p m : Nat} (hW : CMs t W) (hp : p < 9) (hm : MQf W t p m) : tim m ≤ t := by
  rcases hm with ⟨T, r, h1, h2, h3⟩ | ⟨w, hw, r, hr, h3⟩
  · rw [h3, tim_tm (by omega)]; exact h1
  · obtain ⟨t', c', e, h1, h2⟩ := hW.1 w hw
    rw [h3, e, (mq_call h2 hr).1]; exact h1
theorem mq_big {m t : Nat} (ht : t ≤ 200) (h : tim m ≤ t) : m < 1000000000000000 := by unfold tim at h; omega
theorem mq_bit {T r : Nat} (hr : r < 9) : tm T r / 1099511627776 % 2 = 0 := by unfold tm; omega
theorem mq_ne {W : List Nat} {t p p' m T : Nat} (hW : CMs t W) (hpp : p < p') (hp' : p' < 9) (hm : MQf W t p m) : m ≠ tm T p' := by
  intro he
  rcases hm with ⟨T', r, h1, h2, h3⟩ | ⟨w, hw, r, hr, h3⟩
  · rw [h3] at he
    have e1 : tim (tm T' r) = T' := tim_tm (by omega)
    have e2 : tim (tm T p') = T := tim_tm hp'
    rw [he, e2] at e1
    subst e1
    unfold tm at he
    have := Nat.add_left_cancel he
    omega
  · obtain ⟨t', c', e, h1, h2⟩ := hW.1 w hw
    have h4 := (mq_call (t' := t') h2 hr).2.1
    rw [← e, ← h3, he, mq_bit hp'] at h4
    exact absurd h4 (by decide)
theorem mq_hrs {W : List Nat} {t p fr w : Nat} (hW : CMs t W) (hp : p < 9) (hm : MQf W t p fr) (hw : w ∈ W) (h : hrs fr w = true) : fr ≤ w := by
  unfold hrs at h
  rcases hm with ⟨T, r, h1, h2, h3⟩ | ⟨w0, hw0, r, hr, h3⟩
  · have hb : ¬ fr / 1099511627776 % 2 = 1 := by rw [h3, mq_bit (by omega)]; decide
    rw [if_neg hb] at h
    exact Nat.le_of_lt (of_decide_eq_true h)
  · obtain ⟨t', c', e, h1, h2⟩ := hW.1 w0 hw0
    have h4 := mq_call (t' := t') h2 hr
    rw [← e, ← h3] at h4
    rw [if_pos h4.2.1] at h
    have h5 := of_decide_eq_true h
    rw [h4.2.2.1, ← h4.2.2.2] at h5
    have := hW.2 w0 hw0 w hw h5
    omega
/-- moments of a solution, and that nothing comes before its part's beginning -/
theorem so_mom {E : EnvP} {B0 t : Nat} {LG : List Lg} {H : Nat → List Ev} {bf : Nat → Option Nat} (hT : TR E) (hS : SOL E B0 LG t H bf) (hW : CMs t (B0 :: LG.map (fun g => g.2.2.2))) : ∀ q, q < e_n E → (∀ e ∈ H q, MQf (B0 :: LG.map (fun g => g.2.2.2)) t q e.2.2) ∧ ∀ fr, bf q = some fr → MQf (B0 :: LG.map (fun g => g.2.2.2)) t q fr ∧ ∀ e ∈ H q, fr ≤ e.2.2 := by
  have hn9 := hT.2.2.1
  intro q
  induction q using Nat.strongRecOn with
  | ind q ih =>
    intro hq
    have hfr : ∀ fr, bf q = some fr → MQf (B0 :: LG.map (fun g => g.2.2.2)) t q fr := by
      refine so_walk2 (R := fun b _ => ∀ fr, b = some fr → MQf (B0 :: LG.map (fun g => g.2.2.2)) t q fr) hT hS.1 hS.1 hq ?_ ?_
      · intro fr hfr
        cases hfr
        exact Or.inr ⟨B0, by simp, 0, by omega, by simp⟩
      · intro u hu h19 hxq hqu fr hfr
        obtain ⟨e, e1, e2, e3⟩ := so_find hfr
        rw [← e3]
        exact mq_mono (by omega) ((ih _ hxq (by omega)).1 e e1)
    cases hb : bf q with
    | none =>
      have hH : H q = [] := by rw [hS.2 q hq, hb]; rfl
      rw [hH]
      exact ⟨by simp, fun fr h => by simp at h⟩
    | some fr =>
      have hH : H q = (RR (e_kd E q) (e_oa E q) (e_ob E q) q fr LG t (H (e_xc E q)) (H (e_yc E q))).2 := by rw [hS.2 q hq, hb]; rfl
      have hfm := hfr fr hb
      have hk := so_kids hT hS.1 hq
      have hX : 3 ≤ e_kd E q → ∀ e ∈ H (e_xc E q), MQf (B0 :: LG.map (fun g => g.2.2.2)) t (e_xc E q) e.2.2 ∧ fr ≤ e.2.2 := fun h3 e he => by
        have h1 := hk.1 h3
        have h2 := ih _ h1.1 (by omega)
        exact ⟨h2.1 e he, (h2.2 fr (h1.2.trans hb)).2 e he⟩
      have hY : 16 ≤ e_kd E q → ∀ e ∈ H (e_yc E q), MQf (B0 :: LG.map (fun g => g.2.2.2)) t (e_yc E q) e.2.2 ∧ fr ≤ e.2.2 := fun h16 e he => by
        have h1 := hk.2 h16
        have h2 := ih _ h1.2.1 (by omega)
        refine ⟨h2.1 e he, ?_⟩
        rcases Nat.lt_or_ge (e_kd E q) 19 with w | w
        · exact (h2.2 fr ((h1.2.2.1 w).trans hb)).2 e he
        · have h3 := h1.2.2.2 w
          cases hl : lastm (e_kd E q) (H (e_xc E q)) with
          | none =>
            rw [hl] at h3
            have : H (e_yc E q) = [] := by rw [hS.2 _ (by omega), h3]; rfl
            rw [this] at he; simp at he
          | some fr' =>
            rw [hl] at h3
            obtain ⟨e', f1, f2, f3⟩ := so_find hl
            have := (hX (by omega) e' f1).2
            have := (h2.2 fr' h3).2 e he
            omega
      have hge : tmd (e_kd E q) = true → ∀ e ∈ H (e_xc E q), ckm q fr ≤ ckm q e.2.2 := fun ht e he => yk_ck (by omega) (hX (by
        simp only [tmd, Bool.or_eq_true, beq_iff_eq] at ht
        omega) e he).2
      have h3t : tmd (e_kd E q) = true → 3 ≤ e_kd E q := fun ht => by
        simp only [tmd, Bool.or_eq_true, beq_iff_eq] at ht
        omega
      refine ⟨?_, fun fr' h => ?_⟩
      · rw [hH]
        refine pr_RR (P := fun m => MQf (B0 :: LG.map (fun g => g.2.2.2)) t q m) (fun _ g hg _ => Or.inr ⟨g.2.2.2, by simp; exact Or.inr ⟨_, _, _, hg⟩, q + 1, by omega, by omega⟩) (fun _ => hfm) (fun h3 e he => mq_mono (Nat.le_of_lt (hk.1 h3).1) (hX h3 e he).1) (fun h16 e he => mq_mono (Nat.le_of_lt (hk.2 h16).2.1) (hY h16 e he).1) hge (fun _ T h1 h2 => Or.inl ⟨T, q, ?_, Nat.le_refl _, rfl⟩)
        rcases h2 with h2 | ⟨h2, e, he, h4⟩
        · exact h2
        · have h5 := (hX (h3t h2) e he).1
          have h6 := mq_tim hW (by have := (hk.1 (h3t h2)).1; omega) h5
          have h7 := yt_cktim (p := q) (m := e.2.2)
          omega
      · cases h
        refine ⟨hfm, ?_⟩
        rw [hH]
        refine pr_RR (P := fun m => fr ≤ m) (fun _ g hg hh => ?_) (fun _ => Nat.le_refl _) (fun h3 e he => (hX h3 e he).2) (fun h16 e he => (hY h16 e he).2) hge (fun _ T h1 _ => ?_)
        · have := mq_hrs hW (by omega) hfm (w := g.2.2.2) (by simp; exact Or.inr ⟨_, _, _, hg⟩) hh
          omega
        · have h2 := yt_ck2 (p := q) (m := fr) (by omega)
          have h3 := pr_tm (p := q) (T := ckm q fr + 1) (T' := T) h1
          exact Nat.le_of_lt (Nat.lt_of_lt_of_le h2 h3)
theorem so_bf {E : EnvP} {H : Nat → List Ev} {F : Nat → Nat} {bg : Nat → Bool} {B0 : Nat} (hT : TR E) (h : CU E H F bg B0) : BF E B0 H (fun q => if bg q = true then some (F q) else none) := by
  have h2 : CU (eU E (e_t E) (e_M E) (e_c E) (fun _ => []) []) H F bg B0 → True := fun _ => trivial
  obtain ⟨c1, c2, c3, c4, c5, c6, c7, c8, c9, c10, c11⟩ := h
  obtain ⟨t1, t2, t3, t4, t5, t6, t7, t8, t9, t10, t11⟩ := hT
  refine ⟨?_, fun q hq hy => ?_, fun q hq hy => ?_⟩
  · dsimp only
    rw [if_pos c9, c10]
  · have h9 := t9 q hq
    dsimp only
    cases hl2 : lastm (e_kd E (e_us E q)) (H (e_xc E (e_us E q))) with
    | none =>
      have h0 := so_find0 hl2
      rw [if_neg]
      intro hb
      obtain ⟨e, e1, e2⟩ := c5 (e_us E q) h9.2.1 hy.1 (by rw [hy.2]; exact hb)
      exact h0 e e1 e2
    | some m =>
      obtain ⟨e, e1, e2, e3⟩ := so_find hl2
      have := c8 (e_us E q) h9.2.1 hy.1 e e1 e2
      rw [hy.2] at this
      rw [if_pos this.1, this.2, e3]
  · have h9 := t9 q hq
    dsimp only
    by_cases hb : bg (e_us E q) = true
    · have hd := c7 (e_us E q) h9.2.1 hb
      rw [if_pos hb]
      rcases h9.2.2.2 with w | w
      · have := hd.1 h9.2.2.1
        rw [w] at this
        rw [if_pos this.1, this.2]
      · have h19 : e_kd E (e_us E q) < 19 := by
          rcases Nat.lt_or_ge (e_kd E (e_us E q)) 19 with z | z
          · exact z
          · exact absurd ⟨z, w.2⟩ hy
        have := hd.2 w.1 h19
        rw [w.2] at this
        rw [if_pos this.1, this.2]
    · rw [if_neg hb, if_neg (fun y => hb (c6 q hq y))]
theorem so_lastm_app {k : Nat} {H ex : List Ev} : lastm k (H ++ ex) = match lastm k H with | none => lastm k ex | some m => some m := by
  unfold lastm
  rw [List.find?_append]
  cases H.find? (fun e => mt k e.1) <;> rfl
theorem so_fin {k : Nat} {H : List Ev} {e : Ev} (he : e ∈ H) (hm : mt k e.1 = true) : fin H = true := by
  unfold fin
  rw [List.any_eq_true]
  refine ⟨e, he, ?_⟩
  simp only [mt, Bool.or_eq_true, Bool.and_eq_true, beq_iff_eq] at hm
  simp
  omega
theorem so_cut {E : EnvP} {t0 M : Nat} {c : Nat → Nat} {lg : Nat → List Lg} {LG0 : List Lg} {H : Nat → List Ev} {F : Nat → Nat} {bg : Nat → Bool} {B0 T : Nat} {LG : List Lg} {H' : Nat → List Ev} {bf' : Nat → Option Nat} (hT : TR E) (hC : CU (eU E t0 M c lg LG0) H F bg B0) (hS : SOL E B0 LG T H' bf') (hcl : ∀ q, q < e_n E → c q ≤ T ∧ ∃ ex, LG = lg q ++ ex ∧ ∀ g ∈ ex, M < g.2.2.2 + (q + 1)) (hMB : ∀ q, q < e_n E → ∀ fr, bf' q = some fr → ∀ e ∈ H' q, fr ≤ e.2.2) : ∀ q, q < e_n E → ∃ ex, H' q = H q ++ ex ∧ (∀ e ∈ ex, M < e.2.2) ∧ (fin (H q) = true → ex = []) := by
  have hn9 := hT.2.2.1
  have hbf : BF E B0 H (fun q => if bg q = true then some (F q) else none) := so_bf (E := eU E t0 M c lg LG0) hT hC
  obtain ⟨c1, c2, c3, c4, c5, c6, c7, c8, c9, c10, c11⟩ := hC
  have c1' : ∀ q, q < e_n E → bg q = true → (RR (e_kd E q) (e_oa E q) (e_ob E q) q (F q) (lg q) (c q) (H (e_xc E q)) (H (e_yc E q))).2 = H q := c1
  have c3' : ∀ q, q < e_n E → ∀ e ∈ H q, e.2.2 ≤ M := c3
  have c5' : ∀ q, q < e_n E → 19 ≤ e_kd E q → bg (e_yc E q) = true → ∃ e ∈ H (e_xc E q), mt (e_kd E q) e.1 = true := c5
  have c2' : ∀ q, q < e_n E → bg q = false → H q = [] := c2
  have c11' : ∀ q, q < e_n E → tm (c q) q ≤ M ∧ M < tm (c q + 1) q := c11
  have c4' : ∀ q, q < e_n E → bg q = true → F q ≤ M := c4
  intro q
  induction q using Nat.strongRecOn with
  | ind q ih =>
    intro hq
    have hR : (if bg q = true then some (F q) else none) = bf' q ∨ ((if bg q = true then some (F q) else none) = none ∧ ∃ fr, bf' q = some fr ∧ M < fr) := by
      refine so_walk2 (R := fun x y => x = y ∨ (x = none ∧ ∃ fr, y = some fr ∧ M < fr)) (bf := fun q => if bg q = true then some (F q) else none) hT hbf hS.1 hq (Or.inl rfl) ?_
      intro u hu h19 hxq hqu
      obtain ⟨ex, e1, e2, e3⟩ := ih _ hxq (by omega)
      rw [e1, so_lastm_app]
      cases hl : lastm (e_kd E u) (H (e_xc E u)) with
      | some m => exact Or.inl rfl
      | none =>
        cases hl2 : lastm (e_kd E u) ex with
        | none => exact Or.inl rfl
        | some fr =>
          obtain ⟨e, f1, f2, f3⟩ := so_find hl2
          exact Or.inr ⟨rfl, fr, rfl, by rw [← f3]; exact e2 e f1⟩
    by_cases hb : bg q = true
    · rw [if_pos hb] at hR
      have hbf' : bf' q = some (F q) := by
        rcases hR with w | ⟨w, _⟩
        · exact w.symm
        · simp at w
      have hH' : H' q = (RR (e_kd E q) (e_oa E q) (e_ob E q) q (F q) LG T (H' (e_xc E q)) (H' (e_yc E q))).2 := by rw [hS.2 q hq, hbf']; rfl
      obtain ⟨hcT, lx, hlx, hlx2⟩ := hcl q hq
      have hcw := c11' q hq
      have hk := so_kids hT hS.1 hq
      have key : ∃ ez, (RR (e_kd E q) (e_oa E q) (e_ob E q) q (F q) LG T (H' (e_xc E q)) (H' (e_yc E q))).2 = (RR (e_kd E q) (e_oa E q) (e_ob E q) q (F q) (lg q) (c q) (H (e_xc E q)) (H (e_yc E q))).2 ++ ez ∧ (∀ e ∈ ez, M < e.2.2) ∧ (fin (RR (e_kd E q) (e_oa E q) (e_ob E q) q (F q) (lg q) (c q) (H (e_xc E q)) (H (e_yc E q))).2 = true → ez = []) := by
        rw [hlx]
        rcases Nat.lt_or_ge (e_kd E q) 3 with h3 | h3
        · rw [rr_congr (Hx := H' (e_xc E q)) (Hy := H' (e_yc E q)) (Hx' := [] ++ []) (Hy' := [] ++ []) (fun _ => by omega) (fun _ => by omega), rr_congr (Hx := H (e_xc E q)) (Hy := H (e_yc E q)) (Hx' := []) (Hy' := []) (fun _ => by omega) (fun _ => by omega)]
          exact pr_ext (by omega) hcw.1 hcw.2 hcT (c4' q hq hb) hlx2 (by simp) (by simp) (by simp) (by simp) (fun _ => by omega)
        · have hx := hk.1 h3
          obtain ⟨ex, x1, x2, x3⟩ := ih _ hx.1 (by omega)
          rw [x1]
          rcases Nat.lt_or_ge (e_kd E q) 16 with h16 | h16
          · rw [rr_congr (Hx := H (e_xc E q) ++ ex) (Hy := H' (e_yc E q)) (Hx' := H (e_xc E q) ++ ex) (Hy' := [] ++ []) (fun _ => rfl) (fun _ => by omega), rr_congr (Hx := H (e_xc E q)) (Hy := H (e_yc E q)) (Hx' := H (e_xc E q)) (Hy' := []) (fun _ => rfl) (fun _ => by omega)]
            exact pr_ext (by omega) hcw.1 hcw.2 hcT (c4' q hq hb) hlx2 (c3' _ (by omega)) (by simp) x2 (by simp) (fun _ => by omega)
          · have hy := hk.2 h16
            obtain ⟨ey, y1, y2, y3⟩ := ih _ hy.2.1 (by omega)
            rw [y1]
            refine pr_ext (by omega) hcw.1 hcw.2 hcT (c4' q hq hb) hlx2 (c3' _ (by omega)) (c3' _ (by omega)) x2 y2 (fun h19 => ?_)
            by_cases hby : bg (e_yc E q) = true
            · obtain ⟨e, f1, f2⟩ := c5' q hq h19 hby
              exact Or.inr (x3 (so_fin f1 f2))
            · exact Or.inl (c2' _ (by omega) (by simpa using hby))
      rw [← hH', c1' q hq hb] at key
      exact key
    · have hb' : bg q = false := by simpa using hb
      rw [if_neg hb] at hR
      rw [c2' q hq hb']
      refine ⟨H' q, rfl, fun e he => ?_, fun hf => absurd hf (by decide)⟩
      rcases hR with w | ⟨_, fr, w1, w2⟩
      · exfalso
        rw [hS.2 q hq, ← w] at he
        simp [spv] at he
      · have := hMB q hq fr w1 e he
        omega
def wkf (E : EnvP) (B0 : Nat) (H : Nat → List Ev) : Nat → Nat → Option Nat
  | 0, _ => some B0
  | f + 1, q => if q + 1 < e_n E then (if 19 ≤ e_kd E (e_us E q) ∧ e_yc E (e_us E q) = q then lastm (e_kd E (e_us E q)) (H (e_xc E (e_us E q))) else wkf E B0 H f (e_us E q)) else some B0
theorem so_wkf1 {E : EnvP} {B0 : Nat} {H : Nat → List Ev} (hT : TR E) : ∀ (f q : Nat), e_n E - 1 - q ≤ f → wkf E B0 H (f + 1) q = wkf E B0 H f q := by
  intro f
  induction f with
  | zero =>
    intro q h
    show (if q + 1 < e_n E then _ else some B0) = some B0
    rw [if_neg (by omega)]
  | succ f ih =>
    intro q h
    show (if q + 1 < e_n E then (if 19 ≤ e_kd E (e_us E q) ∧ e_yc E (e_us E q) = q then _ else wkf E B0 H (f + 1) (e_us E q)) else some B0) = (if q + 1 < e_n E then (if 19 ≤ e_kd E (e_us E q) ∧ e_yc E (e_us E q) = q then _ else wkf E B0 H f (e_us E q)) else some B0)
    by_cases hr : q + 1 < e_n E
    · have h9 := hT.2.2.2.2.2.2.2.2.1 q hr
      rw [ih (e_us E q) (by omega)]
    · rw [if_neg hr, if_neg hr]
theorem so_wkf {E : EnvP} {B0 : Nat} {H : Nat → List Ev} (hT : TR E) : BF E B0 H (wkf E B0 H 9) := by
  have h9 := hT.2.2.1
  have hu : ∀ q, wkf E B0 H 9 q = (if q + 1 < e_n E then (if 19 ≤ e_kd E (e_us E q) ∧ e_yc E (e_us E q) = q then lastm (e_kd E (e_us E q)) (H (e_xc E (e_us E q))) else wkf E B0 H 8 (e_us E q)) else some B0) := fun q => rfl
  refine ⟨?_, fun q hq hc => ?_, fun q hq hc => ?_⟩
  · rw [hu, if_neg (by omega)]
  · rw [hu, if_pos hq, if_pos (show 19 ≤ e_kd E (e_us E q) ∧ e_yc E (e_us E q) = q from hc)]
  · rw [hu, if_pos hq, if_neg (show ¬ (19 ≤ e_kd E (e_us E q) ∧ e_yc E (e_us E q) = q) from hc)]
    exact (so_wkf1 hT 8 (e_us E q) (by omega)).symm
theorem so_cong {E : EnvP} {B0 t : Nat} {LG : List Lg} {H H' : Nat → List Ev} {q : Nat} (hT : TR E) (hq : q < e_n E) (h : ∀ r, r < q → H r = H' r) : spv E LG t H q (wkf E B0 H 9 q) = spv E LG t H' q (wkf E B0 H' 9 q) := by
  have e : wkf E B0 H 9 q = wkf E B0 H' 9 q := so_walk2 (R := fun x y => x = y) hT (so_wkf hT) (so_wkf hT) hq rfl (fun u hu h19 hx hqu => by rw [h _ hx])
  rw [e]
  have hk := so_kids hT (so_wkf (B0 := B0) (H := H) hT) hq
  cases wkf E B0 H' 9 q with
  | none => rfl
  | some fr =>
    show (RR (e_kd E q) (e_oa E q) (e_ob E q) q fr LG t (H (e_xc E q)) (H (e_yc E q))).2 = (RR (e_kd E q) (e_oa E q) (e_ob E q) q fr LG t (H' (e_xc E q)) (H' (e_yc E q))).2
    rw [rr_congr (fun h3 => h _ (hk.1 h3).1) (fun h16 => h _ (hk.2 h16).2.1)]
theorem so_exists (E : EnvP) (B0 t : Nat) (LG : List Lg) (hT : TR E) : ∃ H bf, SOL E B0 LG t H bf := by
  have main : ∀ m, m ≤ e_n E → ∃ H : Nat → List Ev, ∀ q, q < m → H q = spv E LG t H q (wkf E B0 H 9 q) := by
    intro m
    induction m with
    | zero => intro _; exact ⟨fun _ => [], fun q hq => by omega⟩
    | succ m ih =>
      intro hm
      obtain ⟨H, h⟩ := ih (by omega)
      refine ⟨fup H m (spv E LG t H m (wkf E B0 H 9 m)), fun q hq => ?_⟩
      have hag : ∀ r, r < m → H r = fup H m (spv E LG t H m (wkf E B0 H 9 m)) r := fun r hr => by rw [fu_n (by omega)]
      rw [← so_cong (H := H) hT (by omega) (fun r hr => hag r (by omega))]
      by_cases e : q = m
      · subst e; rw [fu_s]
      · rw [fu_n e]; exact h q (by omega)
  obtain ⟨H, h⟩ := main _ (Nat.le_refl _)
  exact ⟨H, wkf E B0 H 9, so_wkf hT, h⟩
