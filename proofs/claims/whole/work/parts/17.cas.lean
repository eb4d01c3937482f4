/-! ===== the cascade: helpers ===== -/
theorem ca_RR {k p fr c : Nat} {a b : Int32} {lg : List Lg} {Hx Hy Hx' Hy' : List Ev} (hx : 3 ≤ k → Hx' = Hx) (hy : 16 ≤ k → Hy' = Hy) : RR k a b p fr lg c Hx' Hy' = RR k a b p fr lg c Hx Hy := by
  have hi : inp k p (ckm p fr) c Hx' Hy' = inp k p (ckm p fr) c Hx Hy := by
    unfold inp
    by_cases h1 : k = 1
    · rw [if_pos h1, if_pos h1]
    · rw [if_neg h1, if_neg h1]
      by_cases h3 : k < 3
      · rw [if_pos h3, if_pos h3]
      · rw [if_neg h3, if_neg h3]
        rw [hx (by omega)]
        by_cases h16 : k < 16
        · rw [if_pos h16, if_pos h16]
        · rw [if_neg h16, if_neg h16, hy (by omega)]
  unfold RR
  rw [hi]
theorem ca_Rn {E : EnvP} {H H' : Nat → List Ev} {F F' : Nat → Nat} {q : Nat} (hF : F' q = F q) (hx : 3 ≤ e_kd E q → H' (e_xc E q) = H (e_xc E q)) (hy : 16 ≤ e_kd E q → H' (e_yc E q) = H (e_yc E q)) : Rn E H' F' q = Rn E H F q := by
  unfold Rn
  rw [hF]
  exact ca_RR hx hy
theorem ca_cl {E : EnvP} {u u' : SX} {H H' : Nat → List Ev} {F F' : Nat → Nat} {bg bg' : Nat → Bool} {q : Nat} (h : CL E u H F bg q) (hH : H' q = H q) (hF : F' q = F q) (hb : bg' q = bg q) (hx : 3 ≤ e_kd E q → H' (e_xc E q) = H (e_xc E q)) (hy : 16 ≤ e_kd E q → H' (e_yc E q) = H (e_yc E q)) (hr : ∀ S, RepP u (ab E q) S → RepP u' (ab E q) S) : CL E u' H' F' bg' q := by
  have e := ca_Rn hF hx hy
  constructor
  · intro hb'
    rw [hb] at hb'
    have h1 := h.1 hb'
    rw [e, hH]
    refine ⟨h1.1, fun hf => ?_⟩
    have h2 := h1.2 hf
    refine ⟨hr _ h2.1, h2.2.1, fun g1 g2 => ?_⟩
    have h3 := h2.2.2 g1 g2
    rw [hx (by omega), hy g1]
    exact h3
  · intro hb'
    rw [hb] at hb'
    exact hr _ (h.2 hb')
theorem ca_sub {u u' : SX} (h : x_sub u' = x_sub u) (j : Nat) (s : Sb) (hs : RepU u j s) : RepU u' j s := by
  unfold RepU at hs ⊢
  have h1 : x_subStatus u' = x_subStatus u := congrArg (fun z => z.1) h
  have h2 : x_subCode u' = x_subCode u := congrArg (fun z => z.2.1) h
  have h3 : x_subEnd u' = x_subEnd u := congrArg (fun z => z.2.2.1) h
  have h4 : x_subDemand u' = x_subDemand u := congrArg (fun z => z.2.2.2.1) h
  have h5 : x_subDelivered u' = x_subDelivered u := congrArg (fun z => z.2.2.2.2.1) h
  have h6 : x_subWaiting u' = x_subWaiting u := congrArg (fun z => z.2.2.2.2.2.1) h
  have h7 : x_waitValue u' = x_waitValue u := congrArg (fun z => z.2.2.2.2.2.2.1) h
  have h8 : x_history u' = x_history u := congrArg (fun z => z.2.2.2.2.2.2.2) h
  rw [h1, h2, h3, h4, h5, h6, h7, h8]
  exact hs
theorem ca_sent {u u' : SX} (h : x_st2 u' = x_st2 u) : x_sent u' = x_sent u := congrArg (fun z => z.2.1) h
theorem ca_ab {E : EnvP} {p q : Nat} (h : q ≠ p) : ab E q ≠ ab E p := by unfold ab; omega
theorem ca_iv {E : EnvP} {u u1 : SX} {H : Nat → List Ev} {F : Nat → Nat} {bg : Nat → Bool} {p w : Nat} {v : Int32} (hI : IV E u H F bg) (hp : p < e_n E) (hb : bg p = true) (hf : fin (H p) = false) (hw : 1 ≤ w) (e1 : x_st2 u1 = x_st2 u) (e2 : x_phase u1 = if w = 1 then x_phase u else upd (x_phase u) (ab E p) 2) (e3 : x_beganAfter u1 = x_beganAfter u)
    (hs : e_h0 E ≤ (fup H p (H p ++ [(w, v, e_M E)]) (e_n E - 1)).length ∧ RepU u1 (e_id E) (((fup H p (H p ++ [(w, v, e_M E)]) (e_n E - 1)).drop (e_h0 E)).foldl evf (e_s0 E))) :
    IV E u1 (fup H p (H p ++ [(w, v, e_M E)])) F bg := by
  obtain ⟨i1, i2, i3, i4, i5, i6, i7, i8, i9, i10⟩ := hI
  refine ⟨by rw [e1]; exact i1, fun q hq => ?_, fun q hq e he => ?_, i4, hs, fun q hq hk hy => ?_, fun q hq hbq => ?_, i8, fun q hq hbq => by rw [e3]; exact i9 q hq hbq, by rw [ca_sent e1]; exact i10⟩
  · by_cases hqp : q = p
    · subst hqp
      rw [fu_s, cs_fin_snoc hf, hb, e2]
      by_cases h1 : w = 1
      · rw [if_pos h1, i2 q hq, hb, hf, h1]; rfl
      · rw [if_neg h1, pk_us]
        have : (w != 1) = true := by simpa using h1
        rw [this]; rfl
    · rw [fu_n hqp, e2]
      by_cases h1 : w = 1
      · rw [if_pos h1]; exact i2 q hq
      · rw [if_neg h1, pk_un (ca_ab hqp)]; exact i2 q hq
  · by_cases hqp : q = p
    · subst hqp
      rw [fu_s] at he
      rcases List.mem_append.mp he with z | z
      · exact i3 q hq e z
      · rw [List.mem_singleton] at z; subst z; exact Nat.le_refl _
    · rw [fu_n hqp] at he; exact i3 q hq e he
  · obtain ⟨e, he, hm⟩ := i6 q hq hk hy
    refine ⟨e, ?_, hm⟩
    by_cases hqp : e_xc E q = p
    · rw [hqp, fu_s]; rw [hqp] at he; exact List.mem_append.mpr (Or.inl he)
    · rw [fu_n hqp]; exact he
  · by_cases hqp : q = p
    · subst hqp; rw [hb] at hbq; exact absurd hbq (by decide)
    · rw [fu_n hqp]; exact i7 q hq hbq
theorem ca_wfo {e : Nat × Int32} {o : Otp} (h : wfo (e :: o)) : 1 ≤ e.1 ∧ e.1 ≤ 3 ∧ evok e.1 e.2 ∧ (e.1 = 1 → wfo o) ∧ (e.1 ≠ 1 → o = []) := by
  obtain ⟨L, en, h1, h2⟩ := h
  cases L with
  | nil =>
    cases en with
    | none => simp at h1
    | some z =>
      simp at h1
      obtain ⟨hz, ho⟩ := h1
      subst hz ho
      have := h2 e rfl
      refine ⟨?_, ?_, Or.inr this, fun hw => ?_, fun _ => rfl⟩
      · rcases this with y | y <;> omega
      · rcases this with y | y <;> omega
      · rcases this with y | y <;> omega
  | cons v L =>
    simp only [List.map_cons, List.cons_append, List.cons.injEq] at h1
    obtain ⟨hz, ho⟩ := h1
    subst hz
    exact ⟨by simp, by simp, Or.inl rfl, fun _ => ⟨L, en, ho, h2⟩, fun z => absurd rfl z⟩
/-- one event of part p, to its very end -/
def EVT (E : EnvP) (post : SX → Prop) (p : Nat) : Prop := ∀ (x w : Nat) (v : Int32) (R : List Tk) (u : SX) (H : Nat → List Ev) (F : Nat → Nat) (bg : Nat → Bool),
  p < e_n E → IV E u H F bg → (∀ q, p < q → q < e_n E → CL E u H F bg q) → XB E H p → CK E (p + 1) → bg p = true → fin (H p) = false → 1 ≤ w → w ≤ 3 → evok w v → RepS u ((w, ab E p, v) :: R) → R.length + 1 + 10 * (9 - p) ≤ 128 → x + e3 (9 - p) ≤ 1000000 →
  (∀ (x' : Nat) (u' : SX) (H' : Nat → List Ev) (F' : Nat → Nat) (bg' : Nat → Bool), x' ≤ x + e3 (9 - p) → IV E u' H' F' bg' → (∀ q, p < q → q < e_n E → CL E u' H' F' bg' q) → XB E H' p → RepS u' R → PG E p (e_n E) u H F bg u' H' F' bg' → (∀ S, RepP u (ab E p) S → RepP u' (ab E p) S) → H' p = H p ++ [(w, v, e_M E)] → Wr post (e_id E) x' u') →
  Wr post (e_id E) x u
def BEG (E : EnvP) (post : SX → Prop) (z : Nat) : Prop := ∀ (x : Nat) (R : List Tk) (u : SX) (H : Nat → List Ev) (F : Nat → Nat) (bg : Nat → Bool),
  z < e_n E → IV E u H F bg → (∀ q, e_lo E z ≤ q → q < e_n E → CL E u H F bg q) → XB E H z → CK E (e_lo E z) → (∀ q, e_lo E z ≤ q → q ≤ z → bg q = false) → (z + 1 < e_n E → bg (e_us E z) = true) → (∀ q, q < e_n E → 19 ≤ e_kd E q → e_yc E q = z → ∃ e ∈ H (e_xc E q), mt (e_kd E q) e.1 = true) →
  RepS u ((0, ab E z, 0) :: R) → R.length + 3 + 10 * (9 - e_lo E z) + (z - e_lo E z) ≤ 128 → x + e3 (10 - e_lo E z) ≤ 1000000 + e3 (9 - z) →
  (∀ (x' : Nat) (u' : SX) (H' : Nat → List Ev) (F' : Nat → Nat) (bg' : Nat → Bool), x' + e3 (9 - z) ≤ x + e3 (10 - e_lo E z) → IV E u' H' F' bg' → (∀ q, e_lo E z ≤ q → q < e_n E → CL E u' H' F' bg' q) → XB E H' z → RepS u' R → PG E (e_lo E z) z u H F bg u' H' F' bg' → bg' z = true → F' z = e_M E → Wr post (e_id E) x' u') →
  Wr post (e_id E) x u
theorem ca_list {E : EnvP} {post : SX → Prop} (hT : TR E) {q : Nat} (hE : EVT E post q) : ∀ (o : Otp) (x : Nat) (R : List Tk) (u : SX) (H : Nat → List Ev) (F : Nat → Nat) (bg : Nat → Bool),
    q < e_n E → IV E u H F bg → (∀ r, q < r → r < e_n E → CL E u H F bg r) → XB E H q → CK E (q + 1) → bg q = true → (o ≠ [] → fin (H q) = false) → wfo o → RepS u (ots (ab E q) o ++ R) → R.length + o.length + 10 * (9 - q) ≤ 128 → x + o.length * e3 (9 - q) ≤ 1000000 →
    (∀ (x' : Nat) (u' : SX) (H' : Nat → List Ev) (F' : Nat → Nat) (bg' : Nat → Bool), x' ≤ x + o.length * e3 (9 - q) → IV E u' H' F' bg' → (∀ r, q < r → r < e_n E → CL E u' H' F' bg' r) → XB E H' q → RepS u' R → PG E q (e_n E) u H F bg u' H' F' bg' → (∀ S, RepP u (ab E q) S → RepP u' (ab E q) S) → H' q = H q ++ ems (e_M E) o → Wr post (e_id E) x' u') →
    Wr post (e_id E) x u := by
  intro o
  induction o with
  | nil =>
    intro x R u H F bg hq hI hC hX hK hb hf ho hS hl hx K
    exact K x u H F bg (by omega) hI hC hX hS pg_refl (fun S h => h) (by simp [ems])
  | cons e o ih =>
    intro x R u H F bg hq hI hC hX hK hb hf ho hS hl hx K
    have hf0 := hf (by simp)
    obtain ⟨w1, w3, we, wo, wn⟩ := ca_wfo ho
    rw [List.length_cons] at hl
    have hx' : x + (o.length + 1) * e3 (9 - q) ≤ 1000000 := hx
    rw [Nat.add_mul, Nat.one_mul] at hx'
    refine hE x e.1 e.2 (ots (ab E q) o ++ R) u H F bg hq hI hC hX hK hb hf0 w1 w3 we hS ?_ (by omega) ?_
    · simp [ots]; omega
    · intro x' u' H' F' bg' h1 h2 h3 h4 h5 h6 h7 h8
      have hb' := (h6.2.2.1 q hq hb).1
      refine ih x' R u' H' F' bg' hq h2 h3 h4 hK hb' ?_ ?_ h5 (by omega) (by omega) ?_
      · intro hne
        have he1 : e.1 = 1 := by
          rcases Nat.decEq e.1 1 with z | z
          · exact absurd (wn z) hne
          · exact z
        rw [h8, cs_fin_snoc hf0, he1]; rfl
      · rcases Nat.decEq e.1 1 with z | z
        · rw [wn z]; exact rn_wfo_nil
        · exact wo z
      · intro x2 u2 H2 F2 bg2 g1 g2 g3 g4 g5 g6 g7 g8
        refine K x2 u2 H2 F2 bg2 ?_ g2 g3 g4 g5 (pg_trans hT h6 g6) (fun S h => g7 S (h7 S h)) ?_
        · show x2 ≤ x + (o.length + 1) * e3 (9 - q)
          rw [Nat.add_mul, Nat.one_mul]
          omega
        · rw [g8, h8, List.append_assoc]; rfl
