/-! ===== the relation between component and reference ===== -/
def CQ (cc t : Nat) (W : List Nat) : Prop := (∀ w ∈ W, ∃ t' c', w = mo t' 1 c' ∧ t' ≤ t ∧ c' ≤ cc) ∧ ∀ w ∈ W, ∀ w' ∈ W, w / 256 % 4294967296 < w' / 256 % 4294967296 → w + 256 ≤ w'
theorem cq_cms {cc t : Nat} {W : List Nat} (hc : cc < 3000000000) (h : CQ cc t W) : CMs t W :=
  ⟨fun w hw => by obtain ⟨t', c', h1, h2, h3⟩ := h.1 w hw; exact ⟨t', c', h1, h2, by omega⟩, h.2⟩
theorem cq_mono {cc cc' t t' : Nat} {W : List Nat} (hc : cc ≤ cc') (ht : t ≤ t') (h : CQ cc t W) : CQ cc' t' W :=
  ⟨fun w hw => by obtain ⟨a, b, h1, h2, h3⟩ := h.1 w hw; exact ⟨a, b, h1, by omega, by omega⟩, h.2⟩
theorem cq_pl {x y z c c' : Nat} (h : x ≤ y) (hc : c' ≤ c) : x + z + c' * 256 + 256 ≤ y + z + (c + 1) * 256 := by omega
theorem cq_le {t t' c c' : Nat} (ht : t' ≤ t) (hc : c' ≤ c) : mo t' 1 c' + 256 ≤ mo t 1 (c + 1) := by
  unfold mo
  exact cq_pl (Nat.mul_le_mul_right _ ht) hc
theorem cq_new {cc t : Nat} {W W' : List Nat} (hc : cc < 3000000000) (h : CQ cc t W) (hW : ∀ w ∈ W', w ∈ W ∨ w = mo t 1 (cc + 1)) : CQ (cc + 1) t W' := by
  refine ⟨fun w hw => ?_, fun w hw w' hw' hlt => ?_⟩
  · rcases hW w hw with y | y
    · obtain ⟨a, b, h1, h2, h3⟩ := h.1 w y
      exact ⟨a, b, h1, h2, by omega⟩
    · exact ⟨t, cc + 1, y, Nat.le_refl _, Nat.le_refl _⟩
  · rcases hW w hw with y | y
    · rcases hW w' hw' with y' | y'
      · exact h.2 w y w' y' hlt
      · obtain ⟨a, b, h1, h2, h3⟩ := h.1 w y
        rw [h1, y']
        exact cq_le h2 h3
    · exfalso
      rw [y, (mq_call (t' := t) (c' := cc + 1) (r := 0) (by omega) (by omega)).2.2.2] at hlt
      rcases hW w' hw' with y' | y'
      · obtain ⟨a, b, h1, h2, h3⟩ := h.1 w' y'
        rw [h1, (mq_call (t' := a) (c' := b) (r := 0) (by omega) (by omega)).2.2.2] at hlt
        omega
      · rw [y', (mq_call (t' := t) (c' := cc + 1) (r := 0) (by omega) (by omega)).2.2.2] at hlt
        omega
theorem cq_big {t c : Nat} (ht : t ≤ 200) (hc : c ≤ 3000000000) : mo t 1 c < 900000000000000 := by
  unfold mo
  have h1 : t * 2199023255552 ≤ 200 * 2199023255552 := Nat.mul_le_mul_right _ ht
  omega
theorem cq_tm {t c : Nat} (hc : c ≤ 3000000000) : mo t 1 c ≤ tm (t + 1) 0 := by
  have := (ts_win (t := t) (c := c) (b := 0) (r := 0) (by decide) (by omega) (by decide)).2
  omega
theorem cq_all {cc t : Nat} {W : List Nat} (hc : cc < 3000000000) (h : CQ cc t W) : ∀ w ∈ W, w ≤ mo t 1 (cc + 1) ∧ w / 256 % 4294967296 ≤ cc + 1 ∧ w ≤ tm (t + 1) 0 := by
  intro w hw
  obtain ⟨a, b, h1, h2, h3⟩ := h.1 w hw
  have h4 := cq_le h2 h3
  refine ⟨by rw [h1]; omega, ?_, ?_⟩
  · rw [h1, (mq_call (t' := a) (c' := b) (r := 0) (by omega) (by omega)).2.2.2]; omega
  · have := cq_tm (t := t) (c := cc + 1) (by omega)
    rw [h1]; omega
theorem ch3 {α : Type} {P : Nat → α → Prop} (h : ∀ j, j < 3 → ∃ a, P j a) : ∃ f : Nat → α, ∀ j, j < 3 → P j (f j) := by
  obtain ⟨a0, h0⟩ := h 0 (by decide)
  obtain ⟨a1, h1⟩ := h 1 (by decide)
  obtain ⟨a2, h2⟩ := h 2 (by decide)
  refine ⟨fun j => if j = 0 then a0 else if j = 1 then a1 else a2, fun j hj => ?_⟩
  have hj3 : j = 0 ∨ j = 1 ∨ j = 2 := by omega
  rcases hj3 with e | e | e
  · subst e; exact h0
  · subst e; exact h1
  · subst e; exact h2
/-- what belongs to one running subscription: its tables, stage, beginning, layout, what its parts have said -/
abbrev Dt : Type := Nat × (Nat → Nat) × (Nat → Nat) × (Nat → Nat) × (Nat → Int32) × (Nat → Int32) × Nat × Nat × (Nat → Nat) × (Nat → Nat) × (Nat → List Ev)
def d_n (d : Dt) : Nat := d.1
def d_K (d : Dt) : Nat → Nat := d.2.1
def d_A (d : Dt) : Nat → Nat := d.2.2.1
def d_B (d : Dt) : Nat → Nat := d.2.2.2.1
def d_oa (d : Dt) : Nat → Int32 := d.2.2.2.2.1
def d_ob (d : Dt) : Nat → Int32 := d.2.2.2.2.2.1
def d_s (d : Dt) : Nat := d.2.2.2.2.2.2.1
def d_B0 (d : Dt) : Nat := d.2.2.2.2.2.2.2.1
def d_sg (d : Dt) : Nat → Nat := d.2.2.2.2.2.2.2.2.1
def d_us (d : Dt) : Nat → Nat := d.2.2.2.2.2.2.2.2.2.1
def d_H (d : Dt) : Nat → List Ev := d.2.2.2.2.2.2.2.2.2.2
def d_up (d : Dt) (H : Nat → List Ev) : Dt := (d_n d, d_K d, d_A d, d_B d, d_oa d, d_ob d, d_s d, d_B0 d, d_sg d, d_us d, H)
def d_z (d : Dt) : Nat := sz (d_K d) (d_A d) (d_B d) (d_s d)
def d_R (d : Dt) : List Ev := d_H d (d_z d - 1)
def d_E (j : Nat) (d : Dt) (s : Sb) : EnvP := mkE j (d_z d) 0 0 (d_R d).length (d_K d) (d_A d) (d_B d) (d_sg d) (d_us d) (d_oa d) (d_ob d) (fun _ => 0) (fun _ => []) [] s
def DYt (ns : Nat) (d : Dt) (v : SY) : Prop := d_n d ≤ ns ∧ TYt (d_n d) (d_K d) (d_A d) (d_B d) (d_oa d) (d_ob d) (y_kind v) (y_opA v) (y_opB v) ∧ d_s d < d_n d ∧ d_z d ≤ 9 ∧ LYf (d_K d) (d_A d) (d_B d) (d_sg d) (d_us d) 13 0 (d_s d)
def ACT (cc t : Nat) (LG : List Lg) (j : Nat) (d : Dt) (s : Sb) (u : SX) : Prop := ∃ M F bg, M < mo t 1 (cc + 1) ∧ AR (eU (d_E j d s) t M (fun _ => t) (fun _ => LG) LG) (d_B0 d) cc u (d_H d) F bg
def whs (LG : List Lg) : List Nat := LG.map (fun g => g.2.2.2)
def RJa (ns cc t : Nat) (LG : List Lg) (j : Nat) (u : SX) (v : SY) (s : Sb) (d : Dt) : Prop :=
  DYt ns d v ∧ CQ cc t (d_B0 d :: whs LG) ∧ ACT cc t LG j d s u ∧ (∃ L0 z0, d_R d = evs L0 z0 ∧ zok z0 ∧ ENZ z0 s ∧ y_taken v j = nI L0.length) ∧ y_stageOf v j = nI (d_s d) ∧ y_began v j = lN (d_B0 d)
def RJ (ns cc t : Nat) (LG : List Lg) (j : Nat) (u : SX) (v : SY) (s : Sb) : Prop :=
  RepU u j s ∧ RepW v j s ∧ x_subRequests u j = y_asked v j ∧ (∃ r, r ≤ 32 ∧ y_asked v j = nI r) ∧ (s.1 = 0 → ∃ d, RJa ns cc t LG j u v s d)
def RXg (ns : Nat) (K A B : Nat → Nat) (oa ob : Nat → Int32) (t : Nat) (LG : List Lg) (u : SX) : Prop := TXt ns K A B oa ob (x_st2 u) ∧ x_time u = nI t ∧ x_sent u = nI LG.length ∧ RepS u []
def RYg (ns : Nat) (K A B : Nat → Nat) (oa ob : Nat → Int32) (cc t : Nat) (LG : List Lg) (v : SY) : Prop := TYt ns K A B oa ob (y_kind v) (y_opA v) (y_opB v) ∧ y_stages v = nI ns ∧ y_now v = nI t ∧ y_heard v = nI LG.length ∧ YL (y_heardBy v) (y_what v) (y_said v) (y_when v) LG ∧ y_calls v = lN cc
def RC (cc t : Nat) (LG : List Lg) : Prop := t ≤ 200 ∧ LG.length ≤ 32 ∧ LG.Pairwise (fun x y => x.2.2.2 ≤ y.2.2.2) ∧ CQ cc t (whs LG)
def SE (u : SX) (v : SY) : Prop := ∀ s, s < 3 → ∃ b : Bool, x_sourceEnded u s = bI b ∧ y_over v s = bI b
def i_Rel (k : Nat) (u : SX) (v : SY) : Prop := ∃ (ns : Nat) (K A B : Nat → Nat) (oa ob : Nat → Int32) (cc t : Nat) (LG : List Lg) (S : Nat → Sb), cc ≤ k ∧ RXg ns K A B oa ob t LG u ∧ RYg ns K A B oa ob cc t LG v ∧ RC cc t LG ∧ SE u v ∧ ∀ j, j < 3 → RJ ns cc t LG j u v (S j)
theorem rl_TR {ns j : Nat} {d : Dt} {v : SY} {s : Sb} (hj : j < 3) (h : DYt ns d v) : TR (d_E j d s) :=
  ly_TR hj h.2.1.1 h.2.2.1 h.2.2.2.1 (tr_ok h.2.1.1 13 0 _ h.2.2.1 h.2.2.2.2)
theorem rl_pos {ns : Nat} {d : Dt} {v : SY} (h : DYt ns d v) : 1 ≤ d_z d := tr_pos h.2.1.1 h.2.2.1
/-- the count of what the root has said, and the subscription's state there, set anew -/
theorem ar_reb {j n t0 M0 h0 t1 M1 h1 t M B0 cc : Nat} {K A B sg us : Nat → Nat} {oa ob : Nat → Int32} {c0 c1 cf : Nat → Nat} {lg0 lg1 lf : Nat → List Lg} {L0 L1 LG : List Lg} {s0 s1 : Sb} {u : SX} {H : Nat → List Ev} {F : Nat → Nat} {bg : Nat → Bool} (h : AR (eU (mkE j n t0 M0 h0 K A B sg us oa ob c0 lg0 L0 s0) t M cf lf LG) B0 cc u H F bg) (hh : h1 ≤ (H (n - 1)).length) (hr : RepU u j (((H (n - 1)).drop h1).foldl evf s1)) : AR (eU (mkE j n t1 M1 h1 K A B sg us oa ob c1 lg1 L1 s1) t M cf lf LG) B0 cc u H F bg := by
  obtain ⟨⟨⟨i1, i2, i3, i4, i5, i6, i7, i8, i9, i10⟩, hC, hS, hD, hC2, hroot, hCW⟩, hB, hmv, hpz⟩ := h
  exact ⟨⟨⟨i1, i2, i3, i4, ⟨hh, hr⟩, i6, i7, i8, i9, i10⟩, hC, hS, hD, hC2, hroot, hCW⟩, hB, hmv, hpz⟩
/-- one subscription after the component's part of a call, before the reference's go -/
def NXT (ns cc t : Nat) (LG : List Lg) (j : Nat) (s : Sb) (u : SX) (v : SY) (d : Dt) (ex : List Ev) : Prop :=
  DYt ns d v ∧ CQ cc t (d_B0 d :: whs LG) ∧ (∃ bf, SOL (gE j (d_z d) (d_K d) (d_A d) (d_B d) (d_sg d) (d_us d) (d_oa d) (d_ob d)) (d_B0 d) LG t (d_H d) bf) ∧ (∃ L0 z0, d_R d = evs L0 z0 ++ ex ∧ ENZ z0 s ∧ y_taken v j = nI L0.length) ∧ y_stageOf v j = nI (d_s d) ∧ y_began v j = lN (d_B0 d) ∧ RepU u j (ex.foldl evf s) ∧ ((ex.foldl evf s).1 = 0 → ACT cc t LG j d (ex.foldl evf s) u)
theorem sol_g {j n t0 M0 h0 B0 t : Nat} {K A B sg us : Nat → Nat} {oa ob : Nat → Int32} {c0 : Nat → Nat} {lg0 : Nat → List Lg} {L0 LG : List Lg} {s0 : Sb} {H : Nat → List Ev} {bf : Nat → Option Nat} (h : SOL (mkE j n t0 M0 h0 K A B sg us oa ob c0 lg0 L0 s0) B0 LG t H bf) : SOL (gE j n K A B sg us oa ob) B0 LG t H bf := by
  refine ⟨⟨h.1.1, h.1.2.1, h.1.2.2⟩, fun q hq => ?_⟩
  have h2 := h.2 q hq
  cases hb : bf q with
  | none => rw [hb] at h2; exact h2
  | some fr => rw [hb] at h2; exact h2
theorem rj_next {ns cc t cc' t' j : Nat} {LG lx LG2 : List Lg} {u u' : SX} {v v2 : SY} {s : Sb} {d : Dt} (hj : j < 3) (h : RJa ns cc t LG j u v s d) (h0 : s.1 = 0) (hcc' : cc' < 3000000000) (htt : t ≤ t') (hL2 : LG2 = LG ++ lx) (hlx : ∀ g ∈ lx, mo t 1 (cc + 1) ≤ g.2.2.2) (hQ : CQ cc' t' (d_B0 d :: whs LG2))
    (hP : (∃ M H F bg, M < mo t' 1 (cc' + 1) ∧ AR (eU (d_E j d s) t' M (fun _ => t') (fun _ => LG2) LG2) (d_B0 d) cc' u' H F bg ∧ (FS (d_E j d s) H).1 = 0) ∨ FIN (d_E j d s) (d_B0 d) t' LG2 u')
    (hv : y_kind v2 = y_kind v ∧ y_opA v2 = y_opA v ∧ y_opB v2 = y_opB v ∧ y_taken v2 j = y_taken v j ∧ y_stageOf v2 j = y_stageOf v j ∧ y_began v2 j = y_began v j) : ∃ d' ex, NXT ns cc' t' LG2 j s u' v2 d' ex := by
  obtain ⟨a1, a2, ⟨M0, F0', bg0, hM0, hA0⟩, ⟨L0, z0, b1, b2, b3, b4⟩, a9, a10⟩ := h
  obtain ⟨v1, v2', v3, v4, v5, v6⟩ := hv
  have hTR : TR (d_E j d s) := rl_TR hj a1
  have hpos := rl_pos a1
  have hroot : d_z d - 1 < e_n (d_E j d s) := by show d_z d - 1 < d_z d; omega
  have hcu0 := ad_cu hA0.1 hA0.2.1
  have hDY : ∀ H, DYt ns (d_up d H) v2 := by
    intro H
    refine ⟨a1.1, ?_, a1.2.2⟩
    rw [v1, v2', v3]
    exact a1.2.1
  have hmb : ∀ H' bf', SOL (d_E j d s) (d_B0 d) LG2 t' H' bf' → ∀ q, q < e_n (d_E j d s) → ∀ fr, bf' q = some fr → ∀ e ∈ H' q, fr ≤ e.2.2 := fun H' bf' hS q hq fr hf e he => ((so_mom hTR hS (cq_cms hcc' hQ) q hq).2 fr hf).2 e he
  have hcut : ∀ H' bf', SOL (d_E j d s) (d_B0 d) LG2 t' H' bf' → ∃ ex, H' (d_z d - 1) = d_R d ++ ex := by
    intro H' bf' hS
    obtain ⟨ex, e1, _⟩ := so_cut hTR hcu0 hS (fun q hq => ⟨htt, lx, hL2, fun g hg => by have := hlx g hg; omega⟩) (hmb H' bf' hS) (d_z d - 1) hroot
    exact ⟨ex, e1⟩
  rcases hP with ⟨M, H1, F1, bg1, hM, hA, hs⟩ | ⟨t1, M1, c1, lg1, LG1, H1, F1, bg1, hc1, hc2, hc3, hc4⟩
  · have hcu := ad_cu hA.1 hA.2.1
    have hS : SOL (d_E j d s) (d_B0 d) LG2 t' H1 (fun q => if bg1 q = true then some (F1 q) else none) := so_cu (E := eU (d_E j d s) t' M (fun _ => t') (fun _ => LG2) LG2) hTR (fun _ _ => rfl) (fun _ _ => rfl) hcu
    obtain ⟨ex, hex⟩ := hcut _ _ hS
    have hfs : FS (d_E j d s) H1 = ex.foldl evf s := by
      show ((H1 (d_z d - 1)).drop (d_R d).length).foldl evf s = _
      rw [hex, List.drop_left]
    have hru : RepU u' j (ex.foldl evf s) := by
      have := hA.1.1.2.2.2.2.1.2
      rw [← hfs]; exact this
    refine ⟨d_up d H1, ex, hDY H1, hQ, ⟨_, sol_g hS⟩, ⟨L0, z0, ?_, b3, v4.trans b4⟩, v5.trans a9, v6.trans a10, hru, fun hz => ⟨M, F1, bg1, hM, ?_⟩⟩
    · rw [← b1]; exact hex
    · refine ar_reb hA (Nat.le_refl _) ?_
      show RepU u' j (((H1 (d_z d - 1)).drop (H1 (d_z d - 1)).length).foldl evf (ex.foldl evf s))
      rw [List.drop_length]
      exact hru
  · obtain ⟨H', bf', hS⟩ := so_exists (d_E j d s) (d_B0 d) t' LG2 hTR
    obtain ⟨ex, hex⟩ := hcut H' bf' hS
    obtain ⟨ex1, he1, _⟩ := so_cut hTR hc1 hS hc2 (hmb H' bf' hS) (d_z d - 1) hroot
    have hf1 : FS (d_E j d s) H1 = ((H1 (d_z d - 1)).drop (d_R d).length).foldl evf s := rfl
    have hfs : ex.foldl evf s = FS (d_E j d s) H1 := by
      by_cases hl : (d_R d).length ≤ (H1 (d_z d - 1)).length
      · have e2 : ex = (H1 (d_z d - 1)).drop (d_R d).length ++ ex1 := by
          have h4 := congrArg (List.drop (d_R d).length) (hex.symm.trans he1)
          rw [List.drop_left, List.drop_append_of_le_length hl] at h4
          exact h4
        rw [e2, List.foldl_append, ← hf1]
        exact ev_dead hc4 ex1
      · exfalso
        have h5 : (H1 (d_z d - 1)).drop (d_R d).length = [] := List.drop_eq_nil_iff.mpr (by omega)
        rw [hf1, h5] at hc4
        exact hc4 h0
    refine ⟨d_up d H', ex, hDY H', hQ, ⟨bf', sol_g hS⟩, ⟨L0, z0, ?_, b3, v4.trans b4⟩, v5.trans a9, v6.trans a10, ?_, fun hz => absurd hz ?_⟩
    · rw [← b1]; exact hex
    · rw [hfs]; exact hc3
    · rw [hfs]; exact hc4
theorem rl_ry {ns cc t : Nat} {K A B : Nat → Nat} {oa ob : Nat → Int32} {LG : List Lg} {v v' : SY} (h : y_cst v' = y_cst v) (hY : RYg ns K A B oa ob cc t LG v) : RYg ns K A B oa ob cc t LG v' := by
  obtain ⟨h1, h2, h3, h4, h5, h6, h7, h8, h9, h10, h11, h12, h13, h14, h15⟩ := yx_ycst h
  unfold RYg at hY ⊢
  rw [h1, h2, h3, h4, h5, h6, h7, h8, h9, h10, h11]
  exact hY
/-- go of the reference gives the relation again -/
theorem rl_go {post : SY → Prop} {k ns cc t : Nat} {K A B : Nat → Nat} {oa ob : Nat → Int32} {LG : List Lg} {u : SX} {v : SY} (S : Nat → Sb) (hk : cc ≤ k) (hcc : cc < 3000000000) (hX : RXg ns K A B oa ob t LG u) (hY : RYg ns K A B oa ob cc t LG v) (hC : RC cc t LG) (hSE : SE u v) (hW : ∀ j, j < 3 → RepW v j (S j)) (hq : ∀ j, j < 3 → x_subRequests u j = y_asked v j ∧ ∃ r, r ≤ 32 ∧ y_asked v j = nI r) (hN : ∀ j, j < 3 → ((S j).1 = 0 → ∃ d ex, NXT ns cc t LG j (S j) u v d ex) ∧ ((S j).1 ≠ 0 → RepU u j (S j))) (KK : ∀ v', i_Rel k u v' → y_cst v' = y_cst v → post v') : wpY_go post v := by
  have hch : ∀ j, j < 3 → ∃ a : Dt × List Ev × (Nat → Option Nat) × List (Int32 × Nat) × Option (Int32 × Nat), (S j).1 = 0 → DYt ns a.1 v ∧ CQ cc t (d_B0 a.1 :: whs LG) ∧ SOL (gE j (d_z a.1) (d_K a.1) (d_A a.1) (d_B a.1) (d_sg a.1) (d_us a.1) (d_oa a.1) (d_ob a.1)) (d_B0 a.1) LG t (d_H a.1) a.2.2.1 ∧ d_R a.1 = evs a.2.2.2.1 a.2.2.2.2 ++ a.2.1 ∧ ENZ a.2.2.2.2 (S j) ∧ y_taken v j = nI a.2.2.2.1.length ∧ y_stageOf v j = nI (d_s a.1) ∧ y_began v j = lN (d_B0 a.1) ∧ RepU u j (a.2.1.foldl evf (S j)) ∧ ((a.2.1.foldl evf (S j)).1 = 0 → ACT cc t LG j a.1 (a.2.1.foldl evf (S j)) u) := by
    intro j hj
    by_cases h0 : (S j).1 = 0
    · obtain ⟨d, ex, n1, n2, ⟨bf, n3⟩, ⟨L0, z0, n4, n5, n6⟩, n7, n8, n9, n10⟩ := (hN j hj).1 h0
      exact ⟨(d, ex, bf, L0, z0), fun _ => ⟨n1, n2, n3, n4, n5, n6, n7, n8, n9, n10⟩⟩
    · exact ⟨((0, fun _ => 0, fun _ => 0, fun _ => 0, fun _ => 0, fun _ => 0, 0, 0, fun _ => 0, fun _ => 0, fun _ => []), [], fun _ => none, [], none), fun h => absurd h h0⟩
  obtain ⟨f, hf⟩ := ch3 hch
  refine yx_go (t := t) (LG := LG) (fun j => d_n (f j).1) (fun j => d_K (f j).1) (fun j => d_A (f j).1) (fun j => d_B (f j).1) (fun j => d_oa (f j).1) (fun j => d_ob (f j).1) (fun j => d_s (f j).1) (fun j => d_B0 (f j).1) (fun j => d_sg (f j).1) (fun j => d_us (f j).1) (fun j => d_H (f j).1) (fun j => (f j).2.2.1) (fun j => (f j).2.2.2.1) (fun j => (f j).2.2.2.2) (fun j => (f j).2.1) S ?_ hC.1 hC.2.1 hC.2.2.1 hW ?_ ?_
  · intro j hj h0
    obtain ⟨n1, _⟩ := hf j hj h0
    exact ⟨n1.2.1, hY.2.2.1, hY.2.2.2.1, hY.2.2.2.2.1⟩
  · intro j hj h0
    obtain ⟨n1, n2, n3, n4, n5, n6, n7, n8, n9, n10⟩ := hf j hj h0
    exact ⟨⟨n1.2.2.1, n1.2.2.2.1, n1.2.2.2.2, n3, cq_cms hcc n2⟩, n7, n8, n6, n4, n5⟩
  · intro v' hc h1 h2
    have hcst := yx_ycst hc
    obtain ⟨c1, c2, c3, c4, c5, c6, c7, c8, c9, c10, c11, c12, c13, c14, c15⟩ := hcst
    refine KK v' ⟨ns, K, A, B, oa, ob, cc, t, LG, fun j => if (S j).1 = 0 then (f j).2.1.foldl evf (S j) else S j, hk, hX, rl_ry hc hY, hC, fun s hs => ?_, fun j hj => ?_⟩ hc
    · rw [c12]; exact hSE s hs
    · have hr1 := h1 j hj
      have hqj := hq j hj
      show RJ ns cc t LG j u v' (if (S j).1 = 0 then (f j).2.1.foldl evf (S j) else S j)
      by_cases h0 : (S j).1 = 0
      · obtain ⟨n1, n2, n3, n4, n5, n6, n7, n8, n9, n10⟩ := hf j hj h0
        have hr2 := h2 j hj h0
        rw [if_pos h0] at hr1 ⊢
        refine ⟨n9, hr1, by rw [c15]; exact hqj.1, by rw [c15]; exact hqj.2, fun hz => ⟨(f j).1, ?_⟩⟩
        obtain ⟨L, z, g1, g2, g3⟩ := hr2
        refine ⟨⟨n1.1, ?_, n1.2.2⟩, n2, n10 hz, ⟨L, z, g1.symm, g2, (g3 hz).2, (g3 hz).1⟩, ?_, ?_⟩
        · rw [c5, c6, c7]; exact n1.2.1
        · rw [c13]; exact n7
        · rw [c14]; exact n8
      · rw [if_neg h0] at hr1 ⊢
        exact ⟨(hN j hj).2 h0, hr1, by rw [c15]; exact hqj.1, by rw [c15]; exact hqj.2, fun hz => absurd hz h0⟩
