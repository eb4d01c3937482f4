/-! ===== subscribe of the component ===== -/
def SA (id ns : Nat) : St2 → St2 → Prop
  | (ti, se, _, _, sk, sa, sb, _, ps, pu, px, py, _), (ti', se', _, _, sk', sa', sb', _, ps', pu', px', py', _) =>
    ti' = ti ∧ se' = se ∧ (∀ σ, σ < ns → sk' σ = sk σ ∧ sa' σ = sa σ ∧ sb' σ = sb σ) ∧ ∀ j, 9 * id ≤ j → j < 9 * id + 9 → ps' j = ps j ∧ pu' j = pu j ∧ px' j = px j ∧ py' j = py j
def FO2 (id ns : Nat) (u u' : SX) : Prop :=
  SA id ns (x_st2 u) (x_st2 u') ∧ (∀ j, 9 * id ≤ j → j < 9 * id + 9 → (∀ S, RepP u j S → RepP u' j S) ∧ x_phase u' j = x_phase u j ∧ x_beganAfter u' j = x_beganAfter u j) ∧ (∀ s, RepU u id s → RepU u' id s) ∧ RepS u' []
theorem sb_xs {E : EnvP} {ns : Nat} {z z' : St2} (hT : TR E) (hsg : ∀ p, p < e_n E → e_sg E p < ns) (h : XS E z) (hA : SA (e_id E) ns z z') : XS E z' := by
  obtain ⟨ti, se, sc, so, sk, sa, sb, sp, ps, pu, px, py, sr⟩ := z
  obtain ⟨ti', se', sc', so', sk', sa', sb', sp', ps', pu', px', py', sr'⟩ := z'
  obtain ⟨h1, h2, h3, h4⟩ := hA
  have h9 := hT.2.2.1
  refine ⟨h1.trans h.1, fun p hp => ?_⟩
  obtain ⟨k1, k2, k3⟩ := h.2 p hp
  obtain ⟨a1, a2, a3, a4, a5, a6, a7, a8, a9⟩ := k1
  have hj := h4 (ab E p) (by unfold ab; omega) (by unfold ab; omega)
  have hσ := h3 _ (hsg p hp)
  refine ⟨⟨a1, h1.trans a2, a3, hj.1.trans a4, a5, hσ.1.trans a6, hσ.2.1.trans a7, hσ.2.2.trans a8, a9⟩, ⟨fun g => ⟨hj.2.2.1.trans (k2.1 g).1, (k2.1 g).2⟩, fun g => ⟨hj.2.2.2.trans (k2.2 g).1, (k2.2 g).2⟩⟩, hj.2.1.trans k3⟩
theorem sb_sent {id ns : Nat} {u u' : SX} (h : SA id ns (x_st2 u) (x_st2 u')) : x_sent u' = x_sent u := h.2.1
theorem sb_rst {E : EnvP} {ns : Nat} {u u' : SX} {H : Nat → List Ev} {F : Nat → Nat} {bg : Nat → Bool} (hT : TR E) (hsg : ∀ p, p < e_n E → e_sg E p < ns) (h : RST E u H F bg) (hf : FO2 (e_id E) ns u u') : RST E u' H F bg := by
  obtain ⟨hI, hC, hS, hD, hC2, hroot, hCW⟩ := h
  obtain ⟨i1, i2, i3, i4, i5, i6, i7, i8, i9, i10⟩ := hI
  obtain ⟨f1, f2, f3, f4⟩ := hf
  have h9 := hT.2.2.1
  have hab : ∀ q, q < e_n E → 9 * e_id E ≤ ab E q ∧ ab E q < 9 * e_id E + 9 := fun q hq => by unfold ab; omega
  refine ⟨⟨sb_xs hT hsg i1 f1, fun q hq => by rw [(f2 _ (hab q hq).1 (hab q hq).2).2.1]; exact i2 q hq, i3, i4, ⟨i5.1, f3 _ i5.2⟩, i6, i7, i8, fun q hq hb => by rw [(f2 _ (hab q hq).1 (hab q hq).2).2.2]; exact i9 q hq hb, by rw [sb_sent f1]; exact i10⟩, fun q hq => ?_, f4, hD, hC2, hroot, hCW⟩
  have hc := hC q hq
  have hr := (f2 _ (hab q hq).1 (hab q hq).2).1
  exact ⟨fun hb => ⟨(hc.1 hb).1, fun hf => ⟨hr _ ((hc.1 hb).2 hf).1, ((hc.1 hb).2 hf).2⟩⟩, fun hb => hr _ (hc.2 hb)⟩
theorem sb_ar {E : EnvP} {ns B0 cc : Nat} {u u' : SX} {H : Nat → List Ev} {F : Nat → Nat} {bg : Nat → Bool} (hT : TR E) (hsg : ∀ p, p < e_n E → e_sg E p < ns) (h : AR E B0 cc u H F bg) (hf : FO2 (e_id E) ns u u') : AR E B0 cc u' H F bg := by
  obtain ⟨hR, hB, hmv, hpz⟩ := h
  refine ⟨sb_rst hT hsg hR hf, hB, hmv, fun k h1 h2 => ?_⟩
  rw [(hf.2.1 (9 * e_id E + k) (by omega) (by omega)).2.1]
  exact hpz k h1 h2
/-- the tables of the component -/
def TXt (ns : Nat) (K A B : Nat → Nat) (oa ob : Nat → Int32) : St2 → Prop
  | (_, _, sc, _, sk, sa, sb, sp, _, _, _, _, _) => TB K A B ns ∧ sc = nI ns ∧ ∀ σ, σ < ns → sk σ = nI (K σ) ∧ sa σ = oa σ ∧ sb σ = ob σ ∧ sp σ = nI (sz K A B σ) ∧ opk (K σ) (oa σ) (ob σ) ∧ (3 ≤ K σ → oa σ = nI (A σ)) ∧ (16 ≤ K σ → ob σ = nI (B σ))
theorem sb_TA {ns : Nat} {K A B : Nat → Nat} {oa ob : Nat → Int32} {ti se sc : Int32} {so sk sa sb sp ps pu px py sr : Nat → Int32} (h : TXt ns K A B oa ob (ti, se, sc, so, sk, sa, sb, sp, ps, pu, px, py, sr)) : TA ns K A B sk sa sb sp := by
  intro σ hσ
  obtain ⟨a1, a2, a3, a4, a5, a6, a7⟩ := h.2.2 σ hσ
  exact ⟨a1, fun g => by rw [a2]; exact a6 g, fun g => by rw [a3]; exact a7 g, a4⟩
section
variable {f_time : Int32} {f_sent : Int32} {f_stageCount : Int32} {f_tasks : Int32} {a_sourceEnded : (Nat → Int32)} {a_stageKind : (Nat → Int32)} {a_stageA : (Nat → Int32)} {a_stageB : (Nat → Int32)} {a_stageParts : (Nat → Int32)} {a_partStage : (Nat → Int32)} {a_partUser : (Nat → Int32)} {a_partX : (Nat → Int32)} {a_partY : (Nat → Int32)} {a_phase : (Nat → Int32)} {a_beganAfter : (Nat → Int32)} {a_due : (Nat → Int32)} {a_count : (Nat → Int32)} {a_held : (Nat → Int32)} {a_heldY : (Nat → Int32)} {a_hasHeld : (Nat → Int32)} {a_hasHeldY : (Nat → Int32)} {a_queueSize : (Nat → Int32)} {a_queueIsOfX : (Nat → Int32)} {a_queueValue : (Nat → Int32)} {a_queueDue : (Nat → Int32)} {a_subStatus : (Nat → Int32)} {a_subCode : (Nat → Int32)} {a_subEnd : (Nat → Int32)} {a_subDemand : (Nat → Int64)} {a_subRequests : (Nat → Int32)} {a_subDelivered : (Nat → Int32)} {a_subWaiting : (Nat → Int32)} {a_waitValue : (Nat → Int32)} {a_history : (Nat → Int64)} {a_taskWhat : (Nat → Int32)} {a_taskPart : (Nat → Int32)} {a_taskValue : (Nat → Int32)}
theorem sb_run {post : SX → Prop} {id ns s t cc : Nat} {K A B sg us : Nat → Nat} {oa ob : Nat → Int32} {LG : List Lg} {hh : Nat → Int64} (hid : id < 3) (hX : TXt ns K A B oa ob (x_st2 (f_time, f_sent, f_stageCount, f_tasks, a_sourceEnded, a_stageKind, a_stageA, a_stageB, a_stageParts, a_partStage, a_partUser, a_partX, a_partY, a_phase, a_beganAfter, a_due, a_count, a_held, a_heldY, a_hasHeld, a_hasHeldY, a_queueSize, a_queueIsOfX, a_queueValue, a_queueDue, a_subStatus, a_subCode, a_subEnd, a_subDemand, a_subRequests, a_subDelivered, a_subWaiting, a_waitValue, a_history, a_taskWhat, a_taskPart, a_taskValue))) (hs : s < ns) (h9 : sz K A B s ≤ 9) (hL : Lok K A B sg us ns 0 s) (hr : sg (sz K A B s - 1) = s) (ht : f_time = nI t) (ht2 : t ≤ 200) (hse : f_sent = nI LG.length) (hcc : cc < 3000000000) (hLG : ∀ g ∈ LG, g.2.2.2 / 256 % 4294967296 ≤ cc + 1)
    (hph : ∀ k, k < 9 → a_phase (9 * id + k) = 0) (hcl : ∀ k, k < 9 → RepA a_due a_count a_held a_heldY a_hasHeld a_hasHeldY a_queueSize a_queueIsOfX a_queueValue a_queueDue (9 * id + k) clr) (hli : ∃ ps pu px py, LI id (sz K A B s) 0 K A B sg us ps pu px py a_partStage a_partUser a_partX a_partY) (hsub : RepB a_subStatus a_subCode a_subEnd a_subDemand a_subDelivered a_subWaiting a_waitValue a_history id (0, 0, 0, 0, 0, [], hh)) (hT0 : f_tasks = nI 0)
    (KK : ∀ u' H F bg, AR (eU (mkE id (sz K A B s) t (mo t 1 (cc + 1)) 0 K A B sg us oa ob (fun _ => t) (fun _ => LG) LG (0, 0, 0, 0, 0, [], hh)) t (mo t 1 (cc + 1)) (fun _ => t) (fun _ => LG) LG) (mo t 1 (cc + 1)) (cc + 1) u' H F bg → FR (mkE id (sz K A B s) t (mo t 1 (cc + 1)) 0 K A B sg us oa ob (fun _ => t) (fun _ => LG) LG (0, 0, 0, 0, 0, [], hh)) 0 (f_time, f_sent, f_stageCount, f_tasks, a_sourceEnded, a_stageKind, a_stageA, a_stageB, a_stageParts, a_partStage, a_partUser, a_partX, a_partY, a_phase, a_beganAfter, a_due, a_count, a_held, a_heldY, a_hasHeld, a_hasHeldY, a_queueSize, a_queueIsOfX, a_queueValue, a_queueDue, a_subStatus, a_subCode, a_subEnd, a_subDemand, a_subRequests, a_subDelivered, a_subWaiting, a_waitValue, a_history, a_taskWhat, a_taskPart, a_taskValue) u' → post u') :
    wpX_push (fun u1 => match u1 with | (f_time, f_sent, f_stageCount, f_tasks, a_sourceEnded, a_stageKind, a_stageA, a_stageB, a_stageParts, a_partStage, a_partUser, a_partX, a_partY, a_phase, a_beganAfter, a_due, a_count, a_held, a_heldY, a_hasHeld, a_hasHeldY, a_queueSize, a_queueIsOfX, a_queueValue, a_queueDue, a_subStatus, a_subCode, a_subEnd, a_subDemand, a_subRequests, a_subDelivered, a_subWaiting, a_waitValue, a_history, a_taskWhat, a_taskPart, a_taskValue) => wpX_runTasks post (f_time, f_sent, f_stageCount, f_tasks, a_sourceEnded, a_stageKind, a_stageA, a_stageB, a_stageParts, a_partStage, a_partUser, a_partX, a_partY, a_phase, a_beganAfter, a_due, a_count, a_held, a_heldY, a_hasHeld, a_hasHeldY, a_queueSize, a_queueIsOfX, a_queueValue, a_queueDue, a_subStatus, a_subCode, a_subEnd, a_subDemand, a_subRequests, a_subDelivered, a_subWaiting, a_waitValue, a_history, a_taskWhat, a_taskPart, a_taskValue) (nI id)) (f_time, f_sent, f_stageCount, f_tasks, a_sourceEnded, a_stageKind, a_stageA, a_stageB, a_stageParts, a_partStage, a_partUser, a_partX, a_partY, a_phase, a_beganAfter, a_due, a_count, a_held, a_heldY, a_hasHeld, a_hasHeldY, a_queueSize, a_queueIsOfX, a_queueValue, a_queueDue, a_subStatus, a_subCode, a_subEnd, a_subDemand, a_subRequests, a_subDelivered, a_subWaiting, a_waitValue, a_history, a_taskWhat, a_taskPart, a_taskValue) (nI 0) (nI (9 * id + (sz K A B s - 1))) 0 := by
  obtain ⟨ps0, pu0, px0, py0, hI1, hI2, hI3, hI4, hI5⟩ := hli
  have hTB := hX.1
  have hpos := tr_pos hTB hs
  have hTR := ly_TR (id := id) (t := t) (M := mo t 1 (cc + 1)) (h0 := 0) (oa := oa) (ob := ob) (c := fun _ => t) (lg := fun _ => LG) (LG := LG) (s0 := (0, 0, 0, 0, 0, [], hh)) hid hTB hs h9 hL
  have hrs0 : ∀ g ∈ LG, hrs (mo t 1 (cc + 1)) g.2.2.2 = false := fun g hg => by
    have := ts_hrs (t := t) (c := cc + 1) (b := 0) (by omega) (by omega) (hLG g hg)
    rw [Nat.add_zero] at this
    exact this
  have htim : tim (mo t 1 (cc + 1)) = t := by
    have := tim_mo (t := t) (ph := 1) (nu := cc + 1) (b := 0) (by decide) (by omega) (by omega)
    rw [Nat.add_zero] at this
    exact this
  have hck : ∀ q, q < 9 → ckm q (mo t 1 (cc + 1)) = t := fun q hq => by
    have := ts_ck (t := t) (c := cc + 1) (b := 0) hq (by omega) (by omega)
    rw [Nat.add_zero] at this
    exact this
  have hwin : ∀ q, q < 9 → tm t q ≤ mo t 1 (cc + 1) ∧ mo t 1 (cc + 1) < tm (t + 1) q := fun q hq => by
    have := ts_win (t := t) (c := cc + 1) (b := 0) hq (by omega) (by omega)
    rw [Nat.add_zero] at this
    exact this
  suffices hh0 : ∀ u1, EffN (f_time, f_sent, f_stageCount, f_tasks, a_sourceEnded, a_stageKind, a_stageA, a_stageB, a_stageParts, a_partStage, a_partUser, a_partX, a_partY, a_phase, a_beganAfter, a_due, a_count, a_held, a_heldY, a_hasHeld, a_hasHeldY, a_queueSize, a_queueIsOfX, a_queueValue, a_queueDue, a_subStatus, a_subCode, a_subEnd, a_subDemand, a_subRequests, a_subDelivered, a_subWaiting, a_waitValue, a_history, a_taskWhat, a_taskPart, a_taskValue) u1 [(0, 9 * id + (sz K A B s - 1), 0)] (x_phase (f_time, f_sent, f_stageCount, f_tasks, a_sourceEnded, a_stageKind, a_stageA, a_stageB, a_stageParts, a_partStage, a_partUser, a_partX, a_partY, a_phase, a_beganAfter, a_due, a_count, a_held, a_heldY, a_hasHeld, a_hasHeldY, a_queueSize, a_queueIsOfX, a_queueValue, a_queueDue, a_subStatus, a_subCode, a_subEnd, a_subDemand, a_subRequests, a_subDelivered, a_subWaiting, a_waitValue, a_history, a_taskWhat, a_taskPart, a_taskValue)) → wpX_runTasks post u1 (nI id) by
    refine sw_push (R := []) (xe_stk' hT0 True.intro) (by simp) (fun u1 he => ?_)
    have h2 := hh0 u1 he
    obtain ⟨f_time, f_sent, f_stageCount, f_tasks, a_sourceEnded, a_stageKind, a_stageA, a_stageB, a_stageParts, a_partStage, a_partUser, a_partX, a_partY, a_phase, a_beganAfter, a_due, a_count, a_held, a_heldY, a_hasHeld, a_hasHeldY, a_queueSize, a_queueIsOfX, a_queueValue, a_queueDue, a_subStatus, a_subCode, a_subEnd, a_subDemand, a_subRequests, a_subDelivered, a_subWaiting, a_waitValue, a_history, a_taskWhat, a_taskPart, a_taskValue⟩ := u1
    exact h2
  intro u1 he
  refine sw_run ?_
  obtain ⟨f1, f2, f3, f4, f5, f6⟩ := he
  have hXS : XS (mkE id (sz K A B s) t (mo t 1 (cc + 1)) 0 K A B sg us oa ob (fun _ => t) (fun _ => LG) LG (0, 0, 0, 0, 0, [], hh)) (x_st2 (f_time, f_sent, f_stageCount, f_tasks, a_sourceEnded, a_stageKind, a_stageA, a_stageB, a_stageParts, a_partStage, a_partUser, a_partX, a_partY, a_phase, a_beganAfter, a_due, a_count, a_held, a_heldY, a_hasHeld, a_hasHeldY, a_queueSize, a_queueIsOfX, a_queueValue, a_queueDue, a_subStatus, a_subCode, a_subEnd, a_subDemand, a_subRequests, a_subDelivered, a_subWaiting, a_waitValue, a_history, a_taskWhat, a_taskPart, a_taskValue)) := by
    refine ⟨ht, fun p hp => ?_⟩
    have hp' : p < sz K A B s := hp
    have hq := hL.1 p (by omega) (by omega)
    have h12 := hTB.1
    obtain ⟨a1, a2, a3, a4, a5, a6, a7⟩ := hX.2.2 _ hq.1
    have hps : a_partStage (9 * id + p) = nI (sg p) := by
      refine hI1 p hp' ?_
      by_cases e : p + 1 = sz K A B s
      · exact Or.inl e
      · exact Or.inr (Nat.zero_le _)
    refine ⟨⟨by show 9 * id + p < 27; omega, ht, ht2, hps, by show sg p < 12; omega, a1, a2, a3, a5⟩, ⟨fun g => ⟨(hI4 p (Nat.zero_le _) hp').1 g, ?_⟩, fun g => ⟨(hI4 p (Nat.zero_le _) hp').2 g, ?_, ?_⟩⟩, ?_⟩
    · have := hq.2.2.1 g
      show 9 * id + xcf K A B sg p < 27
      omega
    · show 9 * id + (p - 1) < 27
      omega
    · have := hq.2.2.2.1 g
      show 9 * id + xcf K A B sg p ≠ 9 * id + (p - 1)
      omega
    · show a_partUser (9 * id + p) = if p + 1 = sz K A B s then -1 else nI (9 * id + us p)
      by_cases e : p + 1 = sz K A B s
      · rw [if_pos e, show p = sz K A B s - 1 from by omega]; exact hI3
      · rw [if_neg e]; exact hI2 p (by omega) (Nat.zero_le _)
  have hIV : IV (mkE id (sz K A B s) t (mo t 1 (cc + 1)) 0 K A B sg us oa ob (fun _ => t) (fun _ => LG) LG (0, 0, 0, 0, 0, [], hh)) u1 (fun _ => []) (fun _ => 0) (fun _ => false) := by
    refine ⟨by rw [f1]; exact hXS, fun q hq => ?_, fun q hq e he => absurd he (by simp), fun q hq hb => Bool.noConfusion hb, ⟨Nat.zero_le _, ca_sub f2 _ _ (xe_ru' hsub)⟩, fun q hq hk hb => Bool.noConfusion hb, fun q hq _ => rfl, fun q hq hb => Bool.noConfusion hb, fun q hq hb => Bool.noConfusion hb, by rw [ca_sent f1]; exact hse⟩
    rw [f3]
    have hq' : q < sz K A B s := hq
    exact hph q (by omega)
  have hCL : ∀ q, q < sz K A B s → CL (mkE id (sz K A B s) t (mo t 1 (cc + 1)) 0 K A B sg us oa ob (fun _ => t) (fun _ => LG) LG (0, 0, 0, 0, 0, [], hh)) u1 (fun _ => []) (fun _ => 0) (fun _ => false) q := fun q hq => ⟨fun hb => Bool.noConfusion hb, fun _ => f5 _ _ (xe_rep' (hcl q (by omega)))⟩
  have hlo : lof K A B sg (sz K A B s - 1) = 0 := by unfold lof; rw [hr]; omega
  have h310 : e3 10 = 29524 := by decide
  refine cz_beg (z := sz K A B s - 1) hTR htim ht2 ⟨fun q hq g hg => hrs0 g hg, hrs0⟩ (show sz K A B s - 1 < sz K A B s by omega) 0 [] u1 (fun _ => []) (fun _ => 0) (fun _ => false) (show sz K A B s - 1 < sz K A B s by omega) hIV (fun q h1 h2 => hCL q h2) (fun z hz h16 h19 h1 h2 e he => absurd he (by simp)) (fun q h1 h2 => hck q (by have h2' : q < sz K A B s := h2; omega)) (fun q _ _ => rfl) (fun h => by have h' : sz K A B s - 1 + 1 < sz K A B s := h; omega) (fun q hq hk hy => ?_) f6 ?_ ?_ ?_
  · exfalso
    have h8 := hTR.2.2.2.2.2.2.2.1 q hq (by have hk' : 19 ≤ K (sg q) := hk; show 16 ≤ K (sg q); omega)
    have hq' : q < sz K A B s := hq
    rw [hy] at h8
    have := h8.1
    omega
  · show [].length + 3 + 10 * (9 - lof K A B sg (sz K A B s - 1)) + (sz K A B s - 1 - lof K A B sg (sz K A B s - 1)) ≤ 128
    rw [hlo]; simp; omega
  · show 0 + e3 (10 - lof K A B sg (sz K A B s - 1)) ≤ 1000000 + e3 (9 - (sz K A B s - 1))
    rw [hlo, Nat.sub_zero, h310]; omega
  · intro x' u' H' F' bg' k1 k2 k3 k4 k5 k6 k7 k8
    have k1' : x' + e3 (9 - (sz K A B s - 1)) ≤ 0 + e3 (10 - lof K A B sg (sz K A B s - 1)) := k1
    rw [hlo, Nat.sub_zero, h310] at k1'
    have k3' : ∀ q, q < sz K A B s → CL (mkE id (sz K A B s) t (mo t 1 (cc + 1)) 0 K A B sg us oa ob (fun _ => t) (fun _ => LG) LG (0, 0, 0, 0, 0, [], hh)) u' H' F' bg' q := fun q hq => k3 q (by show lof K A B sg (sz K A B s - 1) ≤ q; rw [hlo]; exact Nat.zero_le _) hq
    have hFq : ∀ q, q < sz K A B s → bg' q = true → F' q = mo t 1 (cc + 1) := fun q hq hb => by
      rcases k6.2.2.2.1 q hq hb with y | y
      · exact Bool.noConfusion y
      · exact y.1
    have hfr : FR (mkE id (sz K A B s) t (mo t 1 (cc + 1)) 0 K A B sg us oa ob (fun _ => t) (fun _ => LG) LG (0, 0, 0, 0, 0, [], hh)) 0 u1 u' := fr_mono (Nat.zero_le _) k6.1
    have hfr1 : FR (mkE id (sz K A B s) t (mo t 1 (cc + 1)) 0 K A B sg us oa ob (fun _ => t) (fun _ => LG) LG (0, 0, 0, 0, 0, [], hh)) 0 (f_time, f_sent, f_stageCount, f_tasks, a_sourceEnded, a_stageKind, a_stageA, a_stageB, a_stageParts, a_partStage, a_partUser, a_partX, a_partY, a_phase, a_beganAfter, a_due, a_count, a_held, a_heldY, a_hasHeld, a_hasHeldY, a_queueSize, a_queueIsOfX, a_queueValue, a_queueDue, a_subStatus, a_subCode, a_subEnd, a_subDemand, a_subRequests, a_subDelivered, a_subWaiting, a_waitValue, a_history, a_taskWhat, a_taskPart, a_taskValue) u1 := ⟨f1, fun j _ S h => f5 j S h, fun j _ => ⟨by rw [f3], by rw [f4]⟩, fun j _ s' hs' => ca_sub f2 j s' hs'⟩
    refine sw_end (by omega) k5 (KK u' H' F' bg' ⟨⟨k2, k3', k5, fun q hq hb => ?_, fun q hq hk => ?_, k7, fun q hq => hwin q (by have hq' : q < sz K A B s := hq; omega)⟩, k8, fun q hq hb => ?_, fun k h1 h2 => ?_⟩ (fr_trans hfr1 hfr))
    · rcases k6.2.2.2.1 q hq hb with y | y
      · exact Bool.noConfusion y
      · exact y.2
    · exact k6.2.2.2.2.1 q hq hk (fun e he _ => absurd he (by simp))
    · rw [hFq q hq hb]
      intro _
      have := (ts_num (t := t) (c := cc + 1) (b := 0) (by omega) (by omega)).2
      rw [Nat.add_zero] at this
      omega
    · have h1' : sz K A B s ≤ k := h1
      have := (hfr.2.2.1 (9 * id + k) (Or.inr (by show 9 * id + sz K A B s ≤ 9 * id + k; omega))).1
      rw [show 9 * e_id (eU (mkE id (sz K A B s) t (mo t 1 (cc + 1)) 0 K A B sg us oa ob (fun _ => t) (fun _ => LG) LG (0, 0, 0, 0, 0, [], hh)) t (mo t 1 (cc + 1)) (fun _ => t) (fun _ => LG) LG) + k = 9 * id + k from rfl, this, f3]
      exact hph k h2
end
