/-! ===== clearing and laying out parts; the tree of an environment ===== -/
def mkE (id n t M h0 : Nat) (K A B sg us : Nat → Nat) (oa ob : Nat → Int32) (c : Nat → Nat) (lg : Nat → List Lg) (LG : List Lg) (s0 : Sb) : EnvP := (M, c, lg, t, LG, id, n, h0, fun p => K (sg p), us, xcf K A B sg, ycf, lof K A B sg, sg, fun p => oa (sg p), fun p => ob (sg p), s0)
theorem ly_TR {id t M h0 ns s : Nat} {K A B sg us : Nat → Nat} {oa ob : Nat → Int32} {c : Nat → Nat} {lg : Nat → List Lg} {LG : List Lg} {s0 : Sb} (hid : id < 3) (h : TB K A B ns) (hs : s < ns) (h9 : sz K A B s ≤ 9) (hL : Lok K A B sg us ns 0 s) : TR (mkE id (sz K A B s) t M h0 K A B sg us oa ob c lg LG s0) := by
  obtain ⟨L1, L2⟩ := hL
  have hp := tr_pos h hs
  refine ⟨hid, hp, h9, fun p hp => ?_, fun p hp k => ?_, fun p hp k => ?_, fun p hp k k2 => ?_, fun p hp k => ?_, fun p hp => ?_, fun w hw p h1 h2 => ?_, fun w hw p h1 h2 => ?_⟩
  · have hp' : p < sz K A B s := hp
    have q := L1 p (by omega) (by omega)
    have := tr_pos h q.1
    show lof K A B sg p ≤ p
    unfold lof; omega
  · have hp' : p < sz K A B s := hp
    have q := L1 p (by omega) (by omega)
    have k' : K (sg p) < 3 := k
    show lof K A B sg p = p
    unfold lof
    rw [tr_sz3 h q.1 k']; omega
  · have hp' : p < sz K A B s := hp
    have k' : 3 ≤ K (sg p) := k
    have q := L1 p (by omega) (by omega)
    have q3 := q.2.2.1 k'
    refine ⟨q3.2.1, q3.2.2.1, ?_⟩
    show lof K A B sg (xcf K A B sg p) = lof K A B sg p
    have qx := L1 (xcf K A B sg p) (by omega) (by omega)
    unfold lof
    rw [q3.2.2.2]
    have e : xcf K A B sg p = if K (sg p) < 16 then p - 1 else p - 1 - sz K A B (B (sg p)) := rfl
    rcases Nat.lt_or_ge (K (sg p)) 16 with k2 | k2
    · rw [if_pos k2] at e
      rw [tr_sz1 h q.1 k' k2, e]; omega
    · rw [if_neg (by omega)] at e
      have e2 := tr_sz2 h q.1 k2
      have hb := h.2 _ q.1
      have pa := tr_pos h (show A (sg p) < ns from by have := hb.2.1 k'; omega)
      have hq2 := q.2.1
      rw [e2] at hq2 ⊢
      rw [e]; omega
  · have hp' : p < sz K A B s := hp
    have k' : 3 ≤ K (sg p) := k
    have k2' : K (sg p) < 16 := k2
    have q := L1 p (by omega) (by omega)
    have q3 := q.2.2.1 k'
    show xcf K A B sg p + 1 = p
    have e : xcf K A B sg p = if K (sg p) < 16 then p - 1 else p - 1 - sz K A B (B (sg p)) := rfl
    rw [if_pos k2'] at e
    omega
  · have hp' : p < sz K A B s := hp
    have k' : 16 ≤ K (sg p) := k
    have q := L1 p (by omega) (by omega)
    have q4 := q.2.2.2.1 k'
    refine ⟨?_, q4.1, ?_, q4.2.2⟩
    · show p - 1 + 1 = p
      omega
    · show lof K A B sg (p - 1) = xcf K A B sg p + 1
      unfold lof
      rw [q4.2.1]
      have e : xcf K A B sg p = if K (sg p) < 16 then p - 1 else p - 1 - sz K A B (B (sg p)) := rfl
      rw [if_neg (by omega)] at e
      have e2 := tr_sz2 h q.1 k'
      have hb := h.2 _ q.1
      have pa := tr_pos h (show A (sg p) < ns from by have := hb.2.1 (by omega); omega)
      have hq2 := q.2.1
      rw [e2] at hq2
      rw [e]; omega
  · have hp' : p + 1 < sz K A B s := hp
    have q := (L1 p (by omega) (by omega)).2.2.2.2 (by omega)
    exact ⟨q.1, by have := q.2.1; show us p < sz K A B s; omega, q.2.2.1, q.2.2.2⟩
  · have hw' : w < sz K A B s := hw
    exact (L2 w (by omega) (by omega) p h1).1 h2
  · have hw' : w < sz K A B s := hw
    exact (L2 w (by omega) (by omega) p h1).2 h2
section
variable {f_time : Int32} {f_sent : Int32} {f_stageCount : Int32} {f_tasks : Int32} {a_sourceEnded : (Nat → Int32)} {a_stageKind : (Nat → Int32)} {a_stageA : (Nat → Int32)} {a_stageB : (Nat → Int32)} {a_stageParts : (Nat → Int32)} {a_partStage : (Nat → Int32)} {a_partUser : (Nat → Int32)} {a_partX : (Nat → Int32)} {a_partY : (Nat → Int32)} {a_phase : (Nat → Int32)} {a_beganAfter : (Nat → Int32)} {a_due : (Nat → Int32)} {a_count : (Nat → Int32)} {a_held : (Nat → Int32)} {a_heldY : (Nat → Int32)} {a_hasHeld : (Nat → Int32)} {a_hasHeldY : (Nat → Int32)} {a_queueSize : (Nat → Int32)} {a_queueIsOfX : (Nat → Int32)} {a_queueValue : (Nat → Int32)} {a_queueDue : (Nat → Int32)} {a_subStatus : (Nat → Int32)} {a_subCode : (Nat → Int32)} {a_subEnd : (Nat → Int32)} {a_subDemand : (Nat → Int64)} {a_subRequests : (Nat → Int32)} {a_subDelivered : (Nat → Int32)} {a_subWaiting : (Nat → Int32)} {a_waitValue : (Nat → Int32)} {a_history : (Nat → Int64)} {a_taskWhat : (Nat → Int32)} {a_taskPart : (Nat → Int32)} {a_taskValue : (Nat → Int32)}
def CLR (id m : Nat) (ph pu du co he hY hH hHY qs ph' pu' du' co' he' hY' hH' hHY' qs' : Nat → Int32) : Prop :=
  (∀ k, k < m → ph' (9 * id + k) = 0 ∧ pu' (9 * id + k) = -1 ∧ du' (9 * id + k) = -1 ∧ co' (9 * id + k) = 0 ∧ he' (9 * id + k) = 0 ∧ hY' (9 * id + k) = 0 ∧ hH' (9 * id + k) = 0 ∧ hHY' (9 * id + k) = 0 ∧ qs' (9 * id + k) = 0) ∧
  (∀ j, j < 9 * id ∨ 9 * id + m ≤ j → ph' j = ph j ∧ pu' j = pu j ∧ du' j = du j ∧ co' j = co j ∧ he' j = he j ∧ hY' j = hY j ∧ hH' j = hH j ∧ hHY' j = hHY j ∧ qs' j = qs j)
theorem xl_clr2 {post : SX → Prop} {id : Nat} (hid : id < 3)
    (H : ∀ ph pu du co he hY hH hHY qs : Nat → Int32, CLR id 9 a_phase a_partUser a_due a_count a_held a_heldY a_hasHeld a_hasHeldY a_queueSize ph pu du co he hY hH hHY qs → post (f_time, f_sent, f_stageCount, f_tasks, a_sourceEnded, a_stageKind, a_stageA, a_stageB, a_stageParts, a_partStage, pu, a_partX, a_partY, ph, a_beganAfter, du, co, he, hY, hH, hHY, qs, a_queueIsOfX, a_queueValue, a_queueDue, a_subStatus, a_subCode, a_subEnd, a_subDemand, a_subRequests, a_subDelivered, a_subWaiting, a_waitValue, a_history, a_taskWhat, a_taskPart, a_taskValue)) :
    ∀ (e m : Nat) (ph pu du co he hY hH hHY qs : Nat → Int32), m + e = 9 → CLR id m a_phase a_partUser a_due a_count a_held a_heldY a_hasHeld a_hasHeldY a_queueSize ph pu du co he hY hH hHY qs → wX_clearParts_2 post (nI (9 * id)) f_time f_sent f_stageCount f_tasks (e + 1) (nI m) a_sourceEnded a_stageKind a_stageA a_stageB a_stageParts a_partStage (pu) a_partX a_partY (ph) a_beganAfter (du) (co) (he) (hY) (hH) (hHY) (qs) a_queueIsOfX a_queueValue a_queueDue a_subStatus a_subCode a_subEnd a_subDemand a_subRequests a_subDelivered a_subWaiting a_waitValue a_history a_taskWhat a_taskPart a_taskValue := by
  intro e
  induction e with
  | zero =>
    intro m ph pu du co he hY hH hHY qs hm hc
    have : m = 9 := by omega
    subst this
    exact br_t (by decide) (H _ _ _ _ _ _ _ _ _ hc)
  | succ e ih =>
    intro m ph pu du co he hY hH hHY qs hm hc
    have hin : vp_in (nI (9 * id + m)) 27 := vp_in_nI (by omega) (by decide)
    have hcl : (nI (9 * id + m)).toNatClampNeg = 9 * id + m := nI_clamp (by omega)
    refine br_f (nI_ge (b := 9) (by omega) (by decide)) (nm_r (nI_add _ _) ⟨hin, nm_r (by rw [hcl]) ⟨hin, nm_r (by rw [hcl]) ⟨hin, nm_r (by rw [hcl]) ⟨hin, nm_r (by rw [hcl]) ⟨hin, nm_r (by rw [hcl]) ⟨hin, nm_r (by rw [hcl]) ⟨hin, nm_r (by rw [hcl]) ⟨hin, nm_r (by rw [hcl]) ⟨hin, nm_r (by rw [hcl]) (nm_r (nI_1 m) ?_)⟩⟩⟩⟩⟩⟩⟩⟩⟩)
    refine ih (m + 1) _ _ _ _ _ _ _ _ _ (by omega) ⟨fun k hk => ?_, fun j hj => ?_⟩
    · by_cases hkm : k = m
      · subst hkm
        exact ⟨pk_us, pk_us, pk_us, pk_us, pk_us, pk_us, pk_us, pk_us, pk_us⟩
      · have h := hc.1 k (by omega)
        have hn : 9 * id + k ≠ 9 * id + m := by omega
        rw [pk_un hn, pk_un hn, pk_un hn, pk_un hn, pk_un hn, pk_un hn, pk_un hn, pk_un hn, pk_un hn]
        exact h
    · have h := hc.2 j (by omega)
      have hn : j ≠ 9 * id + m := by omega
      rw [pk_un hn, pk_un hn, pk_un hn, pk_un hn, pk_un hn, pk_un hn, pk_un hn, pk_un hn, pk_un hn]
      exact h
theorem xl_clr {post : SX → Prop} {id : Nat} (hid : id < 3)
    (H : ∀ ph pu du co he hY hH hHY qs : Nat → Int32, CLR id 9 a_phase a_partUser a_due a_count a_held a_heldY a_hasHeld a_hasHeldY a_queueSize ph pu du co he hY hH hHY qs → post (f_time, f_sent, f_stageCount, f_tasks, a_sourceEnded, a_stageKind, a_stageA, a_stageB, a_stageParts, a_partStage, pu, a_partX, a_partY, ph, a_beganAfter, du, co, he, hY, hH, hHY, qs, a_queueIsOfX, a_queueValue, a_queueDue, a_subStatus, a_subCode, a_subEnd, a_subDemand, a_subRequests, a_subDelivered, a_subWaiting, a_waitValue, a_history, a_taskWhat, a_taskPart, a_taskValue)) : wpX_clearParts post (f_time, f_sent, f_stageCount, f_tasks, a_sourceEnded, a_stageKind, a_stageA, a_stageB, a_stageParts, a_partStage, a_partUser, a_partX, a_partY, a_phase, a_beganAfter, a_due, a_count, a_held, a_heldY, a_hasHeld, a_hasHeldY, a_queueSize, a_queueIsOfX, a_queueValue, a_queueDue, a_subStatus, a_subCode, a_subEnd, a_subDemand, a_subRequests, a_subDelivered, a_subWaiting, a_waitValue, a_history, a_taskWhat, a_taskPart, a_taskValue) (nI (9 * id)) :=
  ⟨10, xl_clr2 hid H 9 0 _ _ _ _ _ _ _ _ _ rfl ⟨fun k hk => absurd hk (by omega), fun j _ => ⟨rfl, rfl, rfl, rfl, rfl, rfl, rfl, rfl, rfl⟩⟩⟩
/-- the loop of layOutParts: parts from m on are done -/
def LI (id n m : Nat) (K A B sg us : Nat → Nat) (ps pu px py ps' pu' px' py' : Nat → Int32) : Prop :=
  (∀ p, p < n → p + 1 = n ∨ m ≤ us p → ps' (9 * id + p) = nI (sg p)) ∧
  (∀ p, p + 1 < n → m ≤ us p → pu' (9 * id + p) = nI (9 * id + us p)) ∧
  pu' (9 * id + (n - 1)) = -1 ∧
  (∀ p, m ≤ p → p < n → (3 ≤ K (sg p) → px' (9 * id + p) = nI (9 * id + xcf K A B sg p)) ∧ (16 ≤ K (sg p) → py' (9 * id + p) = nI (9 * id + (p - 1)))) ∧
  (∀ j, j < 9 * id ∨ 9 * id + 9 ≤ j → ps' j = ps j ∧ pu' j = pu j ∧ px' j = px j ∧ py' j = py j)
def TA (ns : Nat) (K A B : Nat → Nat) (sk sa sb sp : Nat → Int32) : Prop := ∀ σ, σ < ns → sk σ = nI (K σ) ∧ (3 ≤ K σ → sa σ = nI (A σ)) ∧ (16 ≤ K σ → sb σ = nI (B σ)) ∧ sp σ = nI (sz K A B σ)
theorem xl_low {a : Nat} (h : a < 1000) : nI a + (-1) < nI a := by
  cases a with
  | zero => decide
  | succ a => rw [pk_m1]; exact nI_lt (by omega) (by omega)
theorem xl_lay2 {post : SX → Prop} {id ns s : Nat} {K A B sg us : Nat → Nat} (hid : id < 3) (hT : TB K A B ns) (hs : s < ns) (h9 : sz K A B s ≤ 9) (hL : Lok K A B sg us ns 0 s) (hA : TA ns K A B a_stageKind a_stageA a_stageB a_stageParts)
    (H : ∀ ps pu px py : Nat → Int32, LI id (sz K A B s) 0 K A B sg us a_partStage a_partUser a_partX a_partY ps pu px py → post (f_time, f_sent, f_stageCount, f_tasks, a_sourceEnded, a_stageKind, a_stageA, a_stageB, a_stageParts, ps, pu, px, py, a_phase, a_beganAfter, a_due, a_count, a_held, a_heldY, a_hasHeld, a_hasHeldY, a_queueSize, a_queueIsOfX, a_queueValue, a_queueDue, a_subStatus, a_subCode, a_subEnd, a_subDemand, a_subRequests, a_subDelivered, a_subWaiting, a_waitValue, a_history, a_taskWhat, a_taskPart, a_taskValue)) :
    ∀ (m : Nat) (ps pu px py : Nat → Int32), m ≤ sz K A B s → LI id (sz K A B s) m K A B sg us a_partStage a_partUser a_partX a_partY ps pu px py → wX_layOutParts_10 post (nI (9 * id)) f_time f_sent f_stageCount f_tasks (m + 1) (nI (9 * id + m) + (-1)) a_sourceEnded a_stageKind a_stageA a_stageB a_stageParts (ps) (pu) (px) (py) a_phase a_beganAfter a_due a_count a_held a_heldY a_hasHeld a_hasHeldY a_queueSize a_queueIsOfX a_queueValue a_queueDue a_subStatus a_subCode a_subEnd a_subDemand a_subRequests a_subDelivered a_subWaiting a_waitValue a_history a_taskWhat a_taskPart a_taskValue := by
  intro m
  induction m with
  | zero =>
    intro ps pu px py hm hI
    exact br_t (xl_low (by omega)) (H _ _ _ _ hI)
  | succ p ih =>
    intro ps pu px py hm hI
    obtain ⟨I1, I2, I3, I4, I5⟩ := hI
    have hq := hL.1 p (by omega) (by omega)
    have e4 : nI (9 * id + (p + 1)) + (-1) = nI (9 * id + p) := by rw [show 9 * id + (p + 1) = 9 * id + p + 1 from by omega, pk_m1]
    have hin : vp_in (nI (9 * id + p)) 27 := vp_in_nI (by omega) (by decide)
    have hcl : (nI (9 * id + p)).toNatClampNeg = 9 * id + p := nI_clamp (by omega)
    have hsg : sg p < ns := hq.1
    have hsg12 : sg p < 12 := by have := hT.1; omega
    have hin12 : vp_in (nI (sg p)) 12 := vp_in_nI hsg12 (by decide)
    have hcs : (nI (sg p)).toNatClampNeg = sg p := nI_clamp (by omega)
    have htab := hA _ hsg
    have hTs := hT.2 _ hsg
    have hpsp : ps (9 * id + p) = nI (sg p) := by
      refine I1 p (by omega) ?_
      by_cases e : p + 1 = sz K A B s
      · exact Or.inl e
      · have := hq.2.2.2.2 (by omega); exact Or.inr (by omega)
    have hkk : a_stageKind (nI (sg p)).toNatClampNeg = nI (K (sg p)) := by rw [hcs]; exact htab.1
    rw [e4]
    refine br_f (nI_nlt (by omega) (by omega)) ⟨hin, nm_r (e' := nI (sg p)) (by rw [hcl]; exact hpsp) (nm_e ⟨hin12, ?_⟩)⟩
    -- those whose user is p are p's children
    have hch : ∀ r, r < sz K A B s → r + 1 ≠ sz K A B s → us r = p → 3 ≤ K (sg p) ∧ (r = xcf K A B sg p ∨ (16 ≤ K (sg p) ∧ r = p - 1)) := by
      intro r hr hr1 hu
      have := (hL.1 r (by omega) (by omega)).2.2.2.2 (by omega)
      rw [hu] at this
      refine ⟨this.2.2.1, ?_⟩
      rcases this.2.2.2 with z | z
      · exact Or.inl z.symm
      · exact Or.inr ⟨z.1, z.2.symm⟩
    by_cases k16 : K (sg p) < 16
    · refine br_t (by rw [hkk]; exact nI_lt (b := 16) k16 (by decide)) ⟨hin12, ?_⟩
      by_cases k3 : K (sg p) < 3
      · refine br_t (by rw [hkk]; exact nI_le (b := 2) (by omega) (by decide)) (nm_e ?_)
        refine ih ps pu px py (by omega) ⟨fun r hr ho => ?_, fun r hr ho => ?_, I3, fun r h1 h2 => ?_, I5⟩
        · refine I1 r hr ?_
          rcases ho with z | z
          · exact Or.inl z
          · by_cases e : us r = p
            · by_cases e1 : r + 1 = sz K A B s
              · exact Or.inl e1
              · have := hch r hr e1 e; omega
            · exact Or.inr (by omega)
        · refine I2 r hr ?_
          by_cases e : us r = p
          · have := hch r (by omega) (by omega) e; omega
          · omega
        · by_cases e : r = p
          · subst e; exact ⟨fun z => by omega, fun z => by omega⟩
          · exact I4 r (by omega) h2
      · have q3 := hq.2.2.1 (by omega)
        have ex : xcf K A B sg p = p - 1 := by unfold xcf; rw [if_pos k16]
        have e6 : nI (9 * id + p) - 1 = nI (9 * id + xcf K A B sg p) := by
          rw [ex, show (1 : Int32) = nI 1 from rfl, pk_sub (by omega)]; congr 1; omega
        have hin6 : vp_in (nI (9 * id + xcf K A B sg p)) 27 := vp_in_nI (by omega) (by decide)
        have hcl6 : (nI (9 * id + xcf K A B sg p)).toNatClampNeg = 9 * id + xcf K A B sg p := nI_clamp (by omega)
        rw [e6]
        refine br_f (by rw [hkk]; exact nI_ge (a := 2) (by omega) (by omega)) ⟨hin12, hin6, nm_r (e' := upd ps (9 * id + xcf K A B sg p) (nI (A (sg p)))) (by rw [hcl6, hcs, htab.2.1 (by omega)]) ⟨hin6, nm_r (e' := upd pu (9 * id + xcf K A B sg p) (nI (9 * id + p))) (by rw [hcl6]) ⟨hin, nm_r (e' := upd px (9 * id + p) (nI (9 * id + xcf K A B sg p))) (by rw [hcl]) (nm_e ?_)⟩⟩⟩
        refine ih _ _ _ _ (by omega) ⟨fun r hr ho => ?_, fun r hr ho => ?_, ?_, fun r h1 h2 => ?_, fun j hj => ?_⟩
        · by_cases e : r = xcf K A B sg p
          · subst e; rw [pk_us, q3.2.2.2]
          · rw [pk_un (by omega)]
            refine I1 r hr ?_
            by_cases e1 : r + 1 = sz K A B s
            · exact Or.inl e1
            · refine Or.inr ?_
              rcases ho with z | z
              · exact absurd z e1
              · by_cases e2 : us r = p
                · have := (hch r hr e1 e2).2; omega
                · omega
        · by_cases e : r = xcf K A B sg p
          · subst e; rw [pk_us, q3.2.2.1]
          · rw [pk_un (by omega)]
            refine I2 r hr ?_
            by_cases e2 : us r = p
            · have := (hch r (by omega) (by omega) e2).2; omega
            · omega
        · rw [pk_un (by omega)]; exact I3
        · by_cases e : r = p
          · subst e; exact ⟨fun _ => pk_us, fun z => by omega⟩
          · rw [pk_un (by omega)]; exact I4 r (by omega) h2
        · have := I5 j hj
          rw [pk_un (by omega), pk_un (by omega), pk_un (by omega)]
          exact this
    · have q3 := hq.2.2.1 (by omega)
      have q4 := hq.2.2.2.1 (by omega)
      have ex : xcf K A B sg p = p - 1 - sz K A B (B (sg p)) := by unfold xcf; rw [if_neg k16]
      have hBs := hTs.2.2 (by omega)
      have hAs := hTs.2.1 (by omega)
      have htb := hA _ (show B (sg p) < ns by omega)
      have h2s := tr_sz2 hT hsg (by omega)
      have pAs := tr_pos hT (show A (sg p) < ns by omega)
      have hq2 := hq.2.1
      have e7 : nI (9 * id + p) - 1 = nI (9 * id + (p - 1)) := by
        rw [show (1 : Int32) = nI 1 from rfl, pk_sub (by omega)]; congr 1; omega
      have hin7 : vp_in (nI (9 * id + (p - 1))) 27 := vp_in_nI (by omega) (by decide)
      have hcl7 : (nI (9 * id + (p - 1))).toNatClampNeg = 9 * id + (p - 1) := nI_clamp (by omega)
      have hin6 : vp_in (nI (9 * id + xcf K A B sg p)) 27 := vp_in_nI (by omega) (by decide)
      have hcl6 : (nI (9 * id + xcf K A B sg p)).toNatClampNeg = 9 * id + xcf K A B sg p := nI_clamp (by omega)
      have hsb : a_stageB (nI (sg p)).toNatClampNeg = nI (B (sg p)) := by rw [hcs]; exact htab.2.2.1 (by omega)
      have e6 : nI (9 * id + (p - 1)) - a_stageParts (a_stageB (nI (sg p)).toNatClampNeg).toNatClampNeg = nI (9 * id + xcf K A B sg p) := by
        rw [hsb, nI_clamp (by have := hT.1; omega), htb.2.2.2, pk_sub (by omega), ex]; congr 1; omega
      refine br_f (by rw [hkk]; exact nI_nlt (b := 16) (by omega) (by omega)) (nm_r e7 ⟨hin12, hin7, nm_r (e' := upd ps (9 * id + (p - 1)) (nI (B (sg p)))) (by rw [hcl7, hsb]) ⟨hin7, nm_r (e' := upd pu (9 * id + (p - 1)) (nI (9 * id + p))) (by rw [hcl7]) ⟨hin, nm_r (e' := upd py (9 * id + p) (nI (9 * id + (p - 1)))) (by rw [hcl]) ⟨hin12, by rw [hsb]; exact vp_in_nI (by have := hT.1; omega) (by decide), nm_r e6 ⟨hin12, ?_⟩⟩⟩⟩⟩)
      refine br_f (by rw [hkk]; exact nI_ge (a := 2) (by omega) (by omega)) ⟨hin12, hin6, nm_r (e' := upd (upd ps (9 * id + (p - 1)) (nI (B (sg p)))) (9 * id + xcf K A B sg p) (nI (A (sg p)))) (by rw [hcl6, hcs, htab.2.1 (by omega)]) ⟨hin6, nm_r (e' := upd (upd pu (9 * id + (p - 1)) (nI (9 * id + p))) (9 * id + xcf K A B sg p) (nI (9 * id + p))) (by rw [hcl6]) ⟨hin, nm_r (e' := upd px (9 * id + p) (nI (9 * id + xcf K A B sg p))) (by rw [hcl]) (nm_e ?_)⟩⟩⟩
      refine ih _ _ _ _ (by omega) ⟨fun r hr ho => ?_, fun r hr ho => ?_, ?_, fun r h1 h2 => ?_, fun j hj => ?_⟩
      · by_cases e : r = xcf K A B sg p
        · subst e; rw [pk_us, q3.2.2.2]
        · rw [pk_un (by omega)]
          by_cases e' : r = p - 1
          · subst e'; rw [pk_us, q4.2.1]
          · rw [pk_un (by omega)]
            refine I1 r hr ?_
            by_cases e1 : r + 1 = sz K A B s
            · exact Or.inl e1
            · refine Or.inr ?_
              rcases ho with z | z
              · exact absurd z e1
              · by_cases e2 : us r = p
                · have := (hch r hr e1 e2).2; omega
                · omega
      · by_cases e : r = xcf K A B sg p
        · subst e; rw [pk_us, q3.2.2.1]
        · rw [pk_un (by omega)]
          by_cases e' : r = p - 1
          · subst e'; rw [pk_us, q4.1]
          · rw [pk_un (by omega)]
            refine I2 r hr ?_
            by_cases e2 : us r = p
            · have := (hch r (by omega) (by omega) e2).2; omega
            · omega
      · rw [pk_un (by omega), pk_un (by omega)]; exact I3
      · by_cases e : r = p
        · subst e; exact ⟨fun _ => pk_us, fun _ => pk_us⟩
        · rw [pk_un (by omega), pk_un (by omega)]; exact I4 r (by omega) h2
      · have := I5 j hj
        rw [pk_un (by omega), pk_un (by omega), pk_un (by omega), pk_un (by omega), pk_un (by omega), pk_un (by omega)]
        exact this
theorem xl_lay {post : SX → Prop} {id ns s : Nat} {K A B sg us : Nat → Nat} (hid : id < 3) (hT : TB K A B ns) (hs : s < ns) (h9 : sz K A B s ≤ 9) (hL : Lok K A B sg us ns 0 s) (hr : sg (sz K A B s - 1) = s) (hA : TA ns K A B a_stageKind a_stageA a_stageB a_stageParts) (hpu : ∀ k, k < 9 → a_partUser (9 * id + k) = -1)
    (H : ∀ ps pu px py : Nat → Int32, LI id (sz K A B s) 0 K A B sg us a_partStage a_partUser a_partX a_partY ps pu px py → post (f_time, f_sent, f_stageCount, f_tasks, a_sourceEnded, a_stageKind, a_stageA, a_stageB, a_stageParts, ps, pu, px, py, a_phase, a_beganAfter, a_due, a_count, a_held, a_heldY, a_hasHeld, a_hasHeldY, a_queueSize, a_queueIsOfX, a_queueValue, a_queueDue, a_subStatus, a_subCode, a_subEnd, a_subDemand, a_subRequests, a_subDelivered, a_subWaiting, a_waitValue, a_history, a_taskWhat, a_taskPart, a_taskValue)) :
    wpX_layOutParts post (f_time, f_sent, f_stageCount, f_tasks, a_sourceEnded, a_stageKind, a_stageA, a_stageB, a_stageParts, a_partStage, a_partUser, a_partX, a_partY, a_phase, a_beganAfter, a_due, a_count, a_held, a_heldY, a_hasHeld, a_hasHeldY, a_queueSize, a_queueIsOfX, a_queueValue, a_queueDue, a_subStatus, a_subCode, a_subEnd, a_subDemand, a_subRequests, a_subDelivered, a_subWaiting, a_waitValue, a_history, a_taskWhat, a_taskPart, a_taskValue) (nI (9 * id)) (nI (9 * id + (sz K A B s - 1))) (nI s) := by
  have hp := tr_pos hT hs
  have hcl : (nI (9 * id + (sz K A B s - 1))).toNatClampNeg = 9 * id + (sz K A B s - 1) := nI_clamp (by omega)
  refine ⟨vp_in_nI (by omega) (by decide), nm_r (e' := upd a_partStage (9 * id + (sz K A B s - 1)) (nI s)) (by rw [hcl]) ⟨sz K A B s + 1, ?_⟩⟩
  have e4 : nI (9 * id + (sz K A B s - 1)) = nI (9 * id + sz K A B s) + (-1) := by
    rw [show 9 * id + sz K A B s = 9 * id + (sz K A B s - 1) + 1 from by omega, pk_m1]
  rw [e4]
  refine xl_lay2 hid hT hs h9 hL hA ?_ (sz K A B s) _ _ _ _ (Nat.le_refl _) ⟨fun p hp1 ho => ?_, fun p hp1 ho => ?_, hpu _ (by omega), fun p h1 h2 => by omega, fun j hj => ⟨pk_un (by omega), rfl, rfl, rfl⟩⟩
  · intro ps pu px py hI
    exact H ps pu px py ⟨hI.1, hI.2.1, hI.2.2.1, hI.2.2.2.1, fun j hj => by have := hI.2.2.2.2 j hj; exact this⟩
  · by_cases e : p + 1 = sz K A B s
    · have : p = sz K A B s - 1 := by omega
      rw [this, pk_us, hr]
    · rcases ho with z | z
      · exact absurd z e
      · have := (hL.1 p (by omega) (by omega)).2.2.2.2 (by omega); omega
  · have := (hL.1 p (by omega) (by omega)).2.2.2.2 (by omega); omega
end
