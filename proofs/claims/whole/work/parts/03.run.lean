/-! ===== the run of a part grows at its end ===== -/
theorem rn_x {k p fr c : Nat} {a b : Int32} {lg : List Lg} {Hx Hy : List Ev} {e : Ev} (h3 : 3 ≤ k) (hc : ckm p e.2.2 = c) (hm : 16 ≤ k → k < 19 → ∀ z ∈ Hy, z.2.2 < e.2.2) (hn : 19 ≤ k → Hy = []) :
    RR k a b p fr lg c (Hx ++ [e]) Hy = stp k a b (RR k a b p fr lg c Hx Hy) (0, e) := by
  have k0 : ¬ k = 0 := by omega
  have k1 : ¬ k = 1 := by omega
  have k2 : ¬ k = 2 := by omega
  have k3 : ¬ k < 3 := by omega
  have hi : inp k p (ckm p fr) c (Hx ++ [e]) Hy = inp k p (ckm p fr) c Hx Hy ++ [(0, e)] := by
    unfold inp
    rw [if_neg k1, if_neg k1, if_neg k3, if_neg k3]
    by_cases h16 : k < 16
    · rw [if_pos h16, if_pos h16]
      by_cases ht : tmd k = true
      · rw [if_pos ht, if_pos ht]; exact tp_feed_snoc _ _ _ hc
      · rw [if_neg ht, if_neg ht]; exact tp_tg_snoc _ _ _
    · rw [if_neg h16, if_neg h16]
      by_cases h19 : k < 19
      · rw [if_pos h19, if_pos h19, tp_tg_snoc]
        refine tp_mrg_snocX _ _ ?_
        intro y hy
        simp only [tg, List.mem_map] at hy
        obtain ⟨z, hz, rfl⟩ := hy
        exact hm (by omega) h19 z hz
      · rw [if_neg h19, if_neg h19, tp_tg_snoc, hn (by omega)]
        simp [tg]
  unfold RR
  rw [if_neg k0, if_neg k0, if_neg k2, if_neg k2, hi, tp_foldl_snoc]
theorem rn_y {k p fr c : Nat} {a b : Int32} {lg : List Lg} {Hx Hy : List Ev} {e : Ev} (h3 : 16 ≤ k) (hm : k < 19 → ∀ z ∈ Hx, z.2.2 ≤ e.2.2) :
    RR k a b p fr lg c Hx (Hy ++ [e]) = stp k a b (RR k a b p fr lg c Hx Hy) (1, e) := by
  have k0 : ¬ k = 0 := by omega
  have k1 : ¬ k = 1 := by omega
  have k2 : ¬ k = 2 := by omega
  have k3 : ¬ k < 3 := by omega
  have h16 : ¬ k < 16 := by omega
  have hi : inp k p (ckm p fr) c Hx (Hy ++ [e]) = inp k p (ckm p fr) c Hx Hy ++ [(1, e)] := by
    unfold inp
    rw [if_neg k1, if_neg k1, if_neg k3, if_neg k3, if_neg h16, if_neg h16]
    by_cases h19 : k < 19
    · rw [if_pos h19, if_pos h19, tp_tg_snoc]
      refine tp_mrg_snocY _ _ ?_
      intro y hy
      simp only [tg, List.mem_map] at hy
      obtain ⟨z, hz, rfl⟩ := hy
      exact hm h19 z hz
    · rw [if_neg h19, if_neg h19, tp_tg_snoc, List.append_assoc]
  unfold RR
  rw [if_neg k0, if_neg k0, if_neg k2, if_neg k2, hi, tp_foldl_snoc]
def tmd1 (k : Nat) : Bool := k == 1 || tmd k
theorem rn_t {k p fr c : Nat} {a b : Int32} {lg : List Lg} {Hx Hy : List Ev} (ht : tmd1 k = true) (h0 : ckm p fr ≤ c) (hm : ∀ z ∈ Hx, ckm p z.2.2 ≤ c) :
    RR k a b p fr lg (c + 1) Hx Hy = stp k a b (RR k a b p fr lg c Hx Hy) (2, 0, 0, tm (c + 1) p) := by
  simp only [tmd1, tmd, Bool.or_eq_true, beq_iff_eq] at ht
  have k0 : ¬ k = 0 := by omega
  have k2 : ¬ k = 2 := by omega
  have hi : inp k p (ckm p fr) (c + 1) Hx Hy = inp k p (ckm p fr) c Hx Hy ++ [(2, 0, 0, tm (c + 1) p)] := by
    unfold inp
    by_cases k1 : k = 1
    · rw [if_pos k1, if_pos k1]; exact tp_tms' h0
    · have k3 : ¬ k < 3 := by omega
      have h16 : k < 16 := by omega
      have ht' : tmd k = true := by simp only [tmd, Bool.or_eq_true, beq_iff_eq]; omega
      rw [if_neg k1, if_neg k1, if_neg k3, if_neg k3, if_pos h16, if_pos h16, if_pos ht', if_pos ht']
      exact tp_feed_tick _ _ _ h0 hm
  unfold RR
  rw [if_neg k0, if_neg k0, if_neg k2, if_neg k2, hi, tp_foldl_snoc]
theorem rn_t0 {k p fr c c' : Nat} {a b : Int32} {lg : List Lg} {Hx Hy : List Ev} (ht : ¬ tmd1 k = true) :
    RR k a b p fr lg c' Hx Hy = RR k a b p fr lg c Hx Hy := by
  simp only [tmd1, Bool.or_eq_true, beq_iff_eq, not_or] at ht
  have hi : inp k p (ckm p fr) c' Hx Hy = inp k p (ckm p fr) c Hx Hy := by
    unfold inp
    rw [if_neg ht.1, if_neg ht.1, if_neg ht.2, if_neg ht.2]
  unfold RR
  rw [hi]
theorem rn_lg {k p fr c : Nat} {a b : Int32} {lg lg' : List Lg} {Hx Hy : List Ev} (h : ¬ k = 0) :
    RR k a b p fr lg' c Hx Hy = RR k a b p fr lg c Hx Hy := by
  unfold RR
  rw [if_neg h, if_neg h]
theorem rn_src_app {s p fr : Nat} {g : Lg} : ∀ lg : List Lg, src s p fr (lg ++ [g]) = if fin (src s p fr lg) = true then src s p fr lg else src s p fr lg ++ (if g.1 = s ∧ hrs fr g.2.2.2 = true then [(g.2.1 + 1, g.2.2.1, g.2.2.2 + p + 1)] else [])
  | [] => by
    have e : src s p fr [g] = if g.1 = s ∧ hrs fr g.2.2.2 = true then [(g.2.1 + 1, g.2.2.1, g.2.2.2 + p + 1)] else [] := by
      show (if g.1 = s ∧ hrs fr g.2.2.2 = true then (g.2.1 + 1, g.2.2.1, g.2.2.2 + p + 1) :: (if g.2.1 = 0 then [] else []) else []) = _
      rw [ite_self]
    rw [List.nil_append, e, if_neg (show ¬ fin (src s p fr []) = true from by simp [src, fin])]
    rfl
  | x :: r => by
    have ih := rn_src_app (s := s) (p := p) (fr := fr) (g := g) r
    show src s p fr (x :: (r ++ [g])) = _
    unfold src
    by_cases h : x.1 = s ∧ hrs fr x.2.2.2 = true
    · rw [if_pos h, if_pos h]
      by_cases h0 : x.2.1 = 0
      · rw [if_pos h0, if_pos h0, ih]
        have e : fin ((x.2.1 + 1, x.2.2.1, x.2.2.2 + p + 1) :: src s p fr r) = fin (src s p fr r) := by
          simp [fin, h0]
        rw [e]
        by_cases hf : fin (src s p fr r) = true
        · rw [if_pos hf, if_pos hf]
        · rw [if_neg hf, if_neg hf]; rfl
      · rw [if_neg h0, if_neg h0]
        have e : fin [(x.2.1 + 1, x.2.2.1, x.2.2.2 + p + 1)] = true := by
          simp [fin, h0]
        rw [if_pos e]
    · rw [if_neg h, if_neg h, ih]
theorem rn_stp_fin {k : Nat} {a b : Int32} {R : RSt} {i : Inp} (h : fin R.2 = true) : stp k a b R i = R := by
  unfold stp; rw [if_pos h]
theorem rn_stp_go {k : Nat} {a b : Int32} {R : RSt} {i : Inp} (h : fin R.2 = false) : stp k a b R i = ((rsp k a b R.1 i).1, R.2 ++ ems i.2.2.2 (rsp k a b R.1 i).2) := by
  unfold stp; rw [if_neg (by rw [h]; decide)]
theorem rn_fin_app (A B : List Ev) : fin (A ++ B) = (fin A || fin B) := by simp [fin]
theorem rn_fin_nil : fin [] = false := rfl
theorem rn_fold_fin {k : Nat} {a b : Int32} : ∀ (l : List Inp) (R : RSt), fin R.2 = true → l.foldl (stp k a b) R = R
  | [], _, _ => rfl
  | i :: l, R, h => by rw [List.foldl_cons, rn_stp_fin h, rn_fold_fin l R h]
/-! ===== operands, invariants of a state ===== -/
def opk (k : Nat) (a b : Int32) : Prop :=
  k ≤ 20 ∧ (k = 0 → cl a < 3 ∧ a = nI (cl a)) ∧ (k = 1 → 5 ≤ cl a ∧ cl a ≤ 50 ∧ a = nI (cl a)) ∧ (k = 6 → 1 ≤ cl b ∧ cl b ≤ 8 ∧ b = nI (cl b)) ∧ (k = 7 → cl b ≤ 8 ∧ b = nI (cl b)) ∧ (k = 9 → 2 ≤ cl b ∧ cl b ≤ 5 ∧ b = nI (cl b)) ∧ (11 ≤ k → k ≤ 15 → 1 ≤ cl b ∧ cl b ≤ 30 ∧ b = nI (cl b))
def okS (k : Nat) (b : Int32) (S : PSt) : Prop :=
  S.1 < 1000 ∧ (k = 6 ∨ k = 9 → S.2.1 < cl b) ∧ (k = 7 → S.2.1 ≤ cl b) ∧ S.2.2.2.2.2.2.2.1.length ≤ 8 ∧ (∀ e ∈ S.2.2.2.2.2.2.2.1, e.2 < 1000) ∧ (tmd1 k = false → S.1 = 0) ∧ (k = 17 → ∀ e ∈ S.2.2.2.2.2.2.2.1, e.2 = 0)
theorem rn_k {k : Nat} (h : k ≤ 20) : k = 0 ∨ k = 1 ∨ k = 2 ∨ k = 3 ∨ k = 4 ∨ k = 5 ∨ k = 6 ∨ k = 7 ∨ k = 8 ∨ k = 9 ∨ k = 10 ∨ k = 11 ∨ k = 12 ∨ k = 13 ∨ k = 14 ∨ k = 15 ∨ k = 16 ∨ k = 17 ∨ k = 18 ∨ k = 19 ∨ k = 20 := by omega
theorem rn_ok_ini {k : Nat} {a b : Int32} {t : Nat} (ho : opk k a b) (ht : t ≤ 200) : okS k b (ini k a b t) := by
  obtain ⟨h20, h0, h1, h6, h7, h9, h11⟩ := ho
  unfold okS ini
  refine ⟨?_, fun h => ?_, fun _ => Nat.zero_le _, Nat.zero_le _, fun e he => by simp at he, fun h => ?_, fun _ e he => by simp at he⟩
  · show (if k = 1 then t + cl a else if k = 14 ∨ k = 15 then t + cl b else 0) < 1000
    by_cases e1 : k = 1
    · rw [if_pos e1]; have := h1 e1; omega
    · rw [if_neg e1]
      by_cases e2 : k = 14 ∨ k = 15
      · rw [if_pos e2]; have := h11 (by omega) (by omega); omega
      · rw [if_neg e2]; omega
  · show 0 < cl b
    rcases h with h | h
    · have := h6 h; omega
    · have := h9 h; omega
  · show (if k = 1 then t + cl a else if k = 14 ∨ k = 15 then t + cl b else 0) = 0
    simp only [tmd1, tmd, Bool.or_eq_false_iff, beq_eq_false_iff_ne] at h
    rw [if_neg h.1, if_neg (by omega)]
/-- what a part says at once: items, then perhaps an end -/
def endok (e : Nat × Int32) : Prop := (e.1 = 2 ∧ e.2 = 0) ∨ (e.1 = 3 ∧ ∃ j : Nat, 1 ≤ j ∧ j ≤ 9 ∧ e.2 = nI j)
def wfo (o : Otp) : Prop := ∃ (L : List Int32) (en : Option (Nat × Int32)), o = L.map (fun v => (1, v)) ++ en.toList ∧ ∀ e ∈ en, endok e
theorem rn_wfo_nil : wfo [] := ⟨[], none, rfl, fun e he => by simp at he⟩
theorem rn_wfo_1 (v : Int32) : wfo [(1, v)] := ⟨[v], none, rfl, fun e he => by simp at he⟩
theorem rn_wfo_2 : wfo [(2, 0)] := ⟨[], some (2, 0), rfl, fun e he => by simp at he; subst he; exact Or.inl ⟨rfl, rfl⟩⟩
theorem rn_wfo_12 (v : Int32) : wfo [(1, v), (2, 0)] := ⟨[v], some (2, 0), rfl, fun e he => by simp at he; subst he; exact Or.inl ⟨rfl, rfl⟩⟩
theorem rn_wfo_3 {v : Int32} {j : Nat} (h1 : 1 ≤ j) (h2 : j ≤ 9) (hv : v = nI j) : wfo [(3, v)] := ⟨[], some (3, v), rfl, fun e he => by simp at he; subst he; exact Or.inr ⟨rfl, j, h1, h2, hv⟩⟩
theorem rn_wfo_if {c : Prop} [Decidable c] {x y : Otp} (hx : wfo x) (hy : wfo y) : wfo (if c then x else y) := by
  by_cases h : c
  · rw [if_pos h]; exact hx
  · rw [if_neg h]; exact hy
theorem rn_hi {k : Nat} {a b : Int32} {t : Nat} {sd : Bool} {v : Int32} {S : PSt} (ho : opk k a b) (ok : okS k b S) (ht : t ≤ 200) (h3 : 3 ≤ k) :
    wfo (hi k b t sd v S).2 ∧ (hi k b t sd v S).2.length ≤ 2 ∧ ((∀ o ∈ (hi k b t sd v S).2, o.1 = 1) → okS k b (hi k b t sd v S).1) := by
  obtain ⟨d, c, h, hy, f, fy, qx, q, ox, oy⟩ := S
  obtain ⟨o1, o2, o3, o4, o5, o6, o7⟩ := ok
  obtain ⟨h20, h0, h1, h6, h7, h9, h11⟩ := ho
  have bad : ∀ (A : Prop) (x : Nat × Int32) (l : Otp), x ∈ l → x.1 ≠ 1 → (∀ o ∈ l, o.1 = 1) → A := fun A x l hm hx hh => absurd (hh x hm) hx
  rcases rn_k h20 with e | e | e | e | e | e | e | e | e | e | e | e | e | e | e | e | e | e | e | e | e <;> (first | omega | subst e)
  · exact ⟨rn_wfo_1 _, by simp [hi], fun _ => ⟨o1, o2, o3, o4, o5, o6, o7⟩⟩
  · refine ⟨rn_wfo_if rn_wfo_nil (rn_wfo_1 _), ?_, fun _ => ⟨o1, o2, o3, o4, o5, o6, o7⟩⟩
    simp only [hi]; split <;> simp
  · exact ⟨rn_wfo_1 _, by simp [hi], fun _ => ⟨o1, fun z => absurd z (by omega), fun z => absurd z (by omega), o4, o5, o6, o7⟩⟩
  · have hb := h6 rfl
    have hcc := o2 (Or.inl rfl)
    by_cases hv : c + 1 < cl b
    · simp only [hi, if_pos hv]
      exact ⟨rn_wfo_1 _, by simp, fun _ => ⟨o1, fun _ => hv, fun z => absurd z (by omega), o4, o5, o6, o7⟩⟩
    · simp only [hi, if_neg hv]
      exact ⟨rn_wfo_12 _, by simp, bad _ (2, 0) _ (by simp) (by decide)⟩
  · have hb := h7 rfl
    by_cases hv : c < cl b
    · simp only [hi, if_pos hv]
      exact ⟨rn_wfo_nil, by simp, fun _ => ⟨o1, fun z => absurd z (by omega), fun _ => hv, o4, o5, o6, o7⟩⟩
    · simp only [hi, if_neg hv]
      exact ⟨rn_wfo_1 _, by simp, fun _ => ⟨o1, o2, o3, o4, o5, o6, o7⟩⟩
  · refine ⟨rn_wfo_if rn_wfo_nil (rn_wfo_1 _), ?_, fun _ => ⟨o1, o2, o3, o4, o5, o6, o7⟩⟩
    simp only [hi]; split <;> simp
  · have hb := h9 rfl
    by_cases hv : c + 1 < cl b
    · simp only [hi, if_pos hv]
      exact ⟨rn_wfo_nil, by simp, fun _ => ⟨o1, fun _ => hv, fun z => absurd z (by omega), o4, o5, o6, o7⟩⟩
    · simp only [hi, if_neg hv]
      refine ⟨rn_wfo_1 _, by simp, fun _ => ⟨o1, fun _ => ?_, fun z => absurd z (by omega), o4, o5, o6, o7⟩⟩
      show 0 < cl b
      omega
  · exact ⟨rn_wfo_nil, by simp [hi], fun _ => ⟨o1, fun z => absurd z (by omega), fun z => absurd z (by omega), o4, o5, o6, o7⟩⟩
  · have hb := h11 (by decide) (by decide)
    by_cases hv : q.length < 8
    · simp only [hi, if_pos hv]
      refine ⟨rn_wfo_nil, by simp, fun _ => ⟨o1, o2, o3, ?_, ?_, o6, fun z => absurd z (by omega)⟩⟩
      · show (q ++ [(v, t + cl b)]).length ≤ 8
        simp; omega
      · intro e he
        rcases List.mem_append.mp he with hm | hm
        · exact o5 e hm
        · rw [List.mem_singleton] at hm; subst hm; show t + cl b < 1000; omega
    · simp only [hi, if_neg hv]
      exact ⟨rn_wfo_3 (j := 8) (by decide) (by decide) rfl, by simp, bad _ (3, 8) _ (by simp) (by decide)⟩
  · have hb := h11 (by decide) (by decide)
    refine ⟨rn_wfo_nil, by simp [hi], fun _ => ⟨?_, fun z => absurd z (by omega), fun z => absurd z (by omega), o4, o5, fun z => absurd z (by decide), o7⟩⟩
    show t + cl b < 1000
    omega
  · by_cases hv : f = true ∧ nI t - h < b
    · simp only [hi, if_pos hv]
      exact ⟨rn_wfo_nil, by simp, fun _ => ⟨o1, o2, o3, o4, o5, o6, o7⟩⟩
    · simp only [hi, if_neg hv]
      exact ⟨rn_wfo_1 _, by simp, fun _ => ⟨o1, o2, o3, o4, o5, o6, o7⟩⟩
  · exact ⟨rn_wfo_nil, by simp [hi], fun _ => ⟨o1, o2, o3, o4, o5, o6, o7⟩⟩
  · have hb := h11 (by decide) (by decide)
    refine ⟨rn_wfo_1 _, by simp [hi], fun _ => ⟨?_, fun z => absurd z (by omega), fun z => absurd z (by omega), o4, o5, fun z => absurd z (by decide), o7⟩⟩
    show t + cl b < 1000
    omega
  · exact ⟨rn_wfo_1 _, by simp [hi], fun _ => ⟨o1, o2, o3, o4, o5, o6, o7⟩⟩
  · cases q with
    | nil =>
      refine ⟨rn_wfo_nil, by simp [hi], fun _ => ⟨o1, fun z => absurd z (by omega), fun z => absurd z (by omega), by simp [hi], ?_, o6, ?_⟩⟩
      · intro e he; simp [hi] at he; subst he; show 0 < 1000; omega
      · intro _ e he; simp [hi] at he; subst he; rfl
    | cons x r =>
      by_cases hs : qx = sd
      · by_cases hv : r.length < 7
        · simp only [hi, if_pos hs, if_pos hv]
          refine ⟨rn_wfo_nil, by simp, fun _ => ⟨o1, fun z => absurd z (by omega), fun z => absurd z (by omega), ?_, ?_, o6, ?_⟩⟩
          · show (x :: r ++ [(v, 0)]).length ≤ 8
            simp; omega
          · intro e he
            rcases List.mem_append.mp he with hm | hm
            · exact o5 e hm
            · rw [List.mem_singleton] at hm; subst hm; show 0 < 1000; omega
          · intro _ e he
            rcases List.mem_append.mp he with hm | hm
            · exact o7 rfl e hm
            · rw [List.mem_singleton] at hm; subst hm; rfl
        · simp only [hi, if_pos hs, if_neg hv]
          exact ⟨rn_wfo_3 (j := 8) (by decide) (by decide) rfl, by simp, bad _ (3, 8) _ (by simp) (by decide)⟩
      · simp only [hi, if_neg hs]
        have hq2 : okS 17 b (d, c, h, hy, f, fy, qx, r, ox, oy) := ⟨o1, o2, o3, by have : (x :: r).length ≤ 8 := o4; show r.length ≤ 8; simp at this; omega, fun e he => o5 e (List.mem_cons_of_mem _ he), o6, fun z e he => o7 z e (List.mem_cons_of_mem _ he)⟩
        by_cases hr : r = [] ∧ (if sd = true then oy else ox) = true
        · rw [if_pos hr]
          exact ⟨rn_wfo_12 _, by simp, fun _ => hq2⟩
        · rw [if_neg hr]
          exact ⟨rn_wfo_1 _, by simp, fun _ => hq2⟩
  · cases sd
    · simp only [hi]
      refine ⟨rn_wfo_if (rn_wfo_1 _) rn_wfo_nil, ?_, fun _ => ⟨o1, o2, o3, o4, o5, o6, o7⟩⟩
      rw [if_neg (by decide)]; dsimp only; split <;> simp
    · simp only [hi]
      refine ⟨rn_wfo_if (rn_wfo_1 _) rn_wfo_nil, ?_, fun _ => ⟨o1, o2, o3, o4, o5, o6, o7⟩⟩
      rw [if_pos trivial]; dsimp only; split <;> simp
  · exact ⟨rn_wfo_1 _, by simp [hi], fun _ => ⟨o1, o2, o3, o4, o5, o6, o7⟩⟩
  · exact ⟨rn_wfo_1 _, by simp [hi], fun _ => ⟨o1, o2, o3, o4, o5, o6, o7⟩⟩
