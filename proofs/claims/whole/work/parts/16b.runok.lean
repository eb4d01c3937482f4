/-! ===== what a part says, and its state behind it ===== -/
theorem ro_bad {A : Prop} {x : Nat × Int32} {l : Otp} (hm : x ∈ l) (hx : x.1 ≠ 1) (hh : ∀ o ∈ l, o.1 = 1) : A := absurd (hh x hm) hx
theorem rn_hc {k : Nat} {a b : Int32} {t : Nat} {sd : Bool} {S : PSt} (ho : opk k a b) (ok : okS k b S) (ht : t ≤ 200) (h3 : 3 ≤ k) :
    wfo (hc k b t sd S).2 ∧ (hc k b t sd S).2.length ≤ 2 ∧ ((∀ o ∈ (hc k b t sd S).2, o.1 = 1) → okS k b (hc k b t sd S).1) := by
  obtain ⟨d, c, h, hy, f, fy, qx, q, ox, oy⟩ := S
  obtain ⟨o1, o2, o3, o4, o5, o6, o7⟩ := ok
  obtain ⟨h20, h0, h1, h6, h7, h9, h11⟩ := ho
  have dflt : wfo [(2, 0)] ∧ ([(2, 0)] : Otp).length ≤ 2 ∧ ((∀ o ∈ ([(2, 0)] : Otp), o.1 = 1) → okS k b (d, c, h, hy, f, fy, qx, q, ox, oy)) := ⟨rn_wfo_2, by simp, fun _ => ⟨o1, o2, o3, o4, o5, o6, o7⟩⟩
  rcases rn_k h20 with e | e | e | e | e | e | e | e | e | e | e | e | e | e | e | e | e | e | e | e | e <;> (first | omega | subst e)
  · exact dflt
  · exact dflt
  · exact dflt
  · exact dflt
  · exact dflt
  · exact dflt
  · refine ⟨rn_wfo_if rn_wfo_2 (rn_wfo_12 _), ?_, fun _ => ⟨o1, o2, o3, o4, o5, o6, o7⟩⟩
    simp only [hc]; split <;> simp
  · exact ⟨rn_wfo_12 _, by simp [hc], fun _ => ⟨o1, o2, o3, o4, o5, o6, o7⟩⟩
  · have hb := h11 (by decide) (by decide)
    refine ⟨rn_wfo_nil, by simp [hc], fun _ => ⟨?_, o2, o3, o4, o5, fun z => absurd z (by decide), o7⟩⟩
    show t + cl b < 1000
    omega
  · refine ⟨rn_wfo_if rn_wfo_2 (rn_wfo_12 _), ?_, fun _ => ⟨o1, o2, o3, o4, o5, o6, o7⟩⟩
    simp only [hc]; split <;> simp
  · exact dflt
  · exact dflt
  · exact dflt
  · cases sd
    · refine ⟨rn_wfo_if rn_wfo_2 rn_wfo_nil, ?_, fun _ => ⟨o1, o2, o3, o4, o5, o6, o7⟩⟩
      show (if ox = true then [(2, (0 : Int32))] else []).length ≤ 2
      split <;> simp
    · refine ⟨rn_wfo_if rn_wfo_2 rn_wfo_nil, ?_, fun _ => ⟨o1, o2, o3, o4, o5, o6, o7⟩⟩
      show (if oy = true then [(2, (0 : Int32))] else []).length ≤ 2
      split <;> simp
  · refine ⟨rn_wfo_if rn_wfo_2 rn_wfo_nil, ?_, fun _ => ?_⟩
    · show (if q = [] ∨ qx ≠ sd then [(2, (0 : Int32))] else []).length ≤ 2
      split <;> simp
    · cases sd <;> exact ⟨o1, o2, o3, o4, o5, o6, o7⟩
  · cases sd
    · refine ⟨rn_wfo_if rn_wfo_2 rn_wfo_nil, ?_, fun _ => ⟨o1, o2, o3, o4, o5, o6, o7⟩⟩
      show (if ox = true ∨ fy = false then [(2, (0 : Int32))] else []).length ≤ 2
      split <;> simp
    · refine ⟨rn_wfo_if rn_wfo_2 rn_wfo_nil, ?_, fun _ => ⟨o1, o2, o3, o4, o5, o6, o7⟩⟩
      show (if oy = true ∨ f = false then [(2, (0 : Int32))] else []).length ≤ 2
      split <;> simp
  · cases sd
    · exact ⟨rn_wfo_2, by simp [hc], fun _ => ⟨o1, o2, o3, o4, o5, o6, o7⟩⟩
    · exact ⟨rn_wfo_nil, by simp [hc], fun _ => ⟨o1, o2, o3, o4, o5, o6, o7⟩⟩
  · exact dflt
theorem rn_he {k : Nat} {b : Int32} {sd : Bool} {v : Int32} {S : PSt} (ok : okS k b S) (hv : endok (3, v)) :
    wfo (he k sd v S).2 ∧ (he k sd v S).2.length ≤ 2 ∧ ((∀ o ∈ (he k sd v S).2, o.1 = 1) → okS k b (he k sd v S).1) := by
  obtain ⟨d, c, h, hy, f, fy, qx, q, ox, oy⟩ := S
  obtain ⟨o1, o2, o3, o4, o5, o6, o7⟩ := ok
  have hj : ∃ j : Nat, 1 ≤ j ∧ j ≤ 9 ∧ v = nI j := by
    rcases hv with z | z
    · have z1 : (3 : Nat) = 2 := z.1
      omega
    · exact z.2
  obtain ⟨j, j1, j9, ej⟩ := hj
  by_cases hk : k = 20 ∧ sd = true
  · simp only [he, if_pos hk]
    exact ⟨rn_wfo_nil, by simp, fun _ => ⟨o1, o2, o3, o4, o5, o6, o7⟩⟩
  · simp only [he, if_neg hk]
    exact ⟨rn_wfo_3 j1 j9 ej, by simp, fun _ => ⟨o1, o2, o3, o4, o5, o6, o7⟩⟩
def evok (w : Nat) (v : Int32) : Prop := w = 1 ∨ endok (w, v)
theorem rn_hear {k : Nat} {a b : Int32} {t w : Nat} {sd : Bool} {v : Int32} {S : PSt} (ho : opk k a b) (ok : okS k b S) (ht : t ≤ 200) (h3 : 3 ≤ k) (hv : evok w v) :
    wfo (hear k b t sd w v S).2 ∧ (hear k b t sd w v S).2.length ≤ 2 ∧ ((∀ o ∈ (hear k b t sd w v S).2, o.1 = 1) → okS k b (hear k b t sd w v S).1) := by
  unfold hear
  by_cases h1 : w = 1
  · rw [if_pos h1]; exact rn_hi ho ok ht h3
  · rw [if_neg h1]
    by_cases h2 : w = 2
    · rw [if_pos h2]; exact rn_hc ho ok ht h3
    · rw [if_neg h2]
      have hv' : endok (3, v) := by
        rcases hv with z | z
        · exact absurd z h1
        · rcases z with y | y
          · exact absurd y.1 h2
          · exact Or.inr ⟨rfl, y.2⟩
      exact rn_he ok hv'
theorem rn_fi {k : Nat} {a b : Int32} {t : Nat} {S : PSt} (ho : opk k a b) (ok : okS k b S) (ht : t ≤ 200) :
    wfo (fi k a b t S).2 ∧ (fi k a b t S).2.length ≤ 9 ∧ ((∀ o ∈ (fi k a b t S).2, o.1 = 1) → okS k b (fi k a b t S).1) := by
  obtain ⟨d, c, h, hy, f, fy, qx, q, ox, oy⟩ := S
  obtain ⟨o1, o2, o3, o4, o5, o6, o7⟩ := ok
  obtain ⟨h20, h0, h1, h6, h7, h9, h11⟩ := ho
  have dflt : wfo [] ∧ ([] : Otp).length ≤ 9 ∧ ((∀ o ∈ ([] : Otp), o.1 = 1) → okS k b (d, c, h, hy, f, fy, qx, q, ox, oy)) := ⟨rn_wfo_nil, by simp, fun _ => ⟨o1, o2, o3, o4, o5, o6, o7⟩⟩
  by_cases h11' : k = 11
  · subst h11'
    refine ⟨⟨(q.take (rdy t q)).map (fun e => e.1), if d = t then some (2, 0) else none, ?_, ?_⟩, ?_, fun _ => ⟨o1, o2, o3, ?_, fun e he => o5 e (List.mem_of_mem_drop he), o6, fun z => absurd z (by omega)⟩⟩
    · show (q.take (rdy t q)).map (fun e => (1, e.1)) ++ (if d = t then [(2, 0)] else []) = _
      rw [List.map_map]
      by_cases hd : d = t
      · rw [if_pos hd, if_pos hd]; rfl
      · rw [if_neg hd, if_neg hd]; rfl
    · intro e he
      by_cases hd : d = t
      · rw [if_pos hd] at he; simp at he; subst he; exact Or.inl ⟨rfl, rfl⟩
      · rw [if_neg hd] at he; simp at he
    · show ((q.take (rdy t q)).map (fun e : Int32 × Nat => ((1 : Nat), e.1)) ++ (if d = t then [(2, (0 : Int32))] else [])).length ≤ 9
      have : q.length ≤ 8 := o4
      rw [List.length_append, List.length_map, List.length_take]
      split <;> simp <;> omega
    · show (q.drop (rdy t q)).length ≤ 8
      have : q.length ≤ 8 := o4
      rw [List.length_drop]; omega
  · by_cases hd : d = t
    · rcases rn_k h20 with e | e | e | e | e | e | e | e | e | e | e | e | e | e | e | e | e | e | e | e | e <;> (first | (exact absurd e h11') | subst e)
      · exact dflt
      · have hb := h1 rfl
        simp only [fi, if_pos hd]
        exact ⟨rn_wfo_1 _, by simp, fun _ => ⟨by show t + cl a < 1000; omega, fun z => absurd z (by omega), fun z => absurd z (by omega), o4, o5, fun z => absurd z (by decide), o7⟩⟩
      · exact dflt
      · exact dflt
      · exact dflt
      · exact dflt
      · exact dflt
      · exact dflt
      · exact dflt
      · exact dflt
      · exact dflt
      · simp only [fi, if_pos hd]
        exact ⟨rn_wfo_1 _, by simp, fun _ => ⟨by show 0 < 1000; omega, o2, o3, o4, o5, fun z => absurd z (by decide), o7⟩⟩
      · exact dflt
      · have hb := h11 (by decide) (by decide)
        simp only [fi, if_pos hd]
        refine ⟨rn_wfo_if (rn_wfo_1 _) rn_wfo_nil, ?_, fun _ => ⟨by show t + cl b < 1000; omega, o2, o3, o4, o5, fun z => absurd z (by decide), o7⟩⟩
        split <;> simp
      · simp only [fi, if_pos hd]
        exact ⟨rn_wfo_3 (j := 9) (by decide) (by decide) rfl, by simp, fun _ => ⟨by show 0 < 1000; omega, o2, o3, o4, o5, fun z => absurd z (by decide), o7⟩⟩
      · exact dflt
      · exact dflt
      · exact dflt
      · exact dflt
      · exact dflt
    · rw [xf_none h20 h11' hd]
      exact dflt
theorem rn_flags {k : Nat} {b : Int32} {t w : Nat} {sd : Bool} {v : Int32} {S : PSt} (h16 : 16 ≤ k) (h19 : k < 19) (hw : 1 ≤ w) (hw3 : w ≤ 3) (hn : ∀ o ∈ (hear k b t sd w v S).2, o.1 = 1) :
    (hear k b t sd w v S).1.2.2.2.2.2.2.2.2.1 = (if sd = true then (S.2.2.2.2.2.2.2.2.1 || w != 1) else S.2.2.2.2.2.2.2.2.1) ∧ (hear k b t sd w v S).1.2.2.2.2.2.2.2.2.2 = (if sd = true then S.2.2.2.2.2.2.2.2.2 else (S.2.2.2.2.2.2.2.2.2 || w != 1)) := by
  obtain ⟨d, c, h, hy, f, fy, qx, q, ox, oy⟩ := S
  have hw' : w = 1 ∨ w = 2 ∨ w = 3 := by omega
  have hk' : k = 16 ∨ k = 17 ∨ k = 18 := by omega
  rcases hw' with e | e | e
  · subst e
    have eh : hear k b t sd 1 v (d, c, h, hy, f, fy, qx, q, ox, oy) = hi k b t sd v (d, c, h, hy, f, fy, qx, q, ox, oy) := rfl
    rw [eh]
    rcases hk' with e | e | e <;> subst e
    · cases sd <;> simp [hi]
    · cases q with
      | nil => cases sd <;> simp [hi]
      | cons x r =>
        by_cases hq : qx = sd
        · by_cases hr : r.length < 7
          · simp only [hi, if_pos hq, if_pos hr]; cases sd <;> simp
          · simp only [hi, if_pos hq, if_neg hr]; cases sd <;> simp
        · simp only [hi, if_neg hq]; cases sd <;> simp
    · cases sd <;> simp [hi]
  · subst e
    have eh : hear k b t sd 2 v (d, c, h, hy, f, fy, qx, q, ox, oy) = hc k b t sd (d, c, h, hy, f, fy, qx, q, ox, oy) := rfl
    rw [eh]
    rcases hk' with e | e | e <;> subst e <;> cases sd <;> simp [hc]
  · subst e
    have eh : hear k b t sd 3 v (d, c, h, hy, f, fy, qx, q, ox, oy) = he k sd v (d, c, h, hy, f, fy, qx, q, ox, oy) := rfl
    rw [eh] at hn
    have hk20 : ¬ (k = 20 ∧ sd = true) := by omega
    simp only [he, if_neg hk20] at hn
    exact absurd (hn (3, v) (by simp)) (by simp)
theorem ro_all_fin {m : Nat} {o : Otp} (h : fin (ems m o) = false) : ∀ x ∈ o, x.1 = 1 := by
  intro x hx
  unfold fin ems at h
  rw [List.any_eq_false] at h
  have := h (x.1, x.2, m) (List.mem_map_of_mem hx)
  simpa using this
theorem ro_bgn_nil {k w t : Nat} {b v : Int32} {sd : Bool} {S : PSt} (h : bgn k w sd = true) : (hear k b t sd w v S).2 = [] := by
  obtain ⟨d, c, hh, hy, f, fy, qx, q, ox, oy⟩ := S
  simp only [bgn, Bool.and_eq_true, Bool.or_eq_true, beq_iff_eq] at h
  obtain ⟨hs, ⟨hk, hw⟩ | ⟨hk, hw⟩⟩ := h
  · subst hs hk hw; simp [hear, hc]
  · subst hs hk hw; simp [hear, he]
