/-! ===== runs: what comes out, in order, and how it grows ===== -/
theorem pr_ems {m : Nat} {o : Otp} : ∀ e ∈ ems m o, e.2.2 = m := by
  intro e he
  obtain ⟨x, _, rfl⟩ := List.mem_map.mp he
  rfl
theorem pr_fold {k : Nat} {a b : Int32} : ∀ (l : List Inp) (S : PSt) (O : List Ev), ∃ ex, (l.foldl (stp k a b) (S, O)).2 = O ++ ex ∧ (∀ e ∈ ex, ∃ i ∈ l, e.2.2 = i.2.2.2) ∧ (l.Pairwise (fun x y => x.2.2.2 ≤ y.2.2.2) → ex.Pairwise (fun x y => x.2.2 ≤ y.2.2)) ∧ (fin O = true → ex = []) := by
  intro l
  induction l with
  | nil => intro S O; exact ⟨[], by simp, by simp, by simp, fun _ => rfl⟩
  | cons i l ih =>
    intro S O
    rw [List.foldl_cons]
    rcases Bool.eq_false_or_eq_true (fin O) with h | h
    · rw [rn_stp_fin (show fin (S, O).2 = true from h)]
      obtain ⟨ex, h1, h2, h3, h4⟩ := ih S O
      have := h4 h
      subst this
      exact ⟨[], h1, by simp, by simp, fun _ => rfl⟩
    · rw [rn_stp_go (show fin (S, O).2 = false from h)]
      obtain ⟨ex, h1, h2, h3, h4⟩ := ih (rsp k a b S i).1 (O ++ ems i.2.2.2 (rsp k a b S i).2)
      refine ⟨ems i.2.2.2 (rsp k a b S i).2 ++ ex, by rw [← List.append_assoc]; exact h1, fun e he => ?_, fun hp => ?_, fun hf => ?_⟩
      · rcases List.mem_append.mp he with y | y
        · exact ⟨i, by simp, pr_ems e y⟩
        · obtain ⟨j, j1, j2⟩ := h2 e y
          exact ⟨j, by simp [j1], j2⟩
      · rw [List.pairwise_cons] at hp
        rw [List.pairwise_append]
        refine ⟨?_, h3 hp.2, fun x hx y hy => ?_⟩
        · rw [List.pairwise_iff_forall_sublist]
          intro x y hs
          have hx := pr_ems x (hs.subset (by simp))
          have hy := pr_ems y (hs.subset (by simp))
          rw [hx, hy]; exact Nat.le_refl _
        · rw [pr_ems x hx]
          obtain ⟨j, j1, j2⟩ := h2 y hy
          rw [j2]
          exact hp.1 j j1
      · rw [h] at hf; exact absurd hf (by decide)
theorem pr_src {s p fr : Nat} : ∀ (lg : List Lg), (∀ e ∈ src s p fr lg, ∃ g ∈ lg, hrs fr g.2.2.2 = true ∧ e.2.2 = g.2.2.2 + p + 1) ∧ (lg.Pairwise (fun x y => x.2.2.2 ≤ y.2.2.2) → (src s p fr lg).Pairwise (fun x y => x.2.2 ≤ y.2.2)) := by
  intro lg
  induction lg with
  | nil => exact ⟨by simp [src], by simp [src]⟩
  | cons g r ih =>
    by_cases h : g.1 = s ∧ hrs fr g.2.2.2 = true
    · have e : src s p fr (g :: r) = (g.2.1 + 1, g.2.2.1, g.2.2.2 + p + 1) :: (if g.2.1 = 0 then src s p fr r else []) := by
        show (if g.1 = s ∧ hrs fr g.2.2.2 = true then _ else src s p fr r) = _
        rw [if_pos h]
      rw [e]
      have hin : ∀ e ∈ (if g.2.1 = 0 then src s p fr r else []), ∃ g ∈ r, hrs fr g.2.2.2 = true ∧ e.2.2 = g.2.2.2 + p + 1 := by
        intro e he
        by_cases h0 : g.2.1 = 0
        · rw [if_pos h0] at he; exact ih.1 e he
        · rw [if_neg h0] at he; simp at he
      refine ⟨fun e he => ?_, fun hp => ?_⟩
      · rcases List.mem_cons.mp he with y | y
        · subst y; exact ⟨g, by simp, h.2, rfl⟩
        · obtain ⟨g', g1, g2, g3⟩ := hin e y
          exact ⟨g', by simp [g1], g2, g3⟩
      · rw [List.pairwise_cons] at hp ⊢
        refine ⟨fun e he => ?_, ?_⟩
        · obtain ⟨g', g1, g2, g3⟩ := hin e he
          have := hp.1 g' g1
          show g.2.2.2 + p + 1 ≤ e.2.2
          omega
        · by_cases h0 : g.2.1 = 0
          · rw [if_pos h0]; exact ih.2 hp.2
          · rw [if_neg h0]; exact List.Pairwise.nil
    · have e : src s p fr (g :: r) = src s p fr r := by
        show (if g.1 = s ∧ hrs fr g.2.2.2 = true then _ else src s p fr r) = _
        rw [if_neg h]
      rw [e]
      refine ⟨fun e he => ?_, fun hp => ih.2 (List.pairwise_cons.mp hp).2⟩
      obtain ⟨g', g1, g2⟩ := ih.1 e he
      exact ⟨g', by simp [g1], g2⟩
theorem pr_src_ext {s p fr : Nat} {lx : List Lg} : ∀ (lg : List Lg), ∃ ex, src s p fr (lg ++ lx) = src s p fr lg ++ ex ∧ (∀ e ∈ ex, ∃ g ∈ lx, e.2.2 = g.2.2.2 + p + 1) ∧ (fin (src s p fr lg) = true → ex = []) := by
  intro lg
  induction lg with
  | nil =>
    refine ⟨src s p fr lx, rfl, fun e he => ?_, fun h => ?_⟩
    · obtain ⟨g, g1, g2, g3⟩ := (pr_src lx).1 e he
      exact ⟨g, g1, g3⟩
    · exact absurd h (by simp [src, fin])
  | cons g r ih =>
    obtain ⟨ex, h1, h2, h3⟩ := ih
    by_cases h : g.1 = s ∧ hrs fr g.2.2.2 = true
    · have e : ∀ r' : List Lg, src s p fr (g :: r') = (g.2.1 + 1, g.2.2.1, g.2.2.2 + p + 1) :: (if g.2.1 = 0 then src s p fr r' else []) := fun r' => by
        show (if g.1 = s ∧ hrs fr g.2.2.2 = true then _ else src s p fr r') = _
        rw [if_pos h]
      rw [List.cons_append, e, e]
      by_cases h0 : g.2.1 = 0
      · rw [if_pos h0, if_pos h0]
        refine ⟨ex, by rw [h1]; rfl, h2, fun hf => h3 ?_⟩
        have : fin ((g.2.1 + 1, g.2.2.1, g.2.2.2 + p + 1) :: src s p fr r) = fin (src s p fr r) := by
          rw [h0]; simp [fin]
        rw [this] at hf; exact hf
      · rw [if_neg h0, if_neg h0]
        exact ⟨[], rfl, by simp, fun _ => rfl⟩
    · have e : ∀ r' : List Lg, src s p fr (g :: r') = src s p fr r' := fun r' => by
        show (if g.1 = s ∧ hrs fr g.2.2.2 = true then _ else src s p fr r') = _
        rw [if_neg h]
      rw [List.cons_append, e, e]
      exact ⟨ex, h1, h2, h3⟩
theorem pr_tms {p c0 : Nat} : ∀ (d : Nat) (i : Inp), i ∈ tms p c0 d → ∃ T, c0 < T ∧ T ≤ c0 + d ∧ i.2.2.2 = tm T p := by
  intro d
  induction d with
  | zero => intro i hi; simp [tms] at hi
  | succ d ih =>
    intro i h
    rcases List.mem_append.mp h with y | y
    · obtain ⟨T, h1, h2, h3⟩ := ih i y
      exact ⟨T, h1, by omega, h3⟩
    · have : i = (2, 0, 0, tm (c0 + d + 1) p) := by simpa using y
      subst this
      exact ⟨c0 + d + 1, by omega, by omega, rfl⟩
theorem pr_tm {p T T' : Nat} (h : T ≤ T') : tm T p ≤ tm T' p := by unfold tm; exact Nat.add_le_add_right (Nat.mul_le_mul_right _ h) _
theorem pr_tms_srt {p c0 : Nat} : ∀ d : Nat, (tms p c0 d).Pairwise (fun x y => x.2.2.2 ≤ y.2.2.2) := by
  intro d
  induction d with
  | zero => exact List.Pairwise.nil
  | succ d ih =>
    rw [tp_tms, List.pairwise_append]
    refine ⟨ih, List.pairwise_singleton _ _, fun x hx y hy => ?_⟩
    obtain ⟨T, h1, h2, h3⟩ := pr_tms d x hx
    have : y = (2, 0, 0, tm (c0 + d + 1) p) := by simpa using hy
    subst this
    rw [h3]
    exact pr_tm (by omega)
theorem pr_feed {p c00 c : Nat} {P : Nat → Prop} : ∀ (H : List Ev) (c0 : Nat), c00 ≤ c0 → (∀ e ∈ H, P e.2.2 ∧ c00 ≤ ckm p e.2.2) → (∀ T, c00 < T → (T ≤ c ∨ ∃ e ∈ H, T ≤ ckm p e.2.2) → P (tm T p)) → ∀ i ∈ feed p c0 H c, P i.2.2.2 := by
  intro H
  induction H with
  | nil =>
    intro c0 h0 hH hT i hi
    obtain ⟨T, h1, h2, h3⟩ := pr_tms _ i hi
    rw [h3]
    exact hT T (by omega) (Or.inl (by omega))
  | cons e r ih =>
    intro c0 h0 hH hT i hi
    have he := hH e (by simp)
    rcases List.mem_append.mp (show i ∈ tms p c0 (ckm p e.2.2 - c0) ++ (0, e) :: feed p (ckm p e.2.2) r c from hi) with y | y
    · obtain ⟨T, h1, h2, h3⟩ := pr_tms _ i y
      rw [h3]
      exact hT T (by omega) (Or.inr ⟨e, by simp, by omega⟩)
    · rcases List.mem_cons.mp y with w | w
      · subst w; exact he.1
      · refine ih (ckm p e.2.2) he.2 (fun e' h' => hH e' (by simp [h'])) (fun T h1 h2 => hT T h1 ?_) i w
        rcases h2 with h2 | ⟨e', h3, h4⟩
        · exact Or.inl h2
        · exact Or.inr ⟨e', by simp [h3], h4⟩
theorem pr_feed_srt {p c : Nat} (hp : p < 9) : ∀ (H : List Ev) (c0 : Nat), H.Pairwise (fun x y => x.2.2 ≤ y.2.2) → (feed p c0 H c).Pairwise (fun x y => x.2.2.2 ≤ y.2.2.2) := by
  intro H
  induction H with
  | nil => intro c0 _; exact pr_tms_srt _
  | cons e r ih =>
    intro c0 hs
    rw [List.pairwise_cons] at hs
    show (tms p c0 (ckm p e.2.2 - c0) ++ (0, e) :: feed p (ckm p e.2.2) r c).Pairwise _
    have hlow : ∀ i ∈ feed p (ckm p e.2.2) r c, e.2.2 ≤ i.2.2.2 := pr_feed (c00 := ckm p e.2.2) (P := fun m => e.2.2 ≤ m) r (ckm p e.2.2) (Nat.le_refl _) (fun e' h' => ⟨hs.1 e' h', yk_ck hp (hs.1 e' h')⟩) (fun T h1 _ => by
      have h2 := yt_ck2 (m := e.2.2) hp
      have h3 := pr_tm (p := p) h1
      have h4 : ckm p e.2.2 + 1 = (ckm p e.2.2).succ := rfl
      rw [h4] at h2
      exact Nat.le_of_lt (Nat.lt_of_lt_of_le h2 h3))
    rw [List.pairwise_append]
    refine ⟨pr_tms_srt _, List.pairwise_cons.mpr ⟨fun i hi => hlow i hi, ih _ hs.2⟩, fun x hx y hy => ?_⟩
    obtain ⟨T, h1, h2, h3⟩ := pr_tms _ x hx
    have hle : tm T p ≤ e.2.2 := by
      rcases yt_ck (m := e.2.2) hp with w | w
      · exact Nat.le_trans (pr_tm (by omega)) w
      · exfalso
        have : ckm p e.2.2 = 0 := by unfold ckm; split <;> omega
        omega
    rw [h3]
    rcases List.mem_cons.mp hy with w | w
    · subst w; exact hle
    · exact Nat.le_trans hle (hlow y w)
theorem pr_ckm {p c m : Nat} (hp : p < 9) (h : tm c p ≤ m) : c ≤ ckm p m := by
  have h1 := yk_ck hp h
  have h2 : ckm p (tm c p) = c := by
    unfold ckm
    rw [tim_tm hp, if_neg (Nat.lt_irrefl _)]
  omega
theorem pr_feed_ext {p c T M : Nat} {ex : List Ev} (hp : p < 9) (h1 : tm c p ≤ M) (h2 : M < tm (c + 1) p) (hcT : c ≤ T) (hex : ∀ e ∈ ex, M < e.2.2) : ∀ (H : List Ev) (c0 : Nat), c0 ≤ c → (∀ e ∈ H, e.2.2 ≤ M) → ∃ more, feed p c0 (H ++ ex) T = feed p c0 H c ++ more ∧ ∀ i ∈ more, M < i.2.2.2 := by
  have htick : ∀ U, c < U → M < tm U p := fun U hU => Nat.lt_of_lt_of_le h2 (pr_tm hU)
  intro H
  induction H with
  | nil =>
    intro c0 h0 _
    cases ex with
    | nil =>
      refine ⟨tms p c (T - c), ?_, fun i hi => ?_⟩
      · show tms p c0 (T - c0) = tms p c0 (c - c0) ++ tms p c (T - c)
        have := yt_app p c0 (T - c) (c - c0)
        rw [show c - c0 + (T - c) = T - c0 from by omega, show c0 + (c - c0) = c from by omega] at this
        exact this
      · obtain ⟨U, u1, u2, u3⟩ := pr_tms _ i hi
        rw [u3]; exact htick U u1
    | cons e r =>
      have hce : c ≤ ckm p e.2.2 := pr_ckm hp (Nat.le_trans h1 (Nat.le_of_lt (hex e (by simp))))
      refine ⟨feed p c (e :: r) T, ?_, ?_⟩
      · show tms p c0 (ckm p e.2.2 - c0) ++ (0, e) :: feed p (ckm p e.2.2) r T = tms p c0 (c - c0) ++ (tms p c (ckm p e.2.2 - c) ++ (0, e) :: feed p (ckm p e.2.2) r T)
        rw [← List.append_assoc]
        congr 1
        have := yt_app p c0 (ckm p e.2.2 - c) (c - c0)
        rw [show c - c0 + (ckm p e.2.2 - c) = ckm p e.2.2 - c0 from by omega, show c0 + (c - c0) = c from by omega] at this
        exact this
      · exact pr_feed (c00 := c) (P := fun m => M < m) (e :: r) c (Nat.le_refl _) (fun e' h' => ⟨hex e' h', pr_ckm hp (Nat.le_trans h1 (Nat.le_of_lt (hex e' h')))⟩) (fun U hU _ => htick U hU)
  | cons e r ih =>
    intro c0 h0 hH
    obtain ⟨more, m1, m2⟩ := ih (ckm p e.2.2) (tk_ckle hp (hH e (by simp)) h2) (fun e' h' => hH e' (by simp [h']))
    refine ⟨more, ?_, m2⟩
    show tms p c0 (ckm p e.2.2 - c0) ++ (0, e) :: feed p (ckm p e.2.2) (r ++ ex) T = (tms p c0 (ckm p e.2.2 - c0) ++ (0, e) :: feed p (ckm p e.2.2) r c) ++ more
    rw [m1]
    simp
theorem pr_mrg_mem : ∀ (xs ys : List Inp) (i : Inp), i ∈ mrg xs ys → i ∈ xs ∨ i ∈ ys
  | [], ys, i, h => Or.inr h
  | x :: xs, [], i, h => by rw [tp_mrg_nil] at h; exact Or.inl h
  | x :: xs, y :: ys, i, h => by
    by_cases c : y.2.2.2 < x.2.2.2
    · rw [tp_mrg_y c] at h
      rcases List.mem_cons.mp h with w | w
      · exact Or.inr (by simp [w])
      · rcases pr_mrg_mem (x :: xs) ys i w with z | z
        · exact Or.inl z
        · exact Or.inr (by simp [z])
    · rw [tp_mrg_x c] at h
      rcases List.mem_cons.mp h with w | w
      · exact Or.inl (by simp [w])
      · rcases pr_mrg_mem xs (y :: ys) i w with z | z
        · exact Or.inl (by simp [z])
        · exact Or.inr z
  termination_by xs ys => xs.length + ys.length
theorem pr_mrg_srt : ∀ (xs ys : List Inp), xs.Pairwise (fun x y => x.2.2.2 ≤ y.2.2.2) → ys.Pairwise (fun x y => x.2.2.2 ≤ y.2.2.2) → (mrg xs ys).Pairwise (fun x y => x.2.2.2 ≤ y.2.2.2)
  | [], ys, _, h => h
  | x :: xs, [], h, _ => by rw [tp_mrg_nil]; exact h
  | x :: xs, y :: ys, hx, hy => by
    have hx' := List.pairwise_cons.mp hx
    have hy' := List.pairwise_cons.mp hy
    by_cases c : y.2.2.2 < x.2.2.2
    · rw [tp_mrg_y c, List.pairwise_cons]
      refine ⟨fun i hi => ?_, pr_mrg_srt (x :: xs) ys hx hy'.2⟩
      rcases pr_mrg_mem _ _ i hi with w | w
      · rcases List.mem_cons.mp w with z | z
        · subst z; omega
        · have := hx'.1 i z; omega
      · exact hy'.1 i w
    · rw [tp_mrg_x c, List.pairwise_cons]
      refine ⟨fun i hi => ?_, pr_mrg_srt xs (y :: ys) hx'.2 hy⟩
      rcases pr_mrg_mem _ _ i hi with w | w
      · exact hx'.1 i w
      · rcases List.mem_cons.mp w with z | z
        · subst z; omega
        · have := hy'.1 i z; omega
  termination_by xs ys => xs.length + ys.length
theorem pr_mrg_ext {M : Nat} {ex ey : List Inp} (hex : ∀ i ∈ ex, M < i.2.2.2) (hey : ∀ i ∈ ey, M < i.2.2.2) : ∀ (xs ys : List Inp), (∀ i ∈ xs, i.2.2.2 ≤ M) → (∀ i ∈ ys, i.2.2.2 ≤ M) → mrg (xs ++ ex) (ys ++ ey) = mrg xs ys ++ mrg ex ey
  | [], [], _, _ => rfl
  | [], y :: ys, h1, h2 => by
    have ih := pr_mrg_ext hex hey [] ys h1 (fun i hi => h2 i (by simp [hi]))
    cases ex with
    | nil => rfl
    | cons e r =>
      have := h2 y (by simp)
      have := hex e (by simp)
      show mrg (e :: r) (y :: (ys ++ ey)) = _
      rw [tp_mrg_y (by omega)]
      have ih' : mrg (e :: r) (ys ++ ey) = mrg [] ys ++ mrg (e :: r) ey := ih
      rw [ih']
      rfl
  | x :: xs, [], h1, h2 => by
    have ih := pr_mrg_ext hex hey xs [] (fun i hi => h1 i (by simp [hi])) h2
    cases ey with
    | nil => rw [List.append_nil, tp_mrg_nil, tp_mrg_nil, tp_mrg_nil]
    | cons e r =>
      have := h1 x (by simp)
      have := hey e (by simp)
      show mrg (x :: (xs ++ ex)) (e :: r) = _
      rw [tp_mrg_x (by omega)]
      have ih' : mrg (xs ++ ex) (e :: r) = mrg xs [] ++ mrg ex (e :: r) := ih
      rw [ih', tp_mrg_nil, tp_mrg_nil]
      rfl
  | x :: xs, y :: ys, h1, h2 => by
    by_cases c : y.2.2.2 < x.2.2.2
    · have ih := pr_mrg_ext hex hey (x :: xs) ys h1 (fun i hi => h2 i (by simp [hi]))
      rw [List.cons_append, List.cons_append, tp_mrg_y c, tp_mrg_y c]
      rw [List.cons_append] at ih
      rw [ih]; rfl
    · have ih := pr_mrg_ext hex hey xs (y :: ys) (fun i hi => h1 i (by simp [hi])) h2
      rw [List.cons_append, List.cons_append, tp_mrg_x c, tp_mrg_x c]
      rw [List.cons_append] at ih
      rw [ih]; rfl
  termination_by xs ys => xs.length + ys.length
theorem pr_tg {s : Nat} {H : List Ev} {i : Inp} (h : i ∈ tg s H) : ∃ e ∈ H, i = (s, e) := by
  obtain ⟨e, h1, h2⟩ := List.mem_map.mp h
  exact ⟨e, h1, h2.symm⟩
theorem pr_tg_srt {s : Nat} {H : List Ev} (h : H.Pairwise (fun x y => x.2.2 ≤ y.2.2)) : (tg s H).Pairwise (fun x y => x.2.2.2 ≤ y.2.2.2) := by
  unfold tg
  rw [List.pairwise_map]
  exact h
