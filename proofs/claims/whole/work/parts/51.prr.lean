/-! ===== RR as a whole: where its moments come from, order, growth ===== -/
theorem pr_inp {k p c0 c : Nat} {Hx Hy : List Ev} {P : Nat → Prop} (hx : 3 ≤ k → ∀ e ∈ Hx, P e.2.2) (hy : 16 ≤ k → ∀ e ∈ Hy, P e.2.2) (hg : tmd k = true → ∀ e ∈ Hx, c0 ≤ ckm p e.2.2) (ht : tmd1 k = true → ∀ T, c0 < T → (T ≤ c ∨ (tmd k = true ∧ ∃ e ∈ Hx, T ≤ ckm p e.2.2)) → P (tm T p)) : ∀ i ∈ inp k p c0 c Hx Hy, P i.2.2.2 := by
  intro i hi
  unfold inp at hi
  by_cases h1 : k = 1
  · rw [if_pos h1] at hi
    obtain ⟨T, t1, t2, t3⟩ := pr_tms _ i hi
    rw [t3]
    exact ht (by rw [h1]; rfl) T t1 (Or.inl (by omega))
  · rw [if_neg h1] at hi
    by_cases h3 : k < 3
    · rw [if_pos h3] at hi; simp at hi
    · rw [if_neg h3] at hi
      by_cases h16 : k < 16
      · rw [if_pos h16] at hi
        by_cases htm : tmd k = true
        · rw [if_pos htm] at hi
          refine pr_feed (c00 := c0) (P := P) Hx c0 (Nat.le_refl _) (fun e he => ⟨hx (by omega) e he, hg htm e he⟩) (fun T t1 t2 => ht (by unfold tmd1; rw [htm]; simp) T t1 ?_) i hi
          rcases t2 with t2 | t2
          · exact Or.inl t2
          · exact Or.inr ⟨htm, t2⟩
        · rw [if_neg htm] at hi
          obtain ⟨e, e1, e2⟩ := pr_tg hi
          subst e2; exact hx (by omega) e e1
      · rw [if_neg h16] at hi
        have hm : i ∈ tg 0 Hx ∨ i ∈ tg 1 Hy := by
          by_cases h19 : k < 19
          · rw [if_pos h19] at hi; exact pr_mrg_mem _ _ i hi
          · rw [if_neg h19] at hi; exact List.mem_append.mp hi
        rcases hm with w | w
        · obtain ⟨e, e1, e2⟩ := pr_tg w
          subst e2; exact hx (by omega) e e1
        · obtain ⟨e, e1, e2⟩ := pr_tg w
          subst e2; exact hy (by omega) e e1
theorem pr_RR {k p fr c : Nat} {a b : Int32} {lg : List Lg} {Hx Hy : List Ev} {P : Nat → Prop} (h0 : k = 0 → ∀ g ∈ lg, hrs fr g.2.2.2 = true → P (g.2.2.2 + p + 1)) (h2 : k = 2 → P fr) (hx : 3 ≤ k → ∀ e ∈ Hx, P e.2.2) (hy : 16 ≤ k → ∀ e ∈ Hy, P e.2.2) (hg : tmd k = true → ∀ e ∈ Hx, ckm p fr ≤ ckm p e.2.2) (ht : tmd1 k = true → ∀ T, ckm p fr < T → (T ≤ c ∨ (tmd k = true ∧ ∃ e ∈ Hx, T ≤ ckm p e.2.2)) → P (tm T p)) : ∀ e ∈ (RR k a b p fr lg c Hx Hy).2, P e.2.2 := by
  intro e he
  unfold RR at he
  by_cases k0 : k = 0
  · rw [if_pos k0] at he
    obtain ⟨g, g1, g2, g3⟩ := (pr_src lg).1 e he
    rw [g3]; exact h0 k0 g g1 g2
  · rw [if_neg k0] at he
    by_cases k2 : k = 2
    · rw [if_pos k2] at he
      have : e = (1, a, fr) ∨ e = (2, 0, fr) := by simpa using he
      rcases this with w | w <;> subst w <;> exact h2 k2
    · rw [if_neg k2] at he
      obtain ⟨ex, x1, x2, x3, x4⟩ := pr_fold (k := k) (a := a) (b := b) (inp k p (ckm p fr) c Hx Hy) (ini k a b (tim fr)) []
      rw [x1, List.nil_append] at he
      obtain ⟨i, i1, i2⟩ := x2 e he
      rw [i2]
      exact pr_inp hx hy hg ht i i1
theorem pr_RRs {k p fr c : Nat} {a b : Int32} {lg : List Lg} {Hx Hy : List Ev} (hp : p < 9) (hl : lg.Pairwise (fun x y => x.2.2.2 ≤ y.2.2.2)) (hx : 3 ≤ k → Hx.Pairwise (fun x y => x.2.2 ≤ y.2.2)) (hy : 16 ≤ k → Hy.Pairwise (fun x y => x.2.2 ≤ y.2.2)) (hc : 19 ≤ k → ∀ x ∈ Hx, ∀ y ∈ Hy, x.2.2 ≤ y.2.2) : (RR k a b p fr lg c Hx Hy).2.Pairwise (fun x y => x.2.2 ≤ y.2.2) := by
  unfold RR
  by_cases k0 : k = 0
  · rw [if_pos k0]; exact (pr_src lg).2 hl
  · rw [if_neg k0]
    by_cases k2 : k = 2
    · rw [if_pos k2]
      simp
    · rw [if_neg k2]
      obtain ⟨ex, x1, x2, x3, x4⟩ := pr_fold (k := k) (a := a) (b := b) (inp k p (ckm p fr) c Hx Hy) (ini k a b (tim fr)) []
      rw [x1, List.nil_append]
      refine x3 ?_
      unfold inp
      by_cases h1 : k = 1
      · rw [if_pos h1]; exact pr_tms_srt _
      · rw [if_neg h1]
        by_cases h3 : k < 3
        · rw [if_pos h3]; exact List.Pairwise.nil
        · rw [if_neg h3]
          by_cases h16 : k < 16
          · rw [if_pos h16]
            by_cases htm : tmd k = true
            · rw [if_pos htm]; exact pr_feed_srt hp _ _ (hx (by omega))
            · rw [if_neg htm]; exact pr_tg_srt (hx (by omega))
          · rw [if_neg h16]
            by_cases h19 : k < 19
            · rw [if_pos h19]; exact pr_mrg_srt _ _ (pr_tg_srt (hx (by omega))) (pr_tg_srt (hy (by omega)))
            · rw [if_neg h19, List.pairwise_append]
              refine ⟨pr_tg_srt (hx (by omega)), pr_tg_srt (hy (by omega)), fun x hx0 y hy0 => ?_⟩
              obtain ⟨e, e1, e2⟩ := pr_tg hx0
              obtain ⟨e', e1', e2'⟩ := pr_tg hy0
              subst e2; subst e2'
              exact hc (by omega) e e1 e' e1'
theorem pr_tg_app (s : Nat) (H H' : List Ev) : tg s (H ++ H') = tg s H ++ tg s H' := by unfold tg; rw [List.map_append]
theorem pr_ext {k p fr c T M : Nat} {a b : Int32} {lg lx : List Lg} {Hx Hy ex ey : List Ev} (hp : p < 9) (h1 : tm c p ≤ M) (h2 : M < tm (c + 1) p) (hcT : c ≤ T) (hfr : fr ≤ M) (hlx : ∀ g ∈ lx, M < g.2.2.2 + (p + 1)) (hHx : ∀ e ∈ Hx, e.2.2 ≤ M) (hHy : ∀ e ∈ Hy, e.2.2 ≤ M) (hex : ∀ e ∈ ex, M < e.2.2) (hey : ∀ e ∈ ey, M < e.2.2) (hch : 19 ≤ k → Hy = [] ∨ ex = []) : ∃ ez, (RR k a b p fr (lg ++ lx) T (Hx ++ ex) (Hy ++ ey)).2 = (RR k a b p fr lg c Hx Hy).2 ++ ez ∧ (∀ e ∈ ez, M < e.2.2) ∧ (fin (RR k a b p fr lg c Hx Hy).2 = true → ez = []) := by
  unfold RR
  by_cases k0 : k = 0
  · rw [if_pos k0, if_pos k0]
    obtain ⟨ez, z1, z2, z3⟩ := pr_src_ext (s := cl a) (p := p) (fr := fr) (lx := lx) lg
    refine ⟨ez, z1, fun e he => ?_, z3⟩
    obtain ⟨g, g1, g2⟩ := z2 e he
    have := hlx g g1
    omega
  · rw [if_neg k0, if_neg k0]
    by_cases k2 : k = 2
    · rw [if_pos k2, if_pos k2]
      exact ⟨[], by simp, by simp, fun _ => rfl⟩
    · rw [if_neg k2, if_neg k2]
      have hin : ∃ more, inp k p (ckm p fr) T (Hx ++ ex) (Hy ++ ey) = inp k p (ckm p fr) c Hx Hy ++ more ∧ ∀ i ∈ more, M < i.2.2.2 := by
        have hc0 : ckm p fr ≤ c := tk_ckle hp hfr h2
        unfold inp
        by_cases k1 : k = 1
        · rw [if_pos k1, if_pos k1]
          obtain ⟨more, m1, m2⟩ := pr_feed_ext (ex := []) hp h1 h2 hcT (by simp) [] (ckm p fr) hc0 (by simp)
          exact ⟨more, m1, m2⟩
        · rw [if_neg k1, if_neg k1]
          by_cases h3 : k < 3
          · rw [if_pos h3, if_pos h3]; exact ⟨[], rfl, by simp⟩
          · rw [if_neg h3, if_neg h3]
            by_cases h16 : k < 16
            · rw [if_pos h16, if_pos h16]
              by_cases htm : tmd k = true
              · rw [if_pos htm, if_pos htm]
                exact pr_feed_ext hp h1 h2 hcT hex Hx (ckm p fr) hc0 hHx
              · rw [if_neg htm, if_neg htm, pr_tg_app]
                refine ⟨tg 0 ex, rfl, fun i hi => ?_⟩
                obtain ⟨e, e1, e2⟩ := pr_tg hi
                subst e2; exact hex e e1
            · rw [if_neg h16, if_neg h16]
              have g0 : ∀ i ∈ tg 0 ex, M < i.2.2.2 := fun i hi => by
                obtain ⟨e, e1, e2⟩ := pr_tg hi
                subst e2; exact hex e e1
              have g1 : ∀ i ∈ tg 1 ey, M < i.2.2.2 := fun i hi => by
                obtain ⟨e, e1, e2⟩ := pr_tg hi
                subst e2; exact hey e e1
              by_cases h19 : k < 19
              · rw [if_pos h19, if_pos h19, pr_tg_app, pr_tg_app, pr_mrg_ext g0 g1 _ _ (fun i hi => by
                  obtain ⟨e, e1, e2⟩ := pr_tg hi
                  subst e2; exact hHx e e1) (fun i hi => by
                  obtain ⟨e, e1, e2⟩ := pr_tg hi
                  subst e2; exact hHy e e1)]
                refine ⟨_, rfl, fun i hi => ?_⟩
                rcases pr_mrg_mem _ _ i hi with w | w
                · exact g0 i w
                · exact g1 i w
              · rw [if_neg h19, if_neg h19, pr_tg_app, pr_tg_app]
                rcases hch (by omega) with w | w
                · subst w
                  refine ⟨tg 0 ex ++ tg 1 ey, by simp [tg], fun i hi => ?_⟩
                  rcases List.mem_append.mp hi with z | z
                  · exact g0 i z
                  · exact g1 i z
                · subst w
                  exact ⟨tg 1 ey, by simp [tg], g1⟩
      obtain ⟨more, m1, m2⟩ := hin
      rw [m1, List.foldl_append]
      obtain ⟨ez, z1, z2, z3, z4⟩ := pr_fold (k := k) (a := a) (b := b) more ((inp k p (ckm p fr) c Hx Hy).foldl (stp k a b) (ini k a b (tim fr), [])).1 ((inp k p (ckm p fr) c Hx Hy).foldl (stp k a b) (ini k a b (tim fr), [])).2
      refine ⟨ez, z1, fun e he => ?_, z4⟩
      obtain ⟨i, i1, i2⟩ := z2 e he
      rw [i2]; exact m2 i i1
/-! ===== the whole tree's streams: begun where, heard what ===== -/
def cy (E : EnvP) (q : Nat) : Prop := 19 ≤ e_kd E (e_us E q) ∧ e_yc E (e_us E q) = q
def lastm (k : Nat) (H : List Ev) : Option Nat := (H.find? (fun e => mt k e.1)).map (fun e => e.2.2)
def BF (E : EnvP) (B0 : Nat) (H : Nat → List Ev) (bf : Nat → Option Nat) : Prop :=
  bf (e_n E - 1) = some B0 ∧ (∀ q, q + 1 < e_n E → cy E q → bf q = lastm (e_kd E (e_us E q)) (H (e_xc E (e_us E q)))) ∧ (∀ q, q + 1 < e_n E → ¬ cy E q → bf q = bf (e_us E q))
def spv (E : EnvP) (LG : List Lg) (t : Nat) (H : Nat → List Ev) (q : Nat) : Option Nat → List Ev
  | none => []
  | some fr => (RR (e_kd E q) (e_oa E q) (e_ob E q) q fr LG t (H (e_xc E q)) (H (e_yc E q))).2
def SOL (E : EnvP) (B0 : Nat) (LG : List Lg) (t : Nat) (H : Nat → List Ev) (bf : Nat → Option Nat) : Prop :=
  BF E B0 H bf ∧ ∀ q, q < e_n E → H q = spv E LG t H q (bf q)
theorem so_find {k : Nat} {H : List Ev} {m : Nat} (h : lastm k H = some m) : ∃ e ∈ H, mt k e.1 = true ∧ e.2.2 = m := by
  unfold lastm at h
  obtain ⟨e, h1, h2⟩ := Option.map_eq_some_iff.mp h
  exact ⟨e, List.mem_of_find?_eq_some h1, by simpa using List.find?_some h1, h2⟩
theorem so_find0 {k : Nat} {H : List Ev} (h : lastm k H = none) : ∀ e ∈ H, ¬ mt k e.1 = true := by
  unfold lastm at h
  rw [Option.map_eq_none_iff, List.find?_eq_none] at h
  intro e he
  exact h e he
/-- a component's full configuration is a solution -/
theorem so_cu {E : EnvP} {H : Nat → List Ev} {F : Nat → Nat} {bg : Nat → Bool} {B0 t : Nat} {LG : List Lg} (hT : TR E) (hc : ∀ q, q < e_n E → e_c E q = t) (hl : ∀ q, q < e_n E → e_lg E q = LG) (h : CU E H F bg B0) : SOL E B0 LG t H (fun q => if bg q = true then some (F q) else none) := by
  obtain ⟨c1, c2, c3, c4, c5, c6, c7, c8, c9, c10, c11⟩ := h
  obtain ⟨t1, t2, t3, t4, t5, t6, t7, t8, t9, t10, t11⟩ := hT
  refine ⟨⟨?_, fun q hq hy => ?_, fun q hq hy => ?_⟩, fun q hq => ?_⟩
  · dsimp only
    rw [if_pos c9, c10]
  · have h9 := t9 q hq
    dsimp only
    cases hl2 : lastm (e_kd E (e_us E q)) (H (e_xc E (e_us E q))) with
    | none =>
      have h0 := so_find0 hl2
      rw [if_neg]
      intro hb
      obtain ⟨e, e1, e2⟩ := c5 (e_us E q) h9.2.1 hy.1 (by rw [hy.2]; exact hb)
      exact h0 e e1 e2
    | some m =>
      obtain ⟨e, e1, e2, e3⟩ := so_find hl2
      have := c8 (e_us E q) h9.2.1 hy.1 e e1 e2
      rw [hy.2] at this
      rw [if_pos this.1, this.2, e3]
  · have h9 := t9 q hq
    dsimp only
    by_cases hb : bg (e_us E q) = true
    · have hd := c7 (e_us E q) h9.2.1 hb
      rw [if_pos hb]
      rcases h9.2.2.2 with w | w
      · have := hd.1 h9.2.2.1
        rw [w] at this
        rw [if_pos this.1, this.2]
      · have h19 : e_kd E (e_us E q) < 19 := by
          rcases Nat.lt_or_ge (e_kd E (e_us E q)) 19 with z | z
          · exact z
          · exact absurd ⟨z, w.2⟩ hy
        have := hd.2 w.1 h19
        rw [w.2] at this
        rw [if_pos this.1, this.2]
    · rw [if_neg hb, if_neg (fun y => hb (c6 q hq y))]
  · dsimp only
    by_cases hb : bg q = true
    · rw [if_pos hb]
      have := c1 q hq hb
      unfold Rn at this
      rw [hc q hq, hl q hq] at this
      exact this.symm
    · rw [if_neg hb]
      exact c2 q hq (by simpa using hb)
