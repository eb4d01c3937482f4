/-! ===== stage tables, sizes, the layout of a stage's parts ===== -/
def szF (K A B : Nat → Nat) : Nat → Nat → Nat
  | 0, _ => 1
  | f + 1, s => if K s < 3 then 1 else if K s < 16 then 1 + szF K A B f (A s) else 1 + szF K A B f (A s) + szF K A B f (B s)
def sz (K A B : Nat → Nat) (s : Nat) : Nat := szF K A B 13 s
def TB (K A B : Nat → Nat) (ns : Nat) : Prop := ns ≤ 12 ∧ ∀ s, s < ns → K s ≤ 20 ∧ (3 ≤ K s → A s < s) ∧ (16 ≤ K s → B s < s)
theorem tr_szF {K A B : Nat → Nat} {ns : Nat} (h : TB K A B ns) : ∀ f s, s < ns → s < f → szF K A B f s = szF K A B (f + 1) s := by
  intro f
  induction f with
  | zero => intro s _ h; omega
  | succ f ih =>
    intro s hs hf
    have hb := h.2 s hs
    show (if K s < 3 then 1 else if K s < 16 then 1 + szF K A B f (A s) else 1 + szF K A B f (A s) + szF K A B f (B s)) = (if K s < 3 then 1 else if K s < 16 then 1 + szF K A B (f + 1) (A s) else 1 + szF K A B (f + 1) (A s) + szF K A B (f + 1) (B s))
    by_cases h3 : K s < 3
    · rw [if_pos h3, if_pos h3]
    · rw [if_neg h3, if_neg h3]
      have ha := hb.2.1 (by omega)
      rw [ih (A s) (by omega) (by omega)]
      by_cases h16 : K s < 16
      · rw [if_pos h16, if_pos h16]
      · have hbb := hb.2.2 (by omega)
        rw [if_neg h16, if_neg h16, ih (B s) (by omega) (by omega)]
theorem tr_sz {K A B : Nat → Nat} {ns : Nat} (h : TB K A B ns) {s : Nat} (hs : s < ns) : sz K A B s = if K s < 3 then 1 else if K s < 16 then 1 + sz K A B (A s) else 1 + sz K A B (A s) + sz K A B (B s) := by
  have hb := h.2 s hs
  have h12 := h.1
  unfold sz
  show (if K s < 3 then 1 else if K s < 16 then 1 + szF K A B 12 (A s) else 1 + szF K A B 12 (A s) + szF K A B 12 (B s)) = _
  by_cases h3 : K s < 3
  · rw [if_pos h3, if_pos h3]
  · rw [if_neg h3, if_neg h3]
    have ha := hb.2.1 (by omega)
    rw [tr_szF h 12 (A s) (by omega) (by omega)]
    by_cases h16 : K s < 16
    · rw [if_pos h16, if_pos h16]
    · have hbb := hb.2.2 (by omega)
      rw [if_neg h16, if_neg h16, tr_szF h 12 (B s) (by omega) (by omega)]
theorem tr_sz3 {K A B : Nat → Nat} {ns : Nat} (h : TB K A B ns) {s : Nat} (hs : s < ns) (k : K s < 3) : sz K A B s = 1 := by rw [tr_sz h hs, if_pos k]
theorem tr_sz1 {K A B : Nat → Nat} {ns : Nat} (h : TB K A B ns) {s : Nat} (hs : s < ns) (k : 3 ≤ K s) (k2 : K s < 16) : sz K A B s = 1 + sz K A B (A s) := by rw [tr_sz h hs, if_neg (by omega), if_pos k2]
theorem tr_sz2 {K A B : Nat → Nat} {ns : Nat} (h : TB K A B ns) {s : Nat} (hs : s < ns) (k : 16 ≤ K s) : sz K A B s = 1 + sz K A B (A s) + sz K A B (B s) := by rw [tr_sz h hs, if_neg (by omega), if_neg (by omega)]
theorem tr_pos {K A B : Nat → Nat} {ns : Nat} (h : TB K A B ns) {s : Nat} (hs : s < ns) : 1 ≤ sz K A B s := by
  rw [tr_sz h hs]
  split
  · omega
  · split <;> omega
theorem tr_big {K A B : Nat → Nat} {ns : Nat} (h : TB K A B ns) : ∀ s, s < ns → sz K A B s < 2 ^ (s + 1) := by
  intro s
  induction s using Nat.strongRecOn with
  | ind s ih =>
    intro hs
    have hb := h.2 s hs
    have h1 : 2 ≤ 2 ^ (s + 1) := by
      have : 2 ^ 1 ≤ 2 ^ (s + 1) := Nat.pow_le_pow_right (by decide) (by omega)
      omega
    rcases Nat.lt_or_ge (K s) 3 with k | k
    · rw [tr_sz3 h hs k]; omega
    · have ha := hb.2.1 k
      have i1 := ih (A s) ha (by omega)
      have p1 : 2 ^ (A s + 1) ≤ 2 ^ s := Nat.pow_le_pow_right (by decide) (by omega)
      have p2 : 2 ^ (s + 1) = 2 * 2 ^ s := by rw [Nat.pow_succ]; omega
      rcases Nat.lt_or_ge (K s) 16 with k2 | k2
      · rw [tr_sz1 h hs k k2]; omega
      · have hbb := hb.2.2 k2
        have i2 := ih (B s) hbb (by omega)
        have p3 : 2 ^ (B s + 1) ≤ 2 ^ s := Nat.pow_le_pow_right (by decide) (by omega)
        rw [tr_sz2 h hs k2]; omega
theorem tr_big' {K A B : Nat → Nat} {ns : Nat} (h : TB K A B ns) {s : Nat} (hs : s < ns) : sz K A B s < 8192 := by
  have := tr_big h s hs
  have h2 : 2 ^ (s + 1) ≤ 2 ^ 13 := Nat.pow_le_pow_right (by decide) (by have := h.1; omega)
  omega
/-- sg, us lay out stage s from part b on -/
def LYf (K A B sg us : Nat → Nat) : Nat → Nat → Nat → Prop
  | 0, _, _ => False
  | f + 1, b, s => sg (b + sz K A B s - 1) = s ∧ (3 ≤ K s → LYf K A B sg us f b (A s) ∧ us (b + sz K A B (A s) - 1) = b + sz K A B s - 1) ∧ (16 ≤ K s → LYf K A B sg us f (b + sz K A B (A s)) (B s) ∧ us (b + sz K A B s - 2) = b + sz K A B s - 1)
def xcf (K A B sg : Nat → Nat) (p : Nat) : Nat := if K (sg p) < 16 then p - 1 else p - 1 - sz K A B (B (sg p))
def ycf (p : Nat) : Nat := p - 1
def lof (K A B sg : Nat → Nat) (p : Nat) : Nat := p + 1 - sz K A B (sg p)
def Lok (K A B sg us : Nat → Nat) (ns b s : Nat) : Prop :=
  (∀ p, b ≤ p → p < b + sz K A B s → sg p < ns ∧ b + sz K A B (sg p) ≤ p + 1 ∧
    (3 ≤ K (sg p) → b ≤ xcf K A B sg p ∧ xcf K A B sg p < p ∧ us (xcf K A B sg p) = p ∧ sg (xcf K A B sg p) = A (sg p)) ∧
    (16 ≤ K (sg p) → us (p - 1) = p ∧ sg (p - 1) = B (sg p) ∧ xcf K A B sg p < p - 1) ∧
    (p + 1 < b + sz K A B s → p < us p ∧ us p < b + sz K A B s ∧ 3 ≤ K (sg (us p)) ∧ (xcf K A B sg (us p) = p ∨ (16 ≤ K (sg (us p)) ∧ us p - 1 = p)))) ∧
  (∀ w, b ≤ w → w < b + sz K A B s → ∀ p, lof K A B sg w ≤ p → (p < w → us p ≤ w) ∧ (p ≤ w → lof K A B sg w ≤ lof K A B sg p))
theorem tr_root {K A B sg us : Nat → Nat} {f b s : Nat} (h : LYf K A B sg us f b s) : sg (b + sz K A B s - 1) = s := by
  cases f with
  | zero => exact absurd h (by intro z; exact z)
  | succ f => exact h.1
theorem tr_ok {K A B sg us : Nat → Nat} {ns : Nat} (h : TB K A B ns) : ∀ f b s, s < ns → LYf K A B sg us f b s → Lok K A B sg us ns b s := by
  intro f
  induction f with
  | zero => intro b s _ z; exact absurd z (by intro z; exact z)
  | succ f ih =>
    intro b s hs ⟨l1, l2, l3⟩
    have hb := h.2 s hs
    have hpos := tr_pos h hs
    rcases Nat.lt_or_ge (K s) 3 with k | k
    · have e1 := tr_sz3 h hs k
      rw [e1] at l1
      have hbs : sg b = s := by rw [← l1]; congr 1
      refine ⟨fun p hp1 hp2 => ?_, fun w hw1 hw2 p hp => ?_⟩
      · rw [e1] at hp2
        have : p = b := by omega
        subst this
        rw [hbs, e1]
        exact ⟨hs, by omega, fun z => by omega, fun z => by omega, fun z => by omega⟩
      · rw [e1] at hw2
        have : w = b := by omega
        subst this
        unfold lof at hp ⊢
        rw [hbs, e1] at hp
        refine ⟨fun z => by omega, fun z => ?_⟩
        have : p = w := by omega
        subst this
        exact Nat.le_refl _
    · have ha := hb.2.1 k
      have han : A s < ns := by omega
      obtain ⟨l2a, l2b⟩ := l2 k
      have oka := ih b (A s) han l2a
      have ra := tr_root l2a
      have pa := tr_pos h han
      rcases Nat.lt_or_ge (K s) 16 with k2 | k2
      · have e1 := tr_sz1 h hs k k2
        have er : sg (b + sz K A B (A s)) = s := by
          rw [show b + sz K A B (A s) = b + sz K A B s - 1 from by omega]; exact l1
        have eu : us (b + sz K A B (A s) - 1) = b + sz K A B (A s) := by rw [l2b, e1]; omega
        have exr : xcf K A B sg (b + sz K A B (A s)) = b + sz K A B (A s) - 1 := by unfold xcf; rw [er, if_pos k2]
        have elo : lof K A B sg (b + sz K A B (A s)) = b := by unfold lof; rw [er, e1]; omega
        refine ⟨fun p hp1 hp2 => ?_, fun w hw1 hw2 p hp => ?_⟩
        · by_cases hr : p = b + sz K A B (A s)
          · subst hr
            rw [exr, eu, er, ra, e1]
            exact ⟨hs, by omega, fun _ => ⟨by omega, by omega, rfl, rfl⟩, fun z => by omega, fun z => by omega⟩
          · obtain ⟨q1, q2, q3, q4, q5⟩ := oka.1 p hp1 (by omega)
            refine ⟨q1, q2, q3, q4, fun _ => ?_⟩
            by_cases hl : p + 1 < b + sz K A B (A s)
            · have := q5 hl
              exact ⟨this.1, by omega, this.2.2.1, this.2.2.2⟩
            · have hpe : p = b + sz K A B (A s) - 1 := by omega
              rw [hpe, eu, er, exr]
              exact ⟨by omega, by omega, k, Or.inl rfl⟩
        · by_cases hr : w = b + sz K A B (A s)
          · subst hr
            rw [elo] at hp ⊢
            refine ⟨fun z => ?_, fun z => ?_⟩
            · by_cases hl : p + 1 < b + sz K A B (A s)
              · have := (oka.1 p hp (by omega)).2.2.2.2 hl; omega
              · have hpe : p = b + sz K A B (A s) - 1 := by omega
                rw [hpe, eu]; exact Nat.le_refl _
            · by_cases hpr : p = b + sz K A B (A s)
              · rw [hpr, elo]; exact Nat.le_refl _
              · have := (oka.1 p hp (by omega)).2.1
                unfold lof; omega
          · exact oka.2 w hw1 (by omega) p hp
      · have e1 := tr_sz2 h hs k2
        have hbb := hb.2.2 k2
        have hbn : B s < ns := by omega
        obtain ⟨l3a, l3b⟩ := l3 k2
        have okb := ih (b + sz K A B (A s)) (B s) hbn l3a
        have rb := tr_root l3a
        have pb := tr_pos h hbn
        have er : sg (b + sz K A B (A s) + sz K A B (B s)) = s := by
          rw [show b + sz K A B (A s) + sz K A B (B s) = b + sz K A B s - 1 from by omega]; exact l1
        have eu : us (b + sz K A B (A s) - 1) = b + sz K A B (A s) + sz K A B (B s) := by rw [l2b, e1]; omega
        have eu2 : us (b + sz K A B (A s) + sz K A B (B s) - 1) = b + sz K A B (A s) + sz K A B (B s) := by
          have : b + sz K A B s - 2 = b + sz K A B (A s) + sz K A B (B s) - 1 := by omega
          rw [← this, l3b, e1]; omega
        have exr : xcf K A B sg (b + sz K A B (A s) + sz K A B (B s)) = b + sz K A B (A s) - 1 := by unfold xcf; rw [er, if_neg (by omega)]; omega
        have elo : lof K A B sg (b + sz K A B (A s) + sz K A B (B s)) = b := by unfold lof; rw [er, e1]; omega
        have hin : ∀ p, b ≤ p → p < b + sz K A B (A s) + sz K A B (B s) → p < us p ∧ us p ≤ b + sz K A B (A s) + sz K A B (B s) ∧ 3 ≤ K (sg (us p)) ∧ (xcf K A B sg (us p) = p ∨ (16 ≤ K (sg (us p)) ∧ us p - 1 = p)) := by
          intro p hp1 hp2
          rcases Nat.lt_or_ge p (b + sz K A B (A s)) with z | z
          · by_cases hl : p + 1 < b + sz K A B (A s)
            · have := (oka.1 p hp1 z).2.2.2.2 hl
              exact ⟨this.1, by omega, this.2.2.1, this.2.2.2⟩
            · have hpe : p = b + sz K A B (A s) - 1 := by omega
              rw [hpe, eu, er, exr]
              exact ⟨by omega, by omega, k, Or.inl rfl⟩
          · by_cases hl : p + 1 < b + sz K A B (A s) + sz K A B (B s)
            · have := (okb.1 p z hp2).2.2.2.2 hl
              exact ⟨this.1, by omega, this.2.2.1, this.2.2.2⟩
            · have hpe : p = b + sz K A B (A s) + sz K A B (B s) - 1 := by omega
              rw [hpe, eu2, er]
              exact ⟨by omega, by omega, k, Or.inr ⟨k2, rfl⟩⟩
        refine ⟨fun p hp1 hp2 => ?_, fun w hw1 hw2 p hp => ?_⟩
        · by_cases hr : p = b + sz K A B (A s) + sz K A B (B s)
          · subst hr
            rw [exr, eu, eu2, er, ra, rb, e1]
            exact ⟨hs, by omega, fun _ => ⟨by omega, by omega, rfl, rfl⟩, fun _ => ⟨rfl, rfl, by omega⟩, fun z => by omega⟩
          · have h5 := hin p hp1 (by omega)
            rcases Nat.lt_or_ge p (b + sz K A B (A s)) with z | z
            · obtain ⟨q1, q2, q3, q4, q5⟩ := oka.1 p hp1 z
              exact ⟨q1, q2, q3, q4, fun _ => ⟨h5.1, by omega, h5.2.2⟩⟩
            · obtain ⟨q1, q2, q3, q4, q5⟩ := okb.1 p z (by omega)
              exact ⟨q1, by omega, fun z3 => by have := q3 z3; exact ⟨by omega, this.2.1, this.2.2⟩, q4, fun _ => ⟨h5.1, by omega, h5.2.2⟩⟩
        · by_cases hr : w = b + sz K A B (A s) + sz K A B (B s)
          · subst hr
            rw [elo] at hp ⊢
            refine ⟨fun z => (hin p hp z).2.1, fun z => ?_⟩
            by_cases hpr : p = b + sz K A B (A s) + sz K A B (B s)
            · rw [hpr, elo]; exact Nat.le_refl _
            · rcases Nat.lt_or_ge p (b + sz K A B (A s)) with y | y
              · have := (oka.1 p hp y).2.1
                unfold lof; omega
              · have := (okb.1 p y (by omega)).2.1
                unfold lof; omega
          · rcases Nat.lt_or_ge w (b + sz K A B (A s)) with y | y
            · exact oka.2 w hw1 y p hp
            · exact okb.2 w y (by omega) p hp
/-- a layout exists -/
theorem tr_ext {K A B sg us sg' us' : Nat → Nat} {ns : Nat} (h : TB K A B ns) : ∀ f b s, s < ns → LYf K A B sg us f b s → (∀ p, b ≤ p → p < b + sz K A B s → sg' p = sg p) → (∀ p, b ≤ p → p + 1 < b + sz K A B s → us' p = us p) → LYf K A B sg' us' f b s := by
  intro f
  induction f with
  | zero => intro b s _ z; exact absurd z (by intro z; exact z)
  | succ f ih =>
    intro b s hs ⟨l1, l2, l3⟩ h1 h2
    have hpos := tr_pos h hs
    have hb := h.2 s hs
    refine ⟨by rw [h1 _ (by omega) (by omega)]; exact l1, fun k => ?_, fun k => ?_⟩
    · have ha := hb.2.1 k
      have pa := tr_pos h (show A s < ns by omega)
      have he : sz K A B (A s) + 1 ≤ sz K A B s := by
        rcases Nat.lt_or_ge (K s) 16 with k2 | k2
        · rw [tr_sz1 h hs k k2]; omega
        · rw [tr_sz2 h hs k2]; omega
      obtain ⟨q1, q2⟩ := l2 k
      exact ⟨ih b (A s) (by omega) q1 (fun p p1 p2 => h1 p p1 (by omega)) (fun p p1 p2 => h2 p p1 (by omega)), by rw [h2 _ (by omega) (by omega)]; exact q2⟩
    · have ha := hb.2.1 (by omega)
      have hbb := hb.2.2 k
      have pa := tr_pos h (show A s < ns by omega)
      have pb := tr_pos h (show B s < ns by omega)
      have he := tr_sz2 h hs k
      obtain ⟨q1, q2⟩ := l3 k
      exact ⟨ih _ (B s) (by omega) q1 (fun p p1 p2 => h1 p (by omega) (by omega)) (fun p p1 p2 => h2 p (by omega) (by omega)), by rw [h2 _ (by omega) (by omega)]; exact q2⟩
theorem tr_exists {K A B : Nat → Nat} {ns : Nat} (h : TB K A B ns) : ∀ f s, s < ns → s < f → ∀ b, ∃ sg us : Nat → Nat, LYf K A B sg us f b s := by
  intro f
  induction f with
  | zero => intro s _ z; omega
  | succ f ih =>
    intro s hs hf b
    have hb := h.2 s hs
    rcases Nat.lt_or_ge (K s) 3 with k | k
    · exact ⟨fun _ => s, fun _ => 0, rfl, fun z => by omega, fun z => by omega⟩
    · have ha := hb.2.1 k
      have pa := tr_pos h (show A s < ns by omega)
      obtain ⟨sa, ua, la⟩ := ih (A s) (by omega) (by omega) b
      rcases Nat.lt_or_ge (K s) 16 with k2 | k2
      · have e1 := tr_sz1 h hs k k2
        refine ⟨fun p => if p = b + sz K A B s - 1 then s else sa p, fun p => if p = b + sz K A B (A s) - 1 then b + sz K A B s - 1 else ua p, if_pos rfl, fun _ => ⟨tr_ext h f b (A s) (by omega) la (fun p p1 p2 => if_neg (by omega)) (fun p p1 p2 => if_neg (by omega)), if_pos rfl⟩, fun z => by omega⟩
      · have e1 := tr_sz2 h hs k2
        have hbb := hb.2.2 k2
        have pb := tr_pos h (show B s < ns by omega)
        obtain ⟨sb, ub, lb⟩ := ih (B s) (by omega) (by omega) (b + sz K A B (A s))
        refine ⟨fun p => if p = b + sz K A B s - 1 then s else if p < b + sz K A B (A s) then sa p else sb p, fun p => if p = b + sz K A B (A s) - 1 ∨ p = b + sz K A B s - 2 then b + sz K A B s - 1 else if p < b + sz K A B (A s) then ua p else ub p, if_pos rfl, fun _ => ⟨tr_ext h f b (A s) (by omega) la (fun p p1 p2 => ?_) (fun p p1 p2 => ?_), if_pos (Or.inl rfl)⟩, fun _ => ⟨tr_ext h f _ (B s) (by omega) lb (fun p p1 p2 => ?_) (fun p p1 p2 => ?_), if_pos (Or.inr rfl)⟩⟩
        · rw [if_neg (by omega), if_pos (by omega)]
        · rw [if_neg (by omega), if_pos (by omega)]
        · rw [if_neg (by omega), if_neg (by omega)]
        · rw [if_neg (by omega), if_neg (by omega)]
/-- and is unique -/
theorem tr_uniq {K A B sg us sg' us' : Nat → Nat} {ns : Nat} (h : TB K A B ns) : ∀ f f' b s, s < ns → LYf K A B sg us f b s → LYf K A B sg' us' f' b s → (∀ p, b ≤ p → p < b + sz K A B s → sg' p = sg p) ∧ (∀ p, b ≤ p → p + 1 < b + sz K A B s → us' p = us p) := by
  intro f
  induction f with
  | zero => intro f' b s _ z; exact absurd z (by intro z; exact z)
  | succ f ih =>
    intro f' b s hs ⟨l1, l2, l3⟩ h'
    cases f' with
    | zero => exact absurd h' (by intro z; exact z)
    | succ f' =>
      obtain ⟨m1, m2, m3⟩ := h'
      have hb := h.2 s hs
      have hpos := tr_pos h hs
      rcases Nat.lt_or_ge (K s) 3 with k | k
      · have e1 := tr_sz3 h hs k
        refine ⟨fun p p1 p2 => ?_, fun p p1 p2 => by omega⟩
        have : p = b + sz K A B s - 1 := by omega
        rw [this, l1, m1]
      · have ha := hb.2.1 k
        have pa := tr_pos h (show A s < ns by omega)
        have ua := ih f' b (A s) (by omega) (l2 k).1 (m2 k).1
        rcases Nat.lt_or_ge (K s) 16 with k2 | k2
        · have e1 := tr_sz1 h hs k k2
          refine ⟨fun p p1 p2 => ?_, fun p p1 p2 => ?_⟩
          · by_cases e : p = b + sz K A B s - 1
            · rw [e, l1, m1]
            · exact ua.1 p p1 (by omega)
          · by_cases e : p = b + sz K A B (A s) - 1
            · rw [e, (l2 k).2, (m2 k).2]
            · exact ua.2 p p1 (by omega)
        · have e1 := tr_sz2 h hs k2
          have hbb := hb.2.2 k2
          have pb := tr_pos h (show B s < ns by omega)
          have ub := ih f' _ (B s) (by omega) (l3 k2).1 (m3 k2).1
          refine ⟨fun p p1 p2 => ?_, fun p p1 p2 => ?_⟩
          · by_cases e : p = b + sz K A B s - 1
            · rw [e, l1, m1]
            · rcases Nat.lt_or_ge p (b + sz K A B (A s)) with z | z
              · exact ua.1 p p1 z
              · exact ub.1 p z (by omega)
          · by_cases e : p = b + sz K A B (A s) - 1
            · rw [e, (l2 k).2, (m2 k).2]
            · by_cases e2 : p = b + sz K A B s - 2
              · rw [e2, (l3 k2).2, (m3 k2).2]
              · rcases Nat.lt_or_ge p (b + sz K A B (A s)) with z | z
                · exact ua.2 p p1 (by omega)
                · exact ub.2 p z (by omega)
