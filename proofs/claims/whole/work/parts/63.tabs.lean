/-! ===== a stage more ===== -/
theorem sz_cong {K A B K' A' B' : Nat → Nat} {ns : Nat} (h : TB K A B ns) (hk : ∀ σ, σ < ns → K' σ = K σ ∧ A' σ = A σ ∧ B' σ = B σ) : ∀ f s, s < ns → szF K' A' B' f s = szF K A B f s := by
  intro f
  induction f with
  | zero => intro s _; rfl
  | succ f ih =>
    intro s hs
    obtain ⟨k1, k2, k3⟩ := hk s hs
    obtain ⟨t1, t2, t3⟩ := h.2 s hs
    show (if K' s < 3 then 1 else if K' s < 16 then 1 + szF K' A' B' f (A' s) else 1 + szF K' A' B' f (A' s) + szF K' A' B' f (B' s)) = (if K s < 3 then 1 else if K s < 16 then 1 + szF K A B f (A s) else 1 + szF K A B f (A s) + szF K A B f (B s))
    rw [k1, k2, k3]
    by_cases e1 : K s < 3
    · rw [if_pos e1, if_pos e1]
    · have ha := ih (A s) (by have := t2 (by omega); omega)
      rw [if_neg e1, if_neg e1, ha]
      by_cases e2 : K s < 16
      · rw [if_pos e2, if_pos e2]
      · rw [if_neg e2, if_neg e2, ih (B s) (by have := t3 (by omega); omega)]
theorem tb_add {K A B : Nat → Nat} {ns kn an bn : Nat} (h : TB K A B ns) (hn : ns < 12) (hk : kn ≤ 20) (ha : 3 ≤ kn → an < ns) (hb : 16 ≤ kn → bn < ns) : TB (fup K ns kn) (fup A ns an) (fup B ns bn) (ns + 1) := by
  refine ⟨by omega, fun s hs => ?_⟩
  by_cases e : s = ns
  · subst e
    rw [fu_s, fu_s, fu_s]
    exact ⟨hk, ha, hb⟩
  · rw [fu_n e, fu_n e, fu_n e]
    exact h.2 s (by omega)
theorem sz_add {K A B : Nat → Nat} {ns kn an bn : Nat} (h : TB K A B ns) {s : Nat} (hs : s < ns) : sz (fup K ns kn) (fup A ns an) (fup B ns bn) s = sz K A B s :=
  sz_cong h (fun σ hσ => ⟨fu_n (by omega), fu_n (by omega), fu_n (by omega)⟩) 13 s hs
theorem tx_add {ns kn : Nat} {K A B : Nat → Nat} {oa ob : Nat → Int32} {ti se sc : Int32} {so sk sa sb sp sp' ps pu px py sr : Nat → Int32} {a b : Int32} (h : TXt ns K A B oa ob (ti, se, sc, so, sk, sa, sb, sp, ps, pu, px, py, sr)) (hn : ns < 12) (ho : opk kn a b) (ha : 3 ≤ kn → cl a < ns ∧ a = nI (cl a)) (hb : 16 ≤ kn → cl b < ns ∧ b = nI (cl b)) (h1 : ∀ σ, σ < ns → sp' σ = sp σ) (h2 : sp' ns = nI (if kn < 3 then 1 else if kn < 16 then 1 + sz K A B (cl a) else 1 + sz K A B (cl a) + sz K A B (cl b))) :
    TXt (ns + 1) (fup K ns kn) (fup A ns (cl a)) (fup B ns (cl b)) (fup oa ns a) (fup ob ns b) (ti, se, nI (ns + 1), so, upd sk ns (nI kn), upd sa ns a, upd sb ns b, sp', ps, pu, px, py, sr) := by
  have hTB := tb_add (an := cl a) (bn := cl b) h.1 hn ho.1 (fun y => (ha y).1) (fun y => (hb y).1)
  refine ⟨hTB, rfl, fun σ hσ => ?_⟩
  by_cases e : σ = ns
  · have hz := tr_sz hTB (s := ns) (by omega)
    subst e
    rw [fu_s, fu_s, fu_s] at hz
    rw [pk_us, pk_us, pk_us, fu_s, fu_s, fu_s, fu_s, fu_s, h2]
    refine ⟨rfl, rfl, rfl, ?_, ho, fun y => (ha y).2, fun y => (hb y).2⟩
    rw [hz]
    by_cases e1 : kn < 3
    · rw [if_pos e1, if_pos e1]
    · rw [if_neg e1, if_neg e1, sz_add h.1 (ha (by omega)).1]
      by_cases e2 : kn < 16
      · rw [if_pos e2, if_pos e2]
      · rw [if_neg e2, if_neg e2, sz_add h.1 (hb (by omega)).1]
  · have hs : σ < ns := by omega
    rw [pk_un e, pk_un e, pk_un e, fu_n e, fu_n e, fu_n e, fu_n e, fu_n e, h1 σ hs, sz_add h.1 hs]
    exact h.2.2 σ hs
theorem ty_add {ns kn : Nat} {K A B : Nat → Nat} {oa ob : Nat → Int32} {ki pa pb : Nat → Int32} {a b : Int32} (h : TYt ns K A B oa ob ki pa pb) (hn : ns < 12) (ho : opk kn a b) (ha : 3 ≤ kn → cl a < ns ∧ a = nI (cl a)) (hb : 16 ≤ kn → cl b < ns ∧ b = nI (cl b)) :
    TYt (ns + 1) (fup K ns kn) (fup A ns (cl a)) (fup B ns (cl b)) (fup oa ns a) (fup ob ns b) (upd ki ns (nI kn)) (upd pa ns a) (upd pb ns b) := by
  refine ⟨tb_add (an := cl a) (bn := cl b) h.1 hn ho.1 (fun y => (ha y).1) (fun y => (hb y).1), fun σ hσ => ?_⟩
  by_cases e : σ = ns
  · subst e
    rw [pk_us, pk_us, pk_us, fu_s, fu_s, fu_s, fu_s, fu_s]
    exact ⟨rfl, rfl, rfl, ho, fun y => (ha y).2, fun y => (hb y).2⟩
  · rw [pk_un e, pk_un e, pk_un e, fu_n e, fu_n e, fu_n e, fu_n e, fu_n e]
    exact h.2 σ (by omega)
/-! ===== request: what waits is delivered ===== -/
def dlw (t : Nat) : List Int32 → Sb → Sb
  | [], (st, co, en, dm, dv, _, hh) => (st, co, en, dm, dv, [], hh)
  | v :: r, (st, co, en, dm, dv, ws, hh) => if dm ≤ 0 then (st, co, en, dm, dv, v :: r, hh) else dlw t r (sdl t v (st, co, en, dm, dv, ws, hh))
def ndm (n dm : Int64) : Int64 := if n ≤ 9223372036854775807 - dm then dm + n else 9223372036854775807
def srq (t : Nat) (n : Int64) : Sb → Sb
  | (st, co, en, dm, dv, ws, hh) => if 1 ≤ n then sef (dlw t ws (st, co, en, ndm n dm, dv, ws, hh)) else (2, 6, en, dm, dv, [], hh)
theorem dw_keep {t : Nat} : ∀ (ws : List Int32) (s : Sb), (dlw t ws s).1 = s.1 ∧ (dlw t ws s).2.1 = s.2.1 ∧ (dlw t ws s).2.2.1 = s.2.2.1 := by
  intro ws
  induction ws with
  | nil =>
    intro s
    obtain ⟨st, co, en, dm, dv, w, hh⟩ := s
    exact ⟨rfl, rfl, rfl⟩
  | cons v r ih =>
    intro s
    obtain ⟨st, co, en, dm, dv, w, hh⟩ := s
    by_cases h : dm ≤ 0
    · have e : dlw t (v :: r) (st, co, en, dm, dv, w, hh) = (st, co, en, dm, dv, v :: r, hh) := if_pos h
      rw [e]
      exact ⟨rfl, rfl, rfl⟩
    · have e : dlw t (v :: r) (st, co, en, dm, dv, w, hh) = dlw t r (sdl t v (st, co, en, dm, dv, w, hh)) := if_neg h
      rw [e]
      exact ih _
theorem dw_len {t : Nat} : ∀ (ws : List Int32) (s : Sb), (dlw t ws s).2.2.2.2.2.1.length ≤ ws.length := by
  intro ws
  induction ws with
  | nil =>
    intro s
    obtain ⟨st, co, en, dm, dv, w, hh⟩ := s
    exact Nat.le_refl _
  | cons v r ih =>
    intro s
    obtain ⟨st, co, en, dm, dv, w, hh⟩ := s
    by_cases h : dm ≤ 0
    · have e : dlw t (v :: r) (st, co, en, dm, dv, w, hh) = (st, co, en, dm, dv, v :: r, hh) := if_pos h
      rw [e]
      exact Nat.le_refl _
    · have e : dlw t (v :: r) (st, co, en, dm, dv, w, hh) = dlw t r (sdl t v (st, co, en, dm, dv, w, hh)) := if_neg h
      rw [e]
      exact Nat.le_trans (ih _) (Nat.le_succ _)
theorem sr_enz {t : Nat} {n : Int64} {s : Sb} {z0 : Option (Int32 × Nat)} (h0 : s.1 = 0) (h : ENZ z0 s) : ENZ z0 (srq t n s) := by
  obtain ⟨st, co, en, dm, dv, ws, hh⟩ := s
  have h0' : st = 0 := h0
  obtain ⟨e1, e2⟩ := h h0
  unfold srq
  dsimp only
  by_cases hn : 1 ≤ n
  rotate_left
  · rw [if_neg hn]
    intro y
    exact absurd (show (2 : Int32) = 0 from y) (by decide)
  · rw [if_pos hn]
    obtain ⟨k1, k2, k3⟩ := dw_keep (t := t) ws (st, co, en, ndm n dm, dv, ws, hh)
    generalize dlw t ws (st, co, en, ndm n dm, dv, ws, hh) = q at k1 k2 k3
    obtain ⟨st', co', en', dm', dv', ws', hh'⟩ := q
    have k1' : st' = st := k1
    have k2' : co' = co := k2
    have k3' : en' = en := k3
    subst k1' k2' k3'
    unfold sef
    dsimp only
    by_cases hc : en' ≠ 0 ∧ ws' = []
    · rw [if_pos hc]
      intro y
      exfalso
      revert y
      dsimp only
      split <;> decide
    · rw [if_neg hc]
      intro _
      refine ⟨e1, fun w hw => ?_⟩
      obtain ⟨f1, f2, f3⟩ := e2 w hw
      refine ⟨f1, f2, fun y => hc ⟨?_, y⟩⟩
      have f1' : en' = (if w.1 = 0 then 2 else 3) := f1
      rw [f1']
      split <;> decide
/-! ===== open: a pure count ===== -/
def upS (us : Nat → Nat) (n : Nat) (H : Nat → List Ev) : Nat → Nat → Bool
  | 0, _ => true
  | f + 1, q => if q + 1 = n then true else if fin (H (us q)) = true then false else upS us n H f (us q)
theorem up_more {us : Nat → Nat} {n : Nat} {H : Nat → List Ev} (h : ∀ q, q + 1 < n → q < us q ∧ us q < n) : ∀ f q, q < n → n ≤ q + f → upS us n H (f + 1) q = upS us n H f q := by
  intro f
  induction f with
  | zero => intro q h1 h2; omega
  | succ f ih =>
    intro q h1 h2
    show (if q + 1 = n then true else if fin (H (us q)) = true then false else upS us n H (f + 1) (us q)) = (if q + 1 = n then true else if fin (H (us q)) = true then false else upS us n H f (us q))
    by_cases e : q + 1 = n
    · rw [if_pos e, if_pos e]
    · rw [if_neg e, if_neg e]
      have := h q (by omega)
      rw [ih (us q) this.2 (by omega)]
def cnp (P : Nat → Bool) : Nat → Nat
  | 0 => 0
  | m + 1 => cnp P m + if P m = true then 1 else 0
theorem cn_cong {P Q : Nat → Bool} : ∀ m, (∀ q, q < m → P q = Q q) → cnp P m = cnp Q m := by
  intro m
  induction m with
  | zero => intro _; rfl
  | succ m ih =>
    intro h
    show cnp P m + (if P m = true then 1 else 0) = cnp Q m + (if Q m = true then 1 else 0)
    rw [ih (fun q hq => h q (by omega)), h m (by omega)]
theorem cn_pad {P : Nat → Bool} {n : Nat} (h : ∀ q, n ≤ q → P q = false) : ∀ d, cnp P (n + d) = cnp P n := by
  intro d
  induction d with
  | zero => rfl
  | succ d ih =>
    show cnp P (n + d) + (if P (n + d) = true then 1 else 0) = cnp P n
    rw [ih, h (n + d) (by omega)]
    rfl
theorem cn_le {P : Nat → Bool} : ∀ m, cnp P m ≤ m := by
  intro m
  induction m with
  | zero => exact Nat.le_refl _
  | succ m ih =>
    show cnp P m + (if P m = true then 1 else 0) ≤ m + 1
    split <;> omega
