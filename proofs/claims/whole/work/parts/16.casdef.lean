/-! ===== the cascade: what holds while a tick runs ===== -/
abbrev EnvP : Type := Nat × (Nat → Nat) × (Nat → List Lg) × Nat × List Lg × Nat × Nat × Nat × (Nat → Nat) × (Nat → Nat) × (Nat → Nat) × (Nat → Nat) × (Nat → Nat) × (Nat → Nat) × (Nat → Int32) × (Nat → Int32) × Sb
def e_M (E : EnvP) : Nat := E.1
def e_c (E : EnvP) : Nat → Nat := E.2.1
def e_lg (E : EnvP) : Nat → List Lg := E.2.2.1
def e_t (E : EnvP) : Nat := E.2.2.2.1
def e_LG (E : EnvP) : List Lg := E.2.2.2.2.1
def e_id (E : EnvP) : Nat := E.2.2.2.2.2.1
def e_n (E : EnvP) : Nat := E.2.2.2.2.2.2.1
def e_h0 (E : EnvP) : Nat := E.2.2.2.2.2.2.2.1
def e_kd (E : EnvP) : Nat → Nat := E.2.2.2.2.2.2.2.2.1
def e_us (E : EnvP) : Nat → Nat := E.2.2.2.2.2.2.2.2.2.1
def e_xc (E : EnvP) : Nat → Nat := E.2.2.2.2.2.2.2.2.2.2.1
def e_yc (E : EnvP) : Nat → Nat := E.2.2.2.2.2.2.2.2.2.2.2.1
def e_lo (E : EnvP) : Nat → Nat := E.2.2.2.2.2.2.2.2.2.2.2.2.1
def e_sg (E : EnvP) : Nat → Nat := E.2.2.2.2.2.2.2.2.2.2.2.2.2.1
def e_oa (E : EnvP) : Nat → Int32 := E.2.2.2.2.2.2.2.2.2.2.2.2.2.2.1
def e_ob (E : EnvP) : Nat → Int32 := E.2.2.2.2.2.2.2.2.2.2.2.2.2.2.2.1
def e_s0 (E : EnvP) : Sb := E.2.2.2.2.2.2.2.2.2.2.2.2.2.2.2.2
def ab (E : EnvP) (p : Nat) : Nat := 9 * e_id E + p
/-- the tree of parts -/
def TR (E : EnvP) : Prop :=
  e_id E < 3 ∧ 1 ≤ e_n E ∧ e_n E ≤ 9 ∧
  (∀ p, p < e_n E → e_lo E p ≤ p) ∧
  (∀ p, p < e_n E → e_kd E p < 3 → e_lo E p = p) ∧
  (∀ p, p < e_n E → 3 ≤ e_kd E p → e_xc E p < p ∧ e_us E (e_xc E p) = p ∧ e_lo E (e_xc E p) = e_lo E p) ∧
  (∀ p, p < e_n E → 3 ≤ e_kd E p → e_kd E p < 16 → e_xc E p + 1 = p) ∧
  (∀ p, p < e_n E → 16 ≤ e_kd E p → e_yc E p + 1 = p ∧ e_us E (e_yc E p) = p ∧ e_lo E (e_yc E p) = e_xc E p + 1 ∧ e_xc E p < e_yc E p) ∧
  (∀ p, p + 1 < e_n E → p < e_us E p ∧ e_us E p < e_n E ∧ 3 ≤ e_kd E (e_us E p) ∧ (e_xc E (e_us E p) = p ∨ (16 ≤ e_kd E (e_us E p) ∧ e_yc E (e_us E p) = p))) ∧
  (∀ w, w < e_n E → ∀ p, e_lo E w ≤ p → p < w → e_us E p ≤ w) ∧
  (∀ w, w < e_n E → ∀ p, e_lo E w ≤ p → p ≤ w → e_lo E w ≤ e_lo E p)
def XS (E : EnvP) (z : St2) : Prop :=
  HT (e_t E) z ∧ ∀ p, p < e_n E → HZ (ab E p) (e_t E) (e_sg E p) (e_kd E p) (e_oa E p) (e_ob E p) z ∧ HC (ab E p) (ab E (e_xc E p)) (ab E (e_yc E p)) (e_kd E p) z ∧ HU (ab E p) (if p + 1 = e_n E then -1 else nI (ab E (e_us E p))) z
def Rn (E : EnvP) (H : Nat → List Ev) (F : Nat → Nat) (p : Nat) : RSt := RR (e_kd E p) (e_oa E p) (e_ob E p) p (F p) (e_lg E p) (e_c E p) (H (e_xc E p)) (H (e_yc E p))
def phs (b f : Bool) : Int32 := if b = true then (if f = true then 2 else 1) else 0
def mt (k w : Nat) : Bool := (k == 19 && w == 2) || (k == 20 && w == 3)
def evf (s : Sb) (e : Ev) : Sb := sst (tim e.2.2) e.1 e.2.1 s
def nb (LG : List Lg) (fr : Nat) : Nat := (LG.filter (fun g => !(hrs fr g.2.2.2))).length
/-- what holds all along -/
def IV (E : EnvP) (u : SX) (H : Nat → List Ev) (F : Nat → Nat) (bg : Nat → Bool) : Prop :=
  XS E (x_st2 u) ∧
  (∀ q, q < e_n E → x_phase u (ab E q) = phs (bg q) (fin (H q))) ∧
  (∀ q, q < e_n E → ∀ e ∈ H q, e.2.2 ≤ e_M E) ∧
  (∀ q, q < e_n E → bg q = true → F q ≤ e_M E) ∧
  (e_h0 E ≤ (H (e_n E - 1)).length ∧ RepU u (e_id E) (((H (e_n E - 1)).drop (e_h0 E)).foldl evf (e_s0 E))) ∧
  (∀ q, q < e_n E → 19 ≤ e_kd E q → bg (e_yc E q) = true → ∃ e ∈ H (e_xc E q), mt (e_kd E q) e.1 = true) ∧
  (∀ q, q < e_n E → bg q = false → H q = []) ∧
  (∀ q, q + 1 < e_n E → bg q = true → bg (e_us E q) = true) ∧
  (∀ q, q < e_n E → bg q = true → x_beganAfter u (ab E q) = nI (nb (e_LG E) (F q))) ∧
  x_sent u = nI (e_LG E).length
/-- part q's cells show its run -/
def CL (E : EnvP) (u : SX) (H : Nat → List Ev) (F : Nat → Nat) (bg : Nat → Bool) (q : Nat) : Prop :=
  (bg q = true → (Rn E H F q).2 = H q ∧ (fin (H q) = false → RepP u (ab E q) (Rn E H F q).1 ∧ okS (e_kd E q) (e_ob E q) (Rn E H F q).1 ∧ (16 ≤ e_kd E q → e_kd E q < 19 → (Rn E H F q).1.2.2.2.2.2.2.2.2.1 = fin (H (e_xc E q)) ∧ (Rn E H F q).1.2.2.2.2.2.2.2.2.2 = fin (H (e_yc E q))))) ∧
  (bg q = false → RepP u (ab E q) clr)
def XB (E : EnvP) (H : Nat → List Ev) (p : Nat) : Prop := ∀ z, z < e_n E → 16 ≤ e_kd E z → e_kd E z < 19 → e_lo E z ≤ p → p ≤ e_xc E z → ∀ e ∈ H (e_yc E z), e.2.2 < e_M E
def CK (E : EnvP) (a : Nat) : Prop := ∀ q, a ≤ q → q < e_n E → ckm q (e_M E) = e_c E q
def FR (E : EnvP) (a : Nat) (u u' : SX) : Prop :=
  x_st2 u' = x_st2 u ∧ (∀ j, j < ab E a ∨ 9 * e_id E + e_n E ≤ j → ∀ S, RepP u j S → RepP u' j S) ∧ (∀ j, j < 9 * e_id E ∨ 9 * e_id E + e_n E ≤ j → x_phase u' j = x_phase u j ∧ x_beganAfter u' j = x_beganAfter u j) ∧ (∀ j, j ≠ e_id E → ∀ s, RepU u j s → RepU u' j s)
def DN (E : EnvP) (F : Nat → Nat) (bg : Nat → Bool) (q : Nat) : Prop := (3 ≤ e_kd E q → bg (e_xc E q) = true ∧ F (e_xc E q) = F q) ∧ (16 ≤ e_kd E q → e_kd E q < 19 → bg (e_yc E q) = true ∧ F (e_yc E q) = F q)
def C2 (E : EnvP) (H : Nat → List Ev) (F : Nat → Nat) (bg : Nat → Bool) (q : Nat) : Prop := ∀ e ∈ H (e_xc E q), mt (e_kd E q) e.1 = true → bg (e_yc E q) = true ∧ F (e_yc E q) = e.2.2
/-- what a stretch of the cascade did that touched parts from a on -/
def PG (E : EnvP) (a z0 : Nat) (u : SX) (H : Nat → List Ev) (F : Nat → Nat) (bg : Nat → Bool) (u' : SX) (H' : Nat → List Ev) (F' : Nat → Nat) (bg' : Nat → Bool) : Prop :=
  FR E a u u' ∧ (∀ q, q < a → H' q = H q ∧ F' q = F q ∧ bg' q = bg q) ∧
  (∀ q, q < e_n E → bg q = true → bg' q = true ∧ F' q = F q) ∧
  (∀ q, q < e_n E → bg' q = true → bg q = true ∨ (F' q = e_M E ∧ DN E F' bg' q)) ∧
  (∀ q, q < e_n E → 19 ≤ e_kd E q → C2 E H F bg q → C2 E H' F' bg' q) ∧
  (∀ w, w < e_n E → 16 ≤ e_kd E w → e_kd E w < 19 → bg w = true → bg (e_yc E w) = false → e_yc E w ≠ z0 → bg' (e_yc E w) = false)
def e3 : Nat → Nat
  | 0 => 0
  | d + 1 => 3 * e3 d + 1
def fup {α : Type} (f : Nat → α) (p : Nat) (x : α) : Nat → α := fun q => if q = p then x else f q
theorem fu_s {α : Type} {f : Nat → α} {p : Nat} {x : α} : fup f p x p = x := if_pos rfl
theorem fu_n {α : Type} {f : Nat → α} {p q : Nat} {x : α} (h : q ≠ p) : fup f p x q = f q := if_neg h
theorem e3_mono : ∀ {a b : Nat}, a ≤ b → e3 a ≤ e3 b := by
  intro a b h
  induction b with
  | zero => rw [Nat.le_zero.mp h]; exact Nat.le_refl _
  | succ b ih =>
    rcases Nat.lt_or_ge a (b + 1) with z | z
    · have := ih (by omega)
      show e3 a ≤ 3 * e3 b + 1
      omega
    · have : a = b + 1 := by omega
      rw [this]; exact Nat.le_refl _
theorem e3_lt {a b : Nat} (h : a < b) : 3 * e3 a + 1 ≤ e3 b := e3_mono (a := a + 1) h
theorem fr_refl {E : EnvP} {a : Nat} {u : SX} : FR E a u u := ⟨rfl, fun _ _ _ h => h, fun _ _ => ⟨rfl, rfl⟩, fun _ _ _ h => h⟩
theorem fr_trans {E : EnvP} {a : Nat} {u v w : SX} (h1 : FR E a u v) (h2 : FR E a v w) : FR E a u w :=
  ⟨h2.1.trans h1.1, fun j hj S hS => h2.2.1 j hj S (h1.2.1 j hj S hS), fun j hj => ⟨(h2.2.2.1 j hj).1.trans (h1.2.2.1 j hj).1, (h2.2.2.1 j hj).2.trans (h1.2.2.1 j hj).2⟩, fun j hj s hs => h2.2.2.2 j hj s (h1.2.2.2 j hj s hs)⟩
theorem fr_mono {E : EnvP} {a b : Nat} {u v : SX} (hab : a ≤ b) (h : FR E b u v) : FR E a u v :=
  ⟨h.1, fun j hj S hS => h.2.1 j (by rcases hj with z | z; exact Or.inl (by unfold ab at z ⊢; omega); exact Or.inr z) S hS, h.2.2.1, h.2.2.2⟩
theorem pg_refl {E : EnvP} {a z0 : Nat} {u : SX} {H : Nat → List Ev} {F : Nat → Nat} {bg : Nat → Bool} : PG E a z0 u H F bg u H F bg :=
  ⟨fr_refl, fun _ _ => ⟨rfl, rfl, rfl⟩, fun _ _ h => ⟨h, rfl⟩, fun _ _ h => Or.inl h, fun _ _ _ h => h, fun _ _ _ _ _ h _ => h⟩
theorem pg_mono {E : EnvP} {a b z0 : Nat} {u : SX} {H : Nat → List Ev} {F : Nat → Nat} {bg : Nat → Bool} {u' : SX} {H' : Nat → List Ev} {F' : Nat → Nat} {bg' : Nat → Bool} (hab : a ≤ b) (h : PG E b z0 u H F bg u' H' F' bg') : PG E a z0 u H F bg u' H' F' bg' :=
  ⟨fr_mono hab h.1, fun q hq => h.2.1 q (by omega), h.2.2.1, h.2.2.2.1, h.2.2.2.2⟩
theorem pg_dn {E : EnvP} (hT : TR E) {F F' : Nat → Nat} {bg bg' : Nat → Bool} {q : Nat} (hq : q < e_n E) (hm : ∀ q, q < e_n E → bg q = true → bg' q = true ∧ F' q = F q) (hb : bg q = true) (h : DN E F bg q) : DN E F' bg' q := by
  obtain ⟨_, _, _, _, _, h6, _, h8, _⟩ := hT
  constructor
  · intro h3
    have hx := h6 q hq h3
    have := h.1 h3
    have m1 := hm _ (by omega) this.1
    exact ⟨m1.1, by rw [m1.2, this.2, (hm q hq hb).2]⟩
  · intro h16 h19
    have hy := h8 q hq h16
    have := h.2 h16 h19
    have m1 := hm (e_yc E q) (by omega) this.1
    exact ⟨m1.1, by rw [m1.2, this.2, (hm q hq hb).2]⟩
theorem pg_trans {E : EnvP} (hT : TR E) {a z0 : Nat} {u u1 u2 : SX} {H H1 H2 : Nat → List Ev} {F F1 F2 : Nat → Nat} {bg bg1 bg2 : Nat → Bool} (h1 : PG E a z0 u H F bg u1 H1 F1 bg1) (h2 : PG E a z0 u1 H1 F1 bg1 u2 H2 F2 bg2) : PG E a z0 u H F bg u2 H2 F2 bg2 := by
  refine ⟨fr_trans h1.1 h2.1, fun q hq => ?_, fun q hq hb => ?_, fun q hq hb => ?_, fun q hq hk hc => h2.2.2.2.2.1 q hq hk (h1.2.2.2.2.1 q hq hk hc), fun w hw h16 h19 hb hy hz => h2.2.2.2.2.2 w hw h16 h19 (h1.2.2.1 w hw hb).1 (h1.2.2.2.2.2 w hw h16 h19 hb hy hz) hz⟩
  · have a1 := h1.2.1 q hq
    have a2 := h2.2.1 q hq
    exact ⟨a2.1.trans a1.1, a2.2.1.trans a1.2.1, a2.2.2.trans a1.2.2⟩
  · have a1 := h1.2.2.1 q hq hb
    have a2 := h2.2.2.1 q hq a1.1
    exact ⟨a2.1, a2.2.trans a1.2⟩
  · rcases h2.2.2.2.1 q hq hb with z | z
    · rcases h1.2.2.2.1 q hq z with y | y
      · exact Or.inl y
      · exact Or.inr ⟨((h2.2.2.1 q hq z).2).trans y.1, pg_dn hT hq h2.2.2.1 z y.2⟩
    · exact Or.inr z
theorem cs_drop_snoc {α : Type} {l : List α} {x : α} {h : Nat} (hh : h ≤ l.length) : (l ++ [x]).drop h = l.drop h ++ [x] := by
  rw [List.drop_append, Nat.sub_eq_zero_of_le hh, List.drop_zero]
theorem cs_fin_snoc {l : List Ev} {w : Nat} {v : Int32} {m : Nat} (h : fin l = false) : fin (l ++ [(w, v, m)]) = (w != 1) := by
  rw [rn_fin_app, h]
  simp [fin]
