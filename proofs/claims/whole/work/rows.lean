section
theorem pk_us {f : Nat → Int32} {k : Nat} {x : Int32} : upd f k x k = x := if_pos rfl
theorem pk_un {f : Nat → Int32} {k j : Nat} {x : Int32} (h : j ≠ k) : upd f k x j = f j := if_neg h
theorem pk_uLs {f : Nat → Int64} {k : Nat} {x : Int64} : vp_updL f k x k = x := if_pos rfl
theorem pk_uLn {f : Nat → Int64} {k j : Nat} {x : Int64} (h : j ≠ k) : vp_updL f k x j = f j := if_neg h
theorem pk_sub {a b : Nat} (h : b ≤ a) : nI a - nI b = nI (a - b) := by
  obtain ⟨c, rfl⟩ : ∃ c, a = c + b := ⟨a - b, by omega⟩
  rw [← nI_add, Int32.add_sub_cancel, Nat.add_sub_cancel]
theorem pk_m1 (n : Nat) : nI (n + 1) + (-1) = nI n := by
  rw [← nI_1, Int32.add_assoc, show (1 : Int32) + (-1) = 0 from rfl, Int32.add_zero]
theorem pk_mul (a b : Nat) : nI a * nI b = nI (a * b) := (Int32.ofNat_mul a b).symm
theorem pk_div {a d : Nat} (ha : a < 2 ^ 31) (h0 : 0 < d) (hd : d < 2 ^ 31) : nI a / nI d = nI (a / d) := by
  apply Int32.toInt_inj.mp
  rw [lg_idiv_nonneg (by rw [nI_toInt ha]; omega) (by rw [nI_toInt hd]; omega), nI_toInt ha, nI_toInt hd, nI_toInt (Nat.lt_of_le_of_lt (Nat.div_le_self a d) ha)]
  first | rfl | exact (Int.natCast_ediv _ _).symm
theorem pk_rem {a d : Nat} (ha : a < 2 ^ 31) (h0 : 0 < d) (hd : d < 2 ^ 31) : nI a - nI a / nI d * nI d = nI (a % d) := by
  rw [pk_div ha h0 hd, pk_mul, pk_sub (Nat.div_mul_le_self a d)]
  exact congrArg nI (by have := Nat.div_add_mod' a d; omega)
theorem pk_sub_toInt {a b : Nat} (ha : a < 2 ^ 30) (hb : b < 2 ^ 30) : (nI a - nI b).toInt = (a : Int) - b := by
  rw [Int32.toInt_sub, nI_toInt (by omega), nI_toInt (by omega)]
  exact Int.bmod_eq_of_le (by omega) (by omega)
theorem pk_sneg {a b : Nat} (hb : b < 2 ^ 30) (h : a < b) : nI a - nI b < 0 := by
  rw [Int32.lt_iff_toInt_lt, pk_sub_toInt (by omega) hb, show (0 : Int32).toInt = 0 from by decide]
  omega
theorem pk_ix (x : Int32) {n : Nat} (hn : n < 2 ^ 31) : x < 0 ∨ nI n ≤ x ∨ ∃ j : Nat, j < n ∧ x = nI j := by
  by_cases h : x < 0
  · exact Or.inl h
  · obtain ⟨j, hj, rfl⟩ := nI_of h
    by_cases h2 : j < n
    · exact Or.inr (Or.inr ⟨j, h2, rfl⟩)
    · exact Or.inr (Or.inl (nI_le (by omega) hj))
theorem pk_le {x y : Int32} {A B : Prop} (a b : Nat) (f : a ≤ b → A) (g : b < a → B) (hx : x = nI a := by rfl) (hy : y = nI b := by rfl) (ha : a < 2 ^ 31 := by omega) (hb : b < 2 ^ 31 := by omega) : (x ≤ y → A) ∧ (¬ x ≤ y → B) := by
  subst hx hy
  rw [nI_leI ha hb]
  exact ⟨f, fun z => g (by omega)⟩
theorem pk_lt {x y : Int32} {A B : Prop} (a b : Nat) (f : a < b → A) (g : b ≤ a → B) (hx : x = nI a := by rfl) (hy : y = nI b := by rfl) (ha : a < 2 ^ 31 := by omega) (hb : b < 2 ^ 31 := by omega) : (x < y → A) ∧ (¬ x < y → B) := by
  subst hx hy
  rw [nI_ltI ha hb]
  exact ⟨f, fun z => g (by omega)⟩
theorem pk_eq {x y : Int32} {A B : Prop} (a b : Nat) (f : a = b → A) (g : a ≠ b → B) (hx : x = nI a := by rfl) (hy : y = nI b := by rfl) (ha : a < 2 ^ 31 := by omega) (hb : b < 2 ^ 31 := by omega) : (x = y → A) ∧ (¬ x = y → B) := by
  subst hx hy
  rw [nI_eq ha hb]
  exact ⟨f, g⟩
theorem pk_in {x : Int32} (n N : Nat) (h : n < N) (hx : x = nI n := by rfl) (hN : N < 2 ^ 31 := by omega) : vp_in x N := by
  subst hx
  exact vp_in_nI h hN
theorem pk_cl {x : Int32} (n : Nat) (hx : x = nI n := by rfl) (h : n < 2 ^ 31 := by omega) : x.toNatClampNeg = n := by
  subst hx
  exact nI_clamp h
theorem pk_tn {n : Nat} (h : n < 2 ^ 32) : (nI n).toBitVec.toNat = n := Nat.mod_eq_of_lt h
theorem pk_and (x : Int32) {m : Int32} (k : Nat) (hm : m.toBitVec.toNat = 2 ^ k - 1) : x &&& m = nI (x.toBitVec.toNat % 2 ^ k) := by
  apply Int32.toBitVec_inj.mp
  apply BitVec.eq_of_toNat_eq
  rw [Int32.toBitVec_and, BitVec.toNat_and, hm, Nat.and_two_pow_sub_one_eq_mod]
  show _ = (BitVec.ofNat 32 _).toNat
  rw [BitVec.toNat_ofNat]
  exact (Nat.mod_eq_of_lt (Nat.lt_of_le_of_lt (Nat.mod_le _ _) x.toBitVec.isLt)).symm
theorem pk_andN {n : Nat} (h : n < 2 ^ 32) {m : Int32} (k : Nat) (hm : m.toBitVec.toNat = 2 ^ k - 1) : nI n &&& m = nI (n % 2 ^ k) := by
  rw [pk_and _ k hm, pk_tn h]
theorem pk_andE (x : Int32) {m : Int32} (k : Nat) (hm : m.toBitVec.toNat = 2 ^ k - 1) : ∃ j : Nat, j < 2 ^ k ∧ x &&& m = nI j := ⟨_, Nat.mod_lt _ (Nat.two_pow_pos k), pk_and x k hm⟩
theorem pk_andIn (x : Int32) {m : Int32} (k : Nat) (hm : m.toBitVec.toNat = 2 ^ k - 1) (hk : k ≤ 30) : vp_in (x &&& m) (2 ^ k) := by
  obtain ⟨j, hj, e⟩ := pk_andE x k hm
  rw [e]
  exact vp_in_nI hj (Nat.lt_of_le_of_lt (Nat.pow_le_pow_right (by decide) hk) (by decide))
theorem pk_lT {n : Nat} (h : n < 2 ^ 63) : (lN n).toInt = (n : Int) := lg_ofNat_toInt h
theorem pk_lLT {a b : Nat} (ha : a < 2 ^ 63) (hb : b < 2 ^ 63) : lN a < lN b ↔ a < b := by
  rw [Int64.lt_iff_toInt_lt, pk_lT ha, pk_lT hb]; omega
theorem pk_lLE {a b : Nat} (ha : a < 2 ^ 63) (hb : b < 2 ^ 63) : lN a ≤ lN b ↔ a ≤ b := by
  rw [Int64.le_iff_toInt_le, pk_lT ha, pk_lT hb]; omega
theorem pk_lEQ {a b : Nat} (ha : a < 2 ^ 63) (hb : b < 2 ^ 63) : lN a = lN b ↔ a = b := by
  rw [← Int64.toInt_inj, pk_lT ha, pk_lT hb]; omega
theorem pk_lOf {x : Int64} (h : ¬ x < 0) : ∃ k : Nat, k < 2 ^ 63 ∧ x = lN k := by
  rw [Int64.lt_iff_toInt_lt] at h
  have h0 : (0 : Int64).toInt = 0 := by decide
  have hx := Int64.toInt_lt x
  refine ⟨x.toInt.toNat, by omega, Int64.toInt_inj.mp ?_⟩
  rw [pk_lT (by omega)]
  omega
theorem pk_lDiv {a b : Nat} (ha : a < 2 ^ 63) (h0 : 0 < b) (hb : b < 2 ^ 63) : lN a / lN b = lN (a / b) := by
  apply Int64.toInt_inj.mp
  rw [lg_ldiv_nonneg (by rw [pk_lT ha]; omega) (by rw [pk_lT hb]; omega), pk_lT ha, pk_lT hb, pk_lT (Nat.lt_of_le_of_lt (Nat.div_le_self a b) ha)]
  rfl
theorem pk_lRem {a b : Nat} (ha : a < 2 ^ 63) (h0 : 0 < b) (hb : b < 2 ^ 63) : lN a - lN a / lN b * lN b = lN (a % b) := by
  rw [pk_lDiv ha h0 hb, lN_mul, lN_sub (Nat.div_mul_le_self a b)]
  exact congrArg lN (by have := Nat.div_add_mod' a b; omega)
theorem pk_loop {σ : Type} (W : Nat → Nat → σ → Prop) (I : Nat → σ → Prop) (e i0 : Nat) (s : σ) (hi : i0 ≤ e) (h0 : I i0 s) (hx : ∀ n s, I e s → W (n + 1) e s)
    (hs : ∀ n i s, i < e → I i s → (∀ s', I (i + 1) s' → W n (i + 1) s') → W (n + 1) i s) : ∃ n, W n i0 s :=
  ⟨e + 1, loop_i W I e hx hs (e + 1) i0 s hi (by omega) h0⟩
theorem pk_loopD {σ : Type} (W : Nat → Nat → σ → Prop) (I : Nat → σ → Prop) (hx : ∀ n s, I 0 s → W (n + 1) 0 s)
    (hs : ∀ n i s, I (i + 1) s → (∀ s', I i s' → W n i s') → W (n + 1) (i + 1) s) : ∀ (e : Nat) (s : σ), I e s → W (e + 1) e s := by
  intro e
  induction e with
  | zero => exact fun s h => hx 0 s h
  | succ e ih => exact fun s h => hs (e + 1) e s h (fun s' h' => ih s' h')
theorem sb_m1 {p : Nat} (h : 0 < p) : nI p + (-1) = nI (p - 1) := by
  obtain ⟨q, rfl⟩ : ∃ q, p = q + 1 := ⟨p - 1, by omega⟩
  exact pk_m1 q
theorem wb_tb (n : Nat) : (lN n).toBitVec = BitVec.ofNat 64 n := rfl
theorem wb_inj {a b : Int64} (h : a.toBitVec = b.toBitVec) : a = b := Int64.toBitVec_inj.mp h
theorem wb_tn {n : Nat} (h : n < 2 ^ 64) : (lN n).toBitVec.toNat = n := by rw [wb_tb, BitVec.toNat_ofNat, Nat.mod_eq_of_lt h]
theorem wb_of (x : Int64) : ∃ n, n < 2 ^ 64 ∧ x = lN n := ⟨x.toBitVec.toNat, x.toBitVec.isLt, wb_inj (by rw [wb_tb]; simp)⟩
theorem wb_of32 (x : Int32) : ∃ n, n < 2 ^ 32 ∧ x = nI n := ⟨x.toBitVec.toNat, x.toBitVec.isLt, Int32.toBitVec_inj.mp (by show _ = BitVec.ofNat 32 _; simp)⟩
theorem wb_c : ∀ k, k < 64 → ((nI k).toInt64 &&& 63) = lN k := by decide +kernel
theorem wb_cu : ∀ k, k < 64 → ((nI k).toInt64.toUInt64 &&& Int64.toUInt64 63) = UInt64.ofNat k := by decide +kernel
theorem wb_sm : ∀ k, k < 64 → (BitVec.ofNat 64 k).smod 64 = BitVec.ofNat 64 k := by decide +kernel
theorem wb_pw {a b : Nat} (h : a ≤ b) : 2 ^ b = 2 ^ a * 2 ^ (b - a) := by rw [← Nat.pow_add]; congr 1; omega
theorem wb_lt2 {a b : Nat} (h : a < b) : 2 ^ a < 2 ^ b := Nat.pow_lt_pow_right (by decide) h
theorem wb_mod (n : Nat) : lN n = lN (n % 2 ^ 64) := wb_inj (by rw [wb_tb, wb_tb]; apply BitVec.eq_of_toNat_eq; rw [BitVec.toNat_ofNat, BitVec.toNat_ofNat, Nat.mod_mod])
theorem wb_shr {n k : Nat} (hn : n < 2 ^ 64) (hk : k < 64) : ((lN n).toUInt64 >>> ((nI k).toInt64.toUInt64 &&& Int64.toUInt64 63)).toInt64 = lN (n / 2 ^ k) := by
  rw [wb_cu k hk]
  apply wb_inj
  apply BitVec.eq_of_toNat_eq
  show ((lN n).toUInt64 >>> UInt64.ofNat k).toNat = (BitVec.ofNat 64 _).toNat
  have h1 : (UInt64.ofNat k).toNat = k := by
    show (BitVec.ofNat 64 k).toNat = k
    rw [BitVec.toNat_ofNat, Nat.mod_eq_of_lt (by omega)]
  have h2 : (lN n).toUInt64.toNat = n := wb_tn hn
  rw [UInt64.toNat_shiftRight, h1, h2, Nat.mod_eq_of_lt hk, Nat.shiftRight_eq_div_pow, BitVec.toNat_ofNat, Nat.mod_eq_of_lt (Nat.lt_of_le_of_lt (Nat.div_le_self _ _) hn)]
theorem wb_shl (n : Nat) {k : Nat} (hk : k < 64) : lN n <<< ((nI k).toInt64 &&& 63) = lN (n * 2 ^ k) := by
  rw [wb_c k hk]
  apply wb_inj
  rw [Int64.toBitVec_shiftLeft, wb_tb, wb_tb, wb_tb, wb_sm k hk]
  apply BitVec.eq_of_toNat_eq
  rw [BitVec.shiftLeft_eq', BitVec.toNat_shiftLeft, BitVec.toNat_ofNat, BitVec.toNat_ofNat, BitVec.toNat_ofNat, Nat.mod_eq_of_lt (show k < 2 ^ 64 by omega), Nat.shiftLeft_eq, Nat.mul_mod, Nat.mod_mod, ← Nat.mul_mod]
theorem wb_and {a b : Nat} (ha : a < 2 ^ 64) (hb : b < 2 ^ 64) : lN a &&& lN b = lN (a &&& b) := by
  apply wb_inj
  rw [Int64.toBitVec_and, wb_tb, wb_tb, wb_tb]
  apply BitVec.eq_of_toNat_eq
  rw [BitVec.toNat_and, BitVec.toNat_ofNat, BitVec.toNat_ofNat, BitVec.toNat_ofNat, Nat.mod_eq_of_lt ha, Nat.mod_eq_of_lt hb, Nat.mod_eq_of_lt (Nat.and_lt_two_pow _ hb)]
theorem wb_or {a b : Nat} (ha : a < 2 ^ 64) (hb : b < 2 ^ 64) : lN a ||| lN b = lN (a ||| b) := by
  apply wb_inj
  rw [Int64.toBitVec_or, wb_tb, wb_tb, wb_tb]
  apply BitVec.eq_of_toNat_eq
  rw [BitVec.toNat_or, BitVec.toNat_ofNat, BitVec.toNat_ofNat, BitVec.toNat_ofNat, Nat.mod_eq_of_lt ha, Nat.mod_eq_of_lt hb, Nat.mod_eq_of_lt (Nat.or_lt_two_pow ha hb)]
theorem wb_mask {n k : Nat} (hn : n < 2 ^ 64) (hk : k < 64) : lN n &&& lN (2 ^ k - 1) = lN (n % 2 ^ k) := by
  rw [wb_and hn (by have := wb_lt2 hk; omega), Nat.and_two_pow_sub_one_eq_mod]
theorem wb_a1 {n : Nat} (hn : n < 2 ^ 64) : lN n &&& 1 = lN (n % 2) := wb_mask (k := 1) hn (by decide)
theorem wb_bit {n k : Nat} (hn : n < 2 ^ 64) (hk : k < 64) : ((lN n).toUInt64 >>> ((nI k).toInt64.toUInt64 &&& Int64.toUInt64 63)).toInt64 &&& 1 = lN (n / 2 ^ k % 2) := by
  rw [wb_shr hn hk, wb_a1 (Nat.lt_of_le_of_lt (Nat.div_le_self _ _) hn)]
theorem u_tn {n : Nat} (h : n < 2 ^ 64) : (UInt64.ofNat n).toNat = n := Nat.mod_eq_of_lt h
theorem g_and {a b c : Nat} (ha : a < 2 ^ 64) (hb : b < 2 ^ 64) (hc : a &&& b = c) : lN a &&& lN b = lN c := by
  subst hc
  have h : UInt64.ofNat a &&& UInt64.ofNat b = UInt64.ofNat (a &&& b) := UInt64.toNat_inj.mp (by rw [UInt64.toNat_and, u_tn ha, u_tn hb, u_tn (Nat.and_lt_two_pow a hb)])
  have h2 := congrArg UInt64.toInt64 h
  exact h2
theorem g_and1 {a : Nat} (ha : a < 2 ^ 64) : lN a &&& 1 = lN (a % 2) := g_and (b := 1) ha (by decide) (Nat.and_two_pow_sub_one_eq_mod a 1)
theorem g_mask {a s p : Nat} (hp : 2 ^ s = p) (hs : s < 64) (ha : a < 2 ^ 64) : lN a &&& lN (p - 1) = lN (a % p) := by
  subst hp
  have := Nat.pow_lt_pow_right (show 1 < 2 by decide) hs
  exact g_and ha (by omega) (Nat.and_two_pow_sub_one_eq_mod a s)
theorem g_or {k p a b : Nat} (hp : 2 ^ k = p) (ha : a < p) (h : b * p + a < 2 ^ 64) : lN (b * p) ||| lN a = lN (b * p + a) := by
  subst hp
  have h1 : b * 2 ^ k ||| a = b * 2 ^ k + a := by rw [← Nat.shiftLeft_eq, Nat.shiftLeft_add_eq_or_of_lt ha]
  have h3 : UInt64.ofNat (b * 2 ^ k) ||| UInt64.ofNat a = UInt64.ofNat (b * 2 ^ k + a) := UInt64.toNat_inj.mp (by rw [UInt64.toNat_or, u_tn (by omega), u_tn (by omega), u_tn h, h1])
  have h2 := congrArg UInt64.toInt64 h3
  exact h2
theorem g_or' {k p a b : Nat} (hp : 2 ^ k = p) (ha : a < p) (h : a + b * p < 2 ^ 64) : lN a ||| lN (b * p) = lN (a + b * p) := by
  rw [Int64.or_comm, g_or hp ha (by omega), Nat.add_comm]
theorem g_ushr {a k p : Nat} {y : UInt64} (hy : y = UInt64.ofNat k) (hk : k < 64) (hp : 2 ^ k = p) (ha : a < 2 ^ 64) : ((lN a).toUInt64 >>> y).toInt64 = lN (a / p) := by
  subst hy hp
  have h : UInt64.ofNat a >>> UInt64.ofNat k = UInt64.ofNat (a / 2 ^ k) := UInt64.toNat_inj.mp (by rw [UInt64.toNat_shiftRight, u_tn ha, u_tn (by omega), u_tn (Nat.lt_of_le_of_lt (Nat.div_le_self _ _) ha), Nat.mod_eq_of_lt hk, Nat.shiftRight_eq_div_pow])
  have h2 := congrArg UInt64.toInt64 h
  exact h2
theorem g_shl {a k p : Nat} {y : Int64} (hy : y.toBitVec.smod 64 = BitVec.ofNat 64 k) (hk : k < 64) (hp : 2 ^ k = p) (ha : a < 2 ^ 64) : lN a <<< y = lN (a * p) := by
  subst hp
  apply Int64.toBitVec_inj.mp
  rw [Int64.toBitVec_shiftLeft, hy]
  apply BitVec.eq_of_toNat_eq
  have hb : (lN a).toBitVec.toNat = a := Nat.mod_eq_of_lt ha
  have hk' : (BitVec.ofNat 64 k).toNat = k := Nat.mod_eq_of_lt (by omega)
  have h : ((lN a).toBitVec <<< BitVec.ofNat 64 k).toNat = (a * 2 ^ k) % 2 ^ 64 := by simp only [BitVec.shiftLeft_eq', BitVec.toNat_shiftLeft, hb, hk', Nat.shiftLeft_eq]
  exact h
theorem pf_lI {a : Nat} (h : a < 2 ^ 63) : (lN a).toInt = (a : Int) := lg_ofNat_toInt h
theorem pf_shr {a d : Nat} {D : Int64} (hD : (D.toBitVec.smod 64).toNat = d) (h : a < 2 ^ 62) : lN a >>> D = lN (a / 2 ^ d) := by
  have hd : a / 2 ^ d ≤ a := Nat.div_le_self _ _
  apply Int64.toInt_inj.mp
  have e : (lN a >>> D).toInt = (lN a).toInt >>> d := by
    rw [← hD]
    exact BitVec.toInt_sshiftRight ..
  rw [e, Int.shiftRight_eq_div_pow, pf_lI (by omega), pf_lI (by omega)]
  rfl
theorem pf_ushr {a d : Nat} {D : UInt64} (hD : D.toNat % 64 = d) (h : a < 2 ^ 62) : ((lN a).toUInt64 >>> D).toInt64 = lN (a / 2 ^ d) := by
  have hd : a / 2 ^ d ≤ a := Nat.div_le_self _ _
  have e : (lN a).toUInt64 >>> D = UInt64.ofNat (a / 2 ^ d) := UInt64.toNat_inj.mp (by
    rw [UInt64.toNat_shiftRight, hD, Nat.shiftRight_eq_div_pow, UInt64.toNat_ofNat']
    show (UInt64.ofNat a).toNat / 2 ^ d = _
    rw [UInt64.toNat_ofNat', Nat.mod_eq_of_lt (by omega), Nat.mod_eq_of_lt (by omega)])
  rw [e]
  rfl
theorem pf_andw (x : Int64) : ∃ m, m < 2 ^ 32 ∧ x &&& 4294967295 = lN m := ⟨x.toBitVec.toNat % 2 ^ 32, Nat.mod_lt _ (by decide), Int64.toBitVec_inj.mp (BitVec.eq_of_toNat_eq (by
  show (x.toBitVec &&& 4294967295#64).toNat = (BitVec.ofNat 64 (x.toBitVec.toNat % 2 ^ 32)).toNat
  rw [BitVec.toNat_and, show (4294967295#64).toNat = 2 ^ 32 - 1 from by decide, Nat.and_two_pow_sub_one_eq_mod, BitVec.toNat_ofNat]
  omega))⟩
/-! ===== Int64 as an unsigned number: uN x ===== -/
/-! ===== own rows: moments as naturals ===== -/
def mo (t ph nu : Nat) : Nat := t * 2199023255552 + ph * 1099511627776 + nu * 256
def tm (t p : Nat) : Nat := t * 2199023255552 + p * 256
def tim (m : Nat) : Nat := m / 2199023255552
theorem ts_c41 : ((41 : Int32).toInt64 &&& 63).toBitVec.smod 64 = BitVec.ofNat 64 41 := by decide +kernel
theorem ts_c40 : ((40 : Int32).toInt64 &&& 63).toBitVec.smod 64 = BitVec.ofNat 64 40 := by decide +kernel
theorem ts_c8 : ((8 : Int32).toInt64 &&& 63).toBitVec.smod 64 = BitVec.ofNat 64 8 := by decide +kernel
theorem ts_mo {t ph nu : Nat} (ht : t < 1048576) (hp : ph < 2) (hn : nu < 4294967296) :
    ((((lN t <<< ((41 : Int32).toInt64 &&& 63)) ||| (lN ph <<< ((40 : Int32).toInt64 &&& 63))) ||| (lN nu <<< ((8 : Int32).toInt64 &&& 63))) ||| 0) = lN (mo t ph nu) := by
  rw [g_shl (k := 41) (p := 2199023255552) ts_c41 (by decide) (by decide) (by omega), g_shl (k := 40) (p := 1099511627776) ts_c40 (by decide) (by decide) (by omega), g_shl (k := 8) (p := 256) ts_c8 (by decide) (by decide) (by omega)]
  rw [g_or (k := 41) (by decide) (by omega) (by omega)]
  have e : t * 2199023255552 + ph * 1099511627776 = (t * 2 + ph) * 1099511627776 := by omega
  rw [e, g_or (k := 40) (by decide) (by omega) (by omega)]
  have e0 : (0 : Int64) = lN 0 := by decide
  have e2 : (t * 2 + ph) * 1099511627776 + nu * 256 = ((t * 2 + ph) * 4294967296 + nu) * 256 := by
    rw [show (1099511627776 : Nat) = 4294967296 * 256 from by decide, ← Nat.mul_assoc, ← Nat.add_mul]
  rw [e0, e2, g_or (k := 8) (by decide) (by omega) (by omega)]
  unfold mo
  congr 1
  omega
theorem ts_time {m : Nat} (h : m < 4611686018427387904) : ((lN m) >>> ((41 : Int32).toInt64 &&& 63)).toInt32 = nI (tim m) := by
  rw [pf_shr (d := 41) (by rw [ts_c41]; decide) (by omega), lN_i]
  rfl
theorem ts_byCall {m : Nat} (h : m < 4611686018427387904) : (((lN m) >>> ((40 : Int32).toInt64 &&& 63)) &&& 1) = 1 ↔ m / 1099511627776 % 2 = 1 := by
  rw [pf_shr (d := 40) (by rw [ts_c40]; decide) (by omega), g_and1 (by omega)]
  have e : (1 : Int64) = lN 1 := by decide
  rw [e, pk_lEQ (by omega) (by decide)]
theorem ts_number {m : Nat} (h : m < 4611686018427387904) : (((lN m) >>> ((8 : Int32).toInt64 &&& 63)) &&& 4294967295) = lN (m / 256 % 4294967296) := by
  rw [pf_shr (d := 8) (by rw [ts_c8]; decide) (by omega)]
  have := g_mask (a := m / 2 ^ 8) (s := 32) (p := 4294967296) (by decide) (by decide) (by omega)
  exact this
theorem tm_mo (t p : Nat) : tm t p = mo t 0 p := by unfold tm mo; omega
theorem tim_tm {t p : Nat} (h : p < 9) : tim (tm t p) = t := by unfold tim tm; omega
theorem tim_mo {t ph nu b : Nat} (hp : ph < 2) (hn : nu < 4294967295) (hb : b < 256) : tim (mo t ph nu + b) = t := by unfold tim mo; omega
end
section
/-! ===== a part's machine, pure: states, what it hears, what it says ===== -/
abbrev Ev : Type := Nat × Int32 × Nat
abbrev PSt : Type := Nat × Nat × Int32 × Int32 × Bool × Bool × Bool × List (Int32 × Nat) × Bool × Bool
abbrev Otp : Type := List (Nat × Int32)
abbrev RSt : Type := PSt × List Ev
abbrev Inp : Type := Nat × Nat × Int32 × Nat
def cl (b : Int32) : Nat := b.toNatClampNeg
/-- an item is heard; sd: from the X side -/
def hi (k : Nat) (b : Int32) (t : Nat) (sd : Bool) (v : Int32) : PSt → PSt × Otp
  | (d, c, h, hy, f, fy, qx, q, ox, oy) =>
    match k with
    | 3 => ((d, c, h, hy, f, fy, qx, q, ox, oy), [(1, v + b)])
    | 4 => ((d, c, h, hy, f, fy, qx, q, ox, oy), if v ≤ b then [] else [(1, v)])
    | 5 => ((d, c, h + v, hy, f, fy, qx, q, ox, oy), [(1, h + v)])
    | 6 => ((d, c + 1, h, hy, f, fy, qx, q, ox, oy), if c + 1 < cl b then [(1, v)] else [(1, v), (2, 0)])
    | 7 => if c < cl b then ((d, c + 1, h, hy, f, fy, qx, q, ox, oy), []) else ((d, c, h, hy, f, fy, qx, q, ox, oy), [(1, v)])
    | 8 => ((d, c, v, hy, true, fy, qx, q, ox, oy), if f = true ∧ h = v then [] else [(1, v)])
    | 9 => if c + 1 < cl b then ((d, c + 1, h + v, hy, f, fy, qx, q, ox, oy), []) else ((d, 0, 0, hy, f, fy, qx, q, ox, oy), [(1, h + v)])
    | 10 => ((d, c + 1, h, hy, f, fy, qx, q, ox, oy), [])
    | 11 => if q.length < 8 then ((d, c, h, hy, f, fy, qx, q ++ [(v, t + cl b)], ox, oy), []) else ((d, c, h, hy, f, fy, qx, q, ox, oy), [(3, 8)])
    | 12 => ((t + cl b, c, v, hy, f, fy, qx, q, ox, oy), [])
    | 13 => if f = true ∧ nI t - h < b then ((d, c, h, hy, f, fy, qx, q, ox, oy), []) else ((d, c, nI t, hy, true, fy, qx, q, ox, oy), [(1, v)])
    | 14 => ((d, c, v, hy, true, fy, qx, q, ox, oy), [])
    | 15 => ((t + cl b, c, h, hy, f, fy, qx, q, ox, oy), [(1, v)])
    | 17 => match q with
      | [] => ((d, c, h, hy, f, fy, sd, [(v, 0)], ox, oy), [])
      | a :: r => if qx = sd then (if r.length < 7 then ((d, c, h, hy, f, fy, sd, a :: r ++ [(v, 0)], ox, oy), []) else ((d, c, h, hy, f, fy, sd, a :: r, ox, oy), [(3, 8)])) else ((d, c, h, hy, f, fy, qx, r, ox, oy), (1, if sd = true then 31 * v + a.1 else 31 * a.1 + v) :: if r = [] ∧ (if sd = true then oy else ox) = true then [(2, 0)] else [])
    | 18 => if sd = true then ((d, c, v, hy, true, fy, qx, q, ox, oy), if fy = true then [(1, 31 * v + hy)] else []) else ((d, c, h, v, f, true, qx, q, ox, oy), if f = true then [(1, 31 * h + v)] else [])
    | _ => ((d, c, h, hy, f, fy, qx, q, ox, oy), [(1, v)])
/-- a complete is heard -/
def hc (k : Nat) (b : Int32) (t : Nat) (sd : Bool) : PSt → PSt × Otp
  | (d, c, h, hy, f, fy, qx, q, ox, oy) =>
    match k with
    | 9 => ((d, c, h, hy, f, fy, qx, q, ox, oy), if c = 0 then [(2, 0)] else [(1, h), (2, 0)])
    | 10 => ((d, c, h, hy, f, fy, qx, q, ox, oy), [(1, nI c), (2, 0)])
    | 11 => ((t + cl b, c, h, hy, f, fy, qx, q, ox, oy), [])
    | 12 => ((d, c, h, hy, f, fy, qx, q, ox, oy), if d = 0 then [(2, 0)] else [(1, h), (2, 0)])
    | 16 => if sd = true then ((d, c, h, hy, f, fy, qx, q, true, oy), if oy = true then [(2, 0)] else []) else ((d, c, h, hy, f, fy, qx, q, ox, true), if ox = true then [(2, 0)] else [])
    | 17 => (if sd = true then (d, c, h, hy, f, fy, qx, q, true, oy) else (d, c, h, hy, f, fy, qx, q, ox, true), if q = [] ∨ qx ≠ sd then [(2, 0)] else [])
    | 18 => if sd = true then ((d, c, h, hy, f, fy, qx, q, true, oy), if oy = true ∨ f = false then [(2, 0)] else []) else ((d, c, h, hy, f, fy, qx, q, ox, true), if ox = true ∨ fy = false then [(2, 0)] else [])
    | 19 => if sd = true then ((d, c, h, hy, f, fy, qx, q, true, oy), []) else ((d, c, h, hy, f, fy, qx, q, ox, true), [(2, 0)])
    | _ => ((d, c, h, hy, f, fy, qx, q, ox, oy), [(2, 0)])
/-- an error is heard -/
def he (k : Nat) (sd : Bool) (v : Int32) : PSt → PSt × Otp
  | (d, c, h, hy, f, fy, qx, q, ox, oy) => if k = 20 ∧ sd = true then ((d, c, h, hy, f, fy, qx, q, true, oy), []) else ((d, c, h, hy, f, fy, qx, q, ox, oy), [(3, v)])
def hear (k : Nat) (b : Int32) (t : Nat) (sd : Bool) (w : Nat) (v : Int32) (S : PSt) : PSt × Otp :=
  if w = 1 then hi k b t sd v S else if w = 2 then hc k b t sd S else he k sd v S
def rdy (t : Nat) (q : List (Int32 × Nat)) : Nat := (q.filter (fun e => e.2 == t)).length
/-- the part's own timer at time t -/
def fi (k : Nat) (a b : Int32) (t : Nat) : PSt → PSt × Otp
  | (d, c, h, hy, f, fy, qx, q, ox, oy) =>
    match k with
    | 1 => if d = t then ((t + cl a, c + 1, h, hy, f, fy, qx, q, ox, oy), [(1, nI c)]) else ((d, c, h, hy, f, fy, qx, q, ox, oy), [])
    | 11 => ((d, c, h, hy, f, fy, qx, q.drop (rdy t q), ox, oy), (q.take (rdy t q)).map (fun e => (1, e.1)) ++ if d = t then [(2, 0)] else [])
    | 12 => if d = t then ((0, c, h, hy, f, fy, qx, q, ox, oy), [(1, h)]) else ((d, c, h, hy, f, fy, qx, q, ox, oy), [])
    | 14 => if d = t then ((t + cl b, c, h, hy, false, fy, qx, q, ox, oy), if f = true then [(1, h)] else []) else ((d, c, h, hy, f, fy, qx, q, ox, oy), [])
    | 15 => if d = t then ((0, c, h, hy, f, fy, qx, q, ox, oy), [(3, 9)]) else ((d, c, h, hy, f, fy, qx, q, ox, oy), [])
    | _ => ((d, c, h, hy, f, fy, qx, q, ox, oy), [])
def ini (k : Nat) (a b : Int32) (t : Nat) : PSt :=
  (if k = 1 then t + cl a else if k = 14 ∨ k = 15 then t + cl b else 0, 0, if k = 5 then b else 0, 0, false, false, false, [], false, false)
def fin (O : List Ev) : Bool := O.any (fun e => e.1 != 1)
def ems (m : Nat) (o : Otp) : List Ev := o.map (fun x => (x.1, x.2, m))
def rsp (k : Nat) (a b : Int32) (S : PSt) (i : Inp) : PSt × Otp :=
  if i.1 = 2 then fi k a b (tim i.2.2.2) S else hear k b (tim i.2.2.2) (i.1 == 0) i.2.1 i.2.2.1 S
def stp (k : Nat) (a b : Int32) (R : RSt) (i : Inp) : RSt :=
  if fin R.2 = true then R else ((rsp k a b R.1 i).1, R.2 ++ ems i.2.2.2 (rsp k a b R.1 i).2)
/-! ===== what a part is fed ===== -/
def ckm (p m : Nat) : Nat := if m < tm (tim m) p then tim m - 1 else tim m
def tms (p c : Nat) : Nat → List Inp
  | 0 => []
  | d + 1 => tms p c d ++ [(2, 0, 0, tm (c + d + 1) p)]
def feed (p : Nat) : Nat → List Ev → Nat → List Inp
  | c0, [], c => tms p c0 (c - c0)
  | c0, e :: r, c => tms p c0 (ckm p e.2.2 - c0) ++ (0, e) :: feed p (ckm p e.2.2) r c
def mrg : List Inp → List Inp → List Inp
  | [], ys => ys
  | x :: xs, ys => ys.takeWhile (fun y => decide (y.2.2.2 < x.2.2.2)) ++ x :: mrg xs (ys.dropWhile (fun y => decide (y.2.2.2 < x.2.2.2)))
def tg (s : Nat) (H : List Ev) : List Inp := H.map (fun e => (s, e))
def tmd (k : Nat) : Bool := k == 11 || k == 12 || k == 14 || k == 15
def inp (k p c0 c : Nat) (Hx Hy : List Ev) : List Inp :=
  if k = 1 then tms p c0 (c - c0) else if k < 3 then [] else if k < 16 then (if tmd k = true then feed p c0 Hx c else tg 0 Hx) else if k < 19 then mrg (tg 0 Hx) (tg 1 Hy) else tg 0 Hx ++ tg 1 Hy
abbrev Lg : Type := Nat × Nat × Int32 × Nat
/-- does a source part that begins at fr hear a call of moment w -/
def hrs (fr w : Nat) : Bool := if fr / 1099511627776 % 2 = 1 then decide (fr / 256 % 4294967296 < w / 256 % 4294967296) else decide (fr < w)
def src (s p fr : Nat) : List Lg → List Ev
  | [] => []
  | g :: r => if g.1 = s ∧ hrs fr g.2.2.2 = true then (g.2.1 + 1, g.2.2.1, g.2.2.2 + p + 1) :: (if g.2.1 = 0 then src s p fr r else []) else src s p fr r
def RR (k : Nat) (a b : Int32) (p fr : Nat) (lg : List Lg) (c : Nat) (Hx Hy : List Ev) : RSt :=
  if k = 0 then (ini k a b (tim fr), src (cl a) p fr lg)
  else if k = 2 then (ini k a b (tim fr), [(1, a, fr), (2, 0, fr)])
  else (inp k p (ckm p fr) c Hx Hy).foldl (stp k a b) (ini k a b (tim fr), [])
/-! ===== feeding grows at its end ===== -/
theorem tp_tms {p c0 d : Nat} : tms p c0 (d + 1) = tms p c0 d ++ [(2, 0, 0, tm (c0 + d + 1) p)] := rfl
theorem tp_tms' {p c0 c : Nat} (h : c0 ≤ c) : tms p c0 (c + 1 - c0) = tms p c0 (c - c0) ++ [(2, 0, 0, tm (c + 1) p)] := by
  have e : c + 1 - c0 = (c - c0) + 1 := by omega
  rw [e, tp_tms, show c0 + (c - c0) + 1 = c + 1 from by omega]
theorem tp_feed_snoc {p : Nat} {e : Ev} : ∀ (H : List Ev) (c0 c : Nat), ckm p e.2.2 = c → feed p c0 (H ++ [e]) c = feed p c0 H c ++ [(0, e)]
  | [], c0, c, h => by
    show tms p c0 (ckm p e.2.2 - c0) ++ (0, e) :: feed p (ckm p e.2.2) [] c = tms p c0 (c - c0) ++ [(0, e)]
    rw [h]
    show tms p c0 (c - c0) ++ (0, e) :: tms p c (c - c) = _
    rw [Nat.sub_self]
    rfl
  | x :: r, c0, c, h => by
    show tms p c0 (ckm p x.2.2 - c0) ++ (0, x) :: feed p (ckm p x.2.2) (r ++ [e]) c = (tms p c0 (ckm p x.2.2 - c0) ++ (0, x) :: feed p (ckm p x.2.2) r c) ++ [(0, e)]
    rw [tp_feed_snoc r _ c h]
    simp
theorem tp_feed_tick {p : Nat} : ∀ (H : List Ev) (c0 c : Nat), c0 ≤ c → (∀ e ∈ H, ckm p e.2.2 ≤ c) → feed p c0 H (c + 1) = feed p c0 H c ++ [(2, 0, 0, tm (c + 1) p)]
  | [], c0, c, h, _ => tp_tms' h
  | x :: r, c0, c, h, hh => by
    show tms p c0 (ckm p x.2.2 - c0) ++ (0, x) :: feed p (ckm p x.2.2) r (c + 1) = (tms p c0 (ckm p x.2.2 - c0) ++ (0, x) :: feed p (ckm p x.2.2) r c) ++ [(2, 0, 0, tm (c + 1) p)]
    rw [tp_feed_tick r _ c (hh x (by simp)) (fun e he => hh e (by simp [he]))]
    simp
theorem tp_mrg_nil : ∀ xs : List Inp, mrg xs [] = xs
  | [] => rfl
  | x :: xs => by simp [mrg, tp_mrg_nil xs]
theorem tp_mrg_y {x y : Inp} {xs ys : List Inp} (h : y.2.2.2 < x.2.2.2) : mrg (x :: xs) (y :: ys) = y :: mrg (x :: xs) ys := by
  simp [mrg, h]
theorem tp_mrg_x {x y : Inp} {xs ys : List Inp} (h : ¬ y.2.2.2 < x.2.2.2) : mrg (x :: xs) (y :: ys) = x :: mrg xs (y :: ys) := by
  simp [mrg, h]
theorem tp_mrg_snocY {e : Inp} : ∀ (xs ys : List Inp), (∀ x ∈ xs, x.2.2.2 ≤ e.2.2.2) → mrg xs (ys ++ [e]) = mrg xs ys ++ [e]
  | [], ys, _ => rfl
  | x :: xs, [], h => by
    rw [tp_mrg_nil, List.nil_append, tp_mrg_x (Nat.not_lt.mpr (h x (by simp)))]
    have := tp_mrg_snocY xs [] (fun z hz => h z (by simp [hz]))
    rw [List.nil_append] at this
    rw [this, tp_mrg_nil]
    rfl
  | x :: xs, y :: ys, h => by
    by_cases c : y.2.2.2 < x.2.2.2
    · rw [List.cons_append, tp_mrg_y c, tp_mrg_y c, tp_mrg_snocY (x :: xs) ys h]; rfl
    · have := tp_mrg_snocY xs (y :: ys) (fun z hz => h z (by simp [hz]))
      rw [List.cons_append] at this
      rw [List.cons_append, tp_mrg_x c, tp_mrg_x c, this]; rfl
  termination_by xs ys => xs.length + ys.length
theorem tp_mrg_snocX {e : Inp} : ∀ (xs ys : List Inp), (∀ y ∈ ys, y.2.2.2 < e.2.2.2) → mrg (xs ++ [e]) ys = mrg xs ys ++ [e]
  | [], ys, h => by
    show mrg [e] ys = ys ++ [e]
    induction ys with
    | nil => rfl
    | cons y ys ih => rw [tp_mrg_y (h y (by simp)), ih (fun z hz => h z (by simp [hz]))]; rfl
  | x :: xs, [], h => by rw [tp_mrg_nil, tp_mrg_nil]
  | x :: xs, y :: ys, h => by
    by_cases c : y.2.2.2 < x.2.2.2
    · have := tp_mrg_snocX (x :: xs) ys (fun z hz => h z (by simp [hz]))
      rw [List.cons_append] at this
      rw [List.cons_append, tp_mrg_y c, tp_mrg_y c, this]; rfl
    · rw [List.cons_append, tp_mrg_x c, tp_mrg_x c, tp_mrg_snocX xs (y :: ys) h]; rfl
  termination_by xs ys => xs.length + ys.length
theorem tp_tg_snoc (s : Nat) (H : List Ev) (e : Ev) : tg s (H ++ [e]) = tg s H ++ [(s, e)] := by simp [tg]
theorem tp_foldl_snoc {α β : Type} (f : β → α → β) (z : β) (l : List α) (x : α) : (l ++ [x]).foldl f z = f (l.foldl f z) x := by simp
end
section
/-! ===== the run of a part grows at its end ===== -/
theorem rn_x {k p fr c : Nat} {a b : Int32} {lg : List Lg} {Hx Hy : List Ev} {e : Ev} (h3 : 3 ≤ k) (hc : ckm p e.2.2 = c) (hm : 16 ≤ k → k < 19 → ∀ z ∈ Hy, z.2.2 < e.2.2) (hn : 19 ≤ k → Hy = []) :
    RR k a b p fr lg c (Hx ++ [e]) Hy = stp k a b (RR k a b p fr lg c Hx Hy) (0, e) := by
  have k0 : ¬ k = 0 := by omega
  have k1 : ¬ k = 1 := by omega
  have k2 : ¬ k = 2 := by omega
  have k3 : ¬ k < 3 := by omega
  have hi : inp k p (ckm p fr) c (Hx ++ [e]) Hy = inp k p (ckm p fr) c Hx Hy ++ [(0, e)] := by
    unfold inp
    rw [if_neg k1, if_neg k1, if_neg k3, if_neg k3]
    by_cases h16 : k < 16
    · rw [if_pos h16, if_pos h16]
      by_cases ht : tmd k = true
      · rw [if_pos ht, if_pos ht]; exact tp_feed_snoc _ _ _ hc
      · rw [if_neg ht, if_neg ht]; exact tp_tg_snoc _ _ _
    · rw [if_neg h16, if_neg h16]
      by_cases h19 : k < 19
      · rw [if_pos h19, if_pos h19, tp_tg_snoc]
        refine tp_mrg_snocX _ _ ?_
        intro y hy
        simp only [tg, List.mem_map] at hy
        obtain ⟨z, hz, rfl⟩ := hy
        exact hm (by omega) h19 z hz
      · rw [if_neg h19, if_neg h19, tp_tg_snoc, hn (by omega)]
        simp [tg]
  unfold RR
  rw [if_neg k0, if_neg k0, if_neg k2, if_neg k2, hi, tp_foldl_snoc]
theorem rn_y {k p fr c : Nat} {a b : Int32} {lg : List Lg} {Hx Hy : List Ev} {e : Ev} (h3 : 16 ≤ k) (hm : k < 19 → ∀ z ∈ Hx, z.2.2 ≤ e.2.2) :
    RR k a b p fr lg c Hx (Hy ++ [e]) = stp k a b (RR k a b p fr lg c Hx Hy) (1, e) := by
  have k0 : ¬ k = 0 := by omega
  have k1 : ¬ k = 1 := by omega
  have k2 : ¬ k = 2 := by omega
  have k3 : ¬ k < 3 := by omega
  have h16 : ¬ k < 16 := by omega
  have hi : inp k p (ckm p fr) c Hx (Hy ++ [e]) = inp k p (ckm p fr) c Hx Hy ++ [(1, e)] := by
    unfold inp
    rw [if_neg k1, if_neg k1, if_neg k3, if_neg k3, if_neg h16, if_neg h16]
    by_cases h19 : k < 19
    · rw [if_pos h19, if_pos h19, tp_tg_snoc]
      refine tp_mrg_snocY _ _ ?_
      intro y hy
      simp only [tg, List.mem_map] at hy
      obtain ⟨z, hz, rfl⟩ := hy
      exact hm h19 z hz
    · rw [if_neg h19, if_neg h19, tp_tg_snoc, List.append_assoc]
  unfold RR
  rw [if_neg k0, if_neg k0, if_neg k2, if_neg k2, hi, tp_foldl_snoc]
def tmd1 (k : Nat) : Bool := k == 1 || tmd k
theorem rn_t {k p fr c : Nat} {a b : Int32} {lg : List Lg} {Hx Hy : List Ev} (ht : tmd1 k = true) (h0 : ckm p fr ≤ c) (hm : ∀ z ∈ Hx, ckm p z.2.2 ≤ c) :
    RR k a b p fr lg (c + 1) Hx Hy = stp k a b (RR k a b p fr lg c Hx Hy) (2, 0, 0, tm (c + 1) p) := by
  simp only [tmd1, tmd, Bool.or_eq_true, beq_iff_eq] at ht
  have k0 : ¬ k = 0 := by omega
  have k2 : ¬ k = 2 := by omega
  have hi : inp k p (ckm p fr) (c + 1) Hx Hy = inp k p (ckm p fr) c Hx Hy ++ [(2, 0, 0, tm (c + 1) p)] := by
    unfold inp
    by_cases k1 : k = 1
    · rw [if_pos k1, if_pos k1]; exact tp_tms' h0
    · have k3 : ¬ k < 3 := by omega
      have h16 : k < 16 := by omega
      have ht' : tmd k = true := by simp only [tmd, Bool.or_eq_true, beq_iff_eq]; omega
      rw [if_neg k1, if_neg k1, if_neg k3, if_neg k3, if_pos h16, if_pos h16, if_pos ht', if_pos ht']
      exact tp_feed_tick _ _ _ h0 hm
  unfold RR
  rw [if_neg k0, if_neg k0, if_neg k2, if_neg k2, hi, tp_foldl_snoc]
theorem rn_t0 {k p fr c c' : Nat} {a b : Int32} {lg : List Lg} {Hx Hy : List Ev} (ht : ¬ tmd1 k = true) :
    RR k a b p fr lg c' Hx Hy = RR k a b p fr lg c Hx Hy := by
  simp only [tmd1, Bool.or_eq_true, beq_iff_eq, not_or] at ht
  have hi : inp k p (ckm p fr) c' Hx Hy = inp k p (ckm p fr) c Hx Hy := by
    unfold inp
    rw [if_neg ht.1, if_neg ht.1, if_neg ht.2, if_neg ht.2]
  unfold RR
  rw [hi]
theorem rn_lg {k p fr c : Nat} {a b : Int32} {lg lg' : List Lg} {Hx Hy : List Ev} (h : ¬ k = 0) :
    RR k a b p fr lg' c Hx Hy = RR k a b p fr lg c Hx Hy := by
  unfold RR
  rw [if_neg h, if_neg h]
theorem rn_src_app {s p fr : Nat} {g : Lg} : ∀ lg : List Lg, src s p fr (lg ++ [g]) = if fin (src s p fr lg) = true then src s p fr lg else src s p fr lg ++ (if g.1 = s ∧ hrs fr g.2.2.2 = true then [(g.2.1 + 1, g.2.2.1, g.2.2.2 + p + 1)] else [])
  | [] => by
    have e : src s p fr [g] = if g.1 = s ∧ hrs fr g.2.2.2 = true then [(g.2.1 + 1, g.2.2.1, g.2.2.2 + p + 1)] else [] := by
      show (if g.1 = s ∧ hrs fr g.2.2.2 = true then (g.2.1 + 1, g.2.2.1, g.2.2.2 + p + 1) :: (if g.2.1 = 0 then [] else []) else []) = _
      rw [ite_self]
    rw [List.nil_append, e, if_neg (show ¬ fin (src s p fr []) = true from by simp [src, fin])]
    rfl
  | x :: r => by
    have ih := rn_src_app (s := s) (p := p) (fr := fr) (g := g) r
    show src s p fr (x :: (r ++ [g])) = _
    unfold src
    by_cases h : x.1 = s ∧ hrs fr x.2.2.2 = true
    · rw [if_pos h, if_pos h]
      by_cases h0 : x.2.1 = 0
      · rw [if_pos h0, if_pos h0, ih]
        have e : fin ((x.2.1 + 1, x.2.2.1, x.2.2.2 + p + 1) :: src s p fr r) = fin (src s p fr r) := by
          simp [fin, h0]
        rw [e]
        by_cases hf : fin (src s p fr r) = true
        · rw [if_pos hf, if_pos hf]
        · rw [if_neg hf, if_neg hf]; rfl
      · rw [if_neg h0, if_neg h0]
        have e : fin [(x.2.1 + 1, x.2.2.1, x.2.2.2 + p + 1)] = true := by
          simp [fin, h0]
        rw [if_pos e]
    · rw [if_neg h, if_neg h, ih]
theorem rn_stp_fin {k : Nat} {a b : Int32} {R : RSt} {i : Inp} (h : fin R.2 = true) : stp k a b R i = R := by
  unfold stp; rw [if_pos h]
theorem rn_stp_go {k : Nat} {a b : Int32} {R : RSt} {i : Inp} (h : fin R.2 = false) : stp k a b R i = ((rsp k a b R.1 i).1, R.2 ++ ems i.2.2.2 (rsp k a b R.1 i).2) := by
  unfold stp; rw [if_neg (by rw [h]; decide)]
theorem rn_fin_app (A B : List Ev) : fin (A ++ B) = (fin A || fin B) := by simp [fin]
theorem rn_fin_nil : fin [] = false := rfl
theorem rn_fold_fin {k : Nat} {a b : Int32} : ∀ (l : List Inp) (R : RSt), fin R.2 = true → l.foldl (stp k a b) R = R
  | [], _, _ => rfl
  | i :: l, R, h => by rw [List.foldl_cons, rn_stp_fin h, rn_fold_fin l R h]
/-! ===== operands, invariants of a state ===== -/
def opk (k : Nat) (a b : Int32) : Prop :=
  k ≤ 20 ∧ (k = 0 → cl a < 3 ∧ a = nI (cl a)) ∧ (k = 1 → 5 ≤ cl a ∧ cl a ≤ 50 ∧ a = nI (cl a)) ∧ (k = 6 → 1 ≤ cl b ∧ cl b ≤ 8 ∧ b = nI (cl b)) ∧ (k = 7 → cl b ≤ 8 ∧ b = nI (cl b)) ∧ (k = 9 → 2 ≤ cl b ∧ cl b ≤ 5 ∧ b = nI (cl b)) ∧ (11 ≤ k → k ≤ 15 → 1 ≤ cl b ∧ cl b ≤ 30 ∧ b = nI (cl b))
def okS (k : Nat) (b : Int32) (S : PSt) : Prop :=
  S.1 < 1000 ∧ (k = 6 ∨ k = 9 → S.2.1 < cl b) ∧ (k = 7 → S.2.1 ≤ cl b) ∧ S.2.2.2.2.2.2.2.1.length ≤ 8 ∧ (∀ e ∈ S.2.2.2.2.2.2.2.1, e.2 < 1000) ∧ (tmd1 k = false → S.1 = 0) ∧ (k = 17 → ∀ e ∈ S.2.2.2.2.2.2.2.1, e.2 = 0)
theorem rn_k {k : Nat} (h : k ≤ 20) : k = 0 ∨ k = 1 ∨ k = 2 ∨ k = 3 ∨ k = 4 ∨ k = 5 ∨ k = 6 ∨ k = 7 ∨ k = 8 ∨ k = 9 ∨ k = 10 ∨ k = 11 ∨ k = 12 ∨ k = 13 ∨ k = 14 ∨ k = 15 ∨ k = 16 ∨ k = 17 ∨ k = 18 ∨ k = 19 ∨ k = 20 := by omega
theorem rn_ok_ini {k : Nat} {a b : Int32} {t : Nat} (ho : opk k a b) (ht : t ≤ 200) : okS k b (ini k a b t) := by
  obtain ⟨h20, h0, h1, h6, h7, h9, h11⟩ := ho
  unfold okS ini
  refine ⟨?_, fun h => ?_, fun _ => Nat.zero_le _, Nat.zero_le _, fun e he => by simp at he, fun h => ?_, fun _ e he => by simp at he⟩
  · show (if k = 1 then t + cl a else if k = 14 ∨ k = 15 then t + cl b else 0) < 1000
    by_cases e1 : k = 1
    · rw [if_pos e1]; have := h1 e1; omega
    · rw [if_neg e1]
      by_cases e2 : k = 14 ∨ k = 15
      · rw [if_pos e2]; have := h11 (by omega) (by omega); omega
      · rw [if_neg e2]; omega
  · show 0 < cl b
    rcases h with h | h
    · have := h6 h; omega
    · have := h9 h; omega
  · show (if k = 1 then t + cl a else if k = 14 ∨ k = 15 then t + cl b else 0) = 0
    simp only [tmd1, tmd, Bool.or_eq_false_iff, beq_eq_false_iff_ne] at h
    rw [if_neg h.1, if_neg (by omega)]
/-- what a part says at once: items, then perhaps an end -/
def endok (e : Nat × Int32) : Prop := (e.1 = 2 ∧ e.2 = 0) ∨ (e.1 = 3 ∧ ∃ j : Nat, 1 ≤ j ∧ j ≤ 9 ∧ e.2 = nI j)
def wfo (o : Otp) : Prop := ∃ (L : List Int32) (en : Option (Nat × Int32)), o = L.map (fun v => (1, v)) ++ en.toList ∧ ∀ e ∈ en, endok e
theorem rn_wfo_nil : wfo [] := ⟨[], none, rfl, fun e he => by simp at he⟩
theorem rn_wfo_1 (v : Int32) : wfo [(1, v)] := ⟨[v], none, rfl, fun e he => by simp at he⟩
theorem rn_wfo_2 : wfo [(2, 0)] := ⟨[], some (2, 0), rfl, fun e he => by simp at he; subst he; exact Or.inl ⟨rfl, rfl⟩⟩
theorem rn_wfo_12 (v : Int32) : wfo [(1, v), (2, 0)] := ⟨[v], some (2, 0), rfl, fun e he => by simp at he; subst he; exact Or.inl ⟨rfl, rfl⟩⟩
theorem rn_wfo_3 {v : Int32} {j : Nat} (h1 : 1 ≤ j) (h2 : j ≤ 9) (hv : v = nI j) : wfo [(3, v)] := ⟨[], some (3, v), rfl, fun e he => by simp at he; subst he; exact Or.inr ⟨rfl, j, h1, h2, hv⟩⟩
theorem rn_wfo_if {c : Prop} [Decidable c] {x y : Otp} (hx : wfo x) (hy : wfo y) : wfo (if c then x else y) := by
  by_cases h : c
  · rw [if_pos h]; exact hx
  · rw [if_neg h]; exact hy
theorem rn_hi {k : Nat} {a b : Int32} {t : Nat} {sd : Bool} {v : Int32} {S : PSt} (ho : opk k a b) (ok : okS k b S) (ht : t ≤ 200) (h3 : 3 ≤ k) :
    wfo (hi k b t sd v S).2 ∧ (hi k b t sd v S).2.length ≤ 2 ∧ ((∀ o ∈ (hi k b t sd v S).2, o.1 = 1) → okS k b (hi k b t sd v S).1) := by
  obtain ⟨d, c, h, hy, f, fy, qx, q, ox, oy⟩ := S
  obtain ⟨o1, o2, o3, o4, o5, o6, o7⟩ := ok
  obtain ⟨h20, h0, h1, h6, h7, h9, h11⟩ := ho
  have bad : ∀ (A : Prop) (x : Nat × Int32) (l : Otp), x ∈ l → x.1 ≠ 1 → (∀ o ∈ l, o.1 = 1) → A := fun A x l hm hx hh => absurd (hh x hm) hx
  rcases rn_k h20 with e | e | e | e | e | e | e | e | e | e | e | e | e | e | e | e | e | e | e | e | e <;> (first | omega | subst e)
  · exact ⟨rn_wfo_1 _, by simp [hi], fun _ => ⟨o1, o2, o3, o4, o5, o6, o7⟩⟩
  · refine ⟨rn_wfo_if rn_wfo_nil (rn_wfo_1 _), ?_, fun _ => ⟨o1, o2, o3, o4, o5, o6, o7⟩⟩
    simp only [hi]; split <;> simp
  · exact ⟨rn_wfo_1 _, by simp [hi], fun _ => ⟨o1, fun z => absurd z (by omega), fun z => absurd z (by omega), o4, o5, o6, o7⟩⟩
  · have hb := h6 rfl
    have hcc := o2 (Or.inl rfl)
    by_cases hv : c + 1 < cl b
    · simp only [hi, if_pos hv]
      exact ⟨rn_wfo_1 _, by simp, fun _ => ⟨o1, fun _ => hv, fun z => absurd z (by omega), o4, o5, o6, o7⟩⟩
    · simp only [hi, if_neg hv]
      exact ⟨rn_wfo_12 _, by simp, bad _ (2, 0) _ (by simp) (by decide)⟩
  · have hb := h7 rfl
    by_cases hv : c < cl b
    · simp only [hi, if_pos hv]
      exact ⟨rn_wfo_nil, by simp, fun _ => ⟨o1, fun z => absurd z (by omega), fun _ => hv, o4, o5, o6, o7⟩⟩
    · simp only [hi, if_neg hv]
      exact ⟨rn_wfo_1 _, by simp, fun _ => ⟨o1, o2, o3, o4, o5, o6, o7⟩⟩
  · refine ⟨rn_wfo_if rn_wfo_nil (rn_wfo_1 _), ?_, fun _ => ⟨o1, o2, o3, o4, o5, o6, o7⟩⟩
    simp only [hi]; split <;> simp
  · have hb := h9 rfl
    by_cases hv : c + 1 < cl b
    · simp only [hi, if_pos hv]
      exact ⟨rn_wfo_nil, by simp, fun _ => ⟨o1, fun _ => hv, fun z => absurd z (by omega), o4, o5, o6, o7⟩⟩
    · simp only [hi, if_neg hv]
      refine ⟨rn_wfo_1 _, by simp, fun _ => ⟨o1, fun _ => ?_, fun z => absurd z (by omega), o4, o5, o6, o7⟩⟩
      show 0 < cl b
      omega
  · exact ⟨rn_wfo_nil, by simp [hi], fun _ => ⟨o1, fun z => absurd z (by omega), fun z => absurd z (by omega), o4, o5, o6, o7⟩⟩
  · have hb := h11 (by decide) (by decide)
    by_cases hv : q.length < 8
    · simp only [hi, if_pos hv]
      refine ⟨rn_wfo_nil, by simp, fun _ => ⟨o1, o2, o3, ?_, ?_, o6, fun z => absurd z (by omega)⟩⟩
      · show (q ++ [(v, t + cl b)]).length ≤ 8
        simp; omega
      · intro e he
        rcases List.mem_append.mp he with hm | hm
        · exact o5 e hm
        · rw [List.mem_singleton] at hm; subst hm; show t + cl b < 1000; omega
    · simp only [hi, if_neg hv]
      exact ⟨rn_wfo_3 (j := 8) (by decide) (by decide) rfl, by simp, bad _ (3, 8) _ (by simp) (by decide)⟩
  · have hb := h11 (by decide) (by decide)
    refine ⟨rn_wfo_nil, by simp [hi], fun _ => ⟨?_, fun z => absurd z (by omega), fun z => absurd z (by omega), o4, o5, fun z => absurd z (by decide), o7⟩⟩
    show t + cl b < 1000
    omega
  · by_cases hv : f = true ∧ nI t - h < b
    · simp only [hi, if_pos hv]
      exact ⟨rn_wfo_nil, by simp, fun _ => ⟨o1, o2, o3, o4, o5, o6, o7⟩⟩
    · simp only [hi, if_neg hv]
      exact ⟨rn_wfo_1 _, by simp, fun _ => ⟨o1, o2, o3, o4, o5, o6, o7⟩⟩
  · exact ⟨rn_wfo_nil, by simp [hi], fun _ => ⟨o1, o2, o3, o4, o5, o6, o7⟩⟩
  · have hb := h11 (by decide) (by decide)
    refine ⟨rn_wfo_1 _, by simp [hi], fun _ => ⟨?_, fun z => absurd z (by omega), fun z => absurd z (by omega), o4, o5, fun z => absurd z (by decide), o7⟩⟩
    show t + cl b < 1000
    omega
  · exact ⟨rn_wfo_1 _, by simp [hi], fun _ => ⟨o1, o2, o3, o4, o5, o6, o7⟩⟩
  · cases q with
    | nil =>
      refine ⟨rn_wfo_nil, by simp [hi], fun _ => ⟨o1, fun z => absurd z (by omega), fun z => absurd z (by omega), by simp [hi], ?_, o6, ?_⟩⟩
      · intro e he; simp [hi] at he; subst he; show 0 < 1000; omega
      · intro _ e he; simp [hi] at he; subst he; rfl
    | cons x r =>
      by_cases hs : qx = sd
      · by_cases hv : r.length < 7
        · simp only [hi, if_pos hs, if_pos hv]
          refine ⟨rn_wfo_nil, by simp, fun _ => ⟨o1, fun z => absurd z (by omega), fun z => absurd z (by omega), ?_, ?_, o6, ?_⟩⟩
          · show (x :: r ++ [(v, 0)]).length ≤ 8
            simp; omega
          · intro e he
            rcases List.mem_append.mp he with hm | hm
            · exact o5 e hm
            · rw [List.mem_singleton] at hm; subst hm; show 0 < 1000; omega
          · intro _ e he
            rcases List.mem_append.mp he with hm | hm
            · exact o7 rfl e hm
            · rw [List.mem_singleton] at hm; subst hm; rfl
        · simp only [hi, if_pos hs, if_neg hv]
          exact ⟨rn_wfo_3 (j := 8) (by decide) (by decide) rfl, by simp, bad _ (3, 8) _ (by simp) (by decide)⟩
      · simp only [hi, if_neg hs]
        have hq2 : okS 17 b (d, c, h, hy, f, fy, qx, r, ox, oy) := ⟨o1, o2, o3, by have : (x :: r).length ≤ 8 := o4; show r.length ≤ 8; simp at this; omega, fun e he => o5 e (List.mem_cons_of_mem _ he), o6, fun z e he => o7 z e (List.mem_cons_of_mem _ he)⟩
        by_cases hr : r = [] ∧ (if sd = true then oy else ox) = true
        · rw [if_pos hr]
          exact ⟨rn_wfo_12 _, by simp, fun _ => hq2⟩
        · rw [if_neg hr]
          exact ⟨rn_wfo_1 _, by simp, fun _ => hq2⟩
  · cases sd
    · simp only [hi]
      refine ⟨rn_wfo_if (rn_wfo_1 _) rn_wfo_nil, ?_, fun _ => ⟨o1, o2, o3, o4, o5, o6, o7⟩⟩
      rw [if_neg (by decide)]; dsimp only; split <;> simp
    · simp only [hi]
      refine ⟨rn_wfo_if (rn_wfo_1 _) rn_wfo_nil, ?_, fun _ => ⟨o1, o2, o3, o4, o5, o6, o7⟩⟩
      rw [if_pos trivial]; dsimp only; split <;> simp
  · exact ⟨rn_wfo_1 _, by simp [hi], fun _ => ⟨o1, o2, o3, o4, o5, o6, o7⟩⟩
  · exact ⟨rn_wfo_1 _, by simp [hi], fun _ => ⟨o1, o2, o3, o4, o5, o6, o7⟩⟩
end
section
/-! ===== views of the component's state ===== -/
def x_time (u : SX) : Int32 := u.1
def x_sent (u : SX) : Int32 := u.2.1
def x_stageCount (u : SX) : Int32 := u.2.2.1
def x_tasks (u : SX) : Int32 := u.2.2.2.1
def x_sourceEnded (u : SX) : (Nat → Int32) := u.2.2.2.2.1
def x_stageKind (u : SX) : (Nat → Int32) := u.2.2.2.2.2.1
def x_stageA (u : SX) : (Nat → Int32) := u.2.2.2.2.2.2.1
def x_stageB (u : SX) : (Nat → Int32) := u.2.2.2.2.2.2.2.1
def x_stageParts (u : SX) : (Nat → Int32) := u.2.2.2.2.2.2.2.2.1
def x_partStage (u : SX) : (Nat → Int32) := u.2.2.2.2.2.2.2.2.2.1
def x_partUser (u : SX) : (Nat → Int32) := u.2.2.2.2.2.2.2.2.2.2.1
def x_partX (u : SX) : (Nat → Int32) := u.2.2.2.2.2.2.2.2.2.2.2.1
def x_partY (u : SX) : (Nat → Int32) := u.2.2.2.2.2.2.2.2.2.2.2.2.1
def x_phase (u : SX) : (Nat → Int32) := u.2.2.2.2.2.2.2.2.2.2.2.2.2.1
def x_beganAfter (u : SX) : (Nat → Int32) := u.2.2.2.2.2.2.2.2.2.2.2.2.2.2.1
def x_due (u : SX) : (Nat → Int32) := u.2.2.2.2.2.2.2.2.2.2.2.2.2.2.2.1
def x_count (u : SX) : (Nat → Int32) := u.2.2.2.2.2.2.2.2.2.2.2.2.2.2.2.2.1
def x_held (u : SX) : (Nat → Int32) := u.2.2.2.2.2.2.2.2.2.2.2.2.2.2.2.2.2.1
def x_heldY (u : SX) : (Nat → Int32) := u.2.2.2.2.2.2.2.2.2.2.2.2.2.2.2.2.2.2.1
def x_hasHeld (u : SX) : (Nat → Int32) := u.2.2.2.2.2.2.2.2.2.2.2.2.2.2.2.2.2.2.2.1
def x_hasHeldY (u : SX) : (Nat → Int32) := u.2.2.2.2.2.2.2.2.2.2.2.2.2.2.2.2.2.2.2.2.1
def x_queueSize (u : SX) : (Nat → Int32) := u.2.2.2.2.2.2.2.2.2.2.2.2.2.2.2.2.2.2.2.2.2.1
def x_queueIsOfX (u : SX) : (Nat → Int32) := u.2.2.2.2.2.2.2.2.2.2.2.2.2.2.2.2.2.2.2.2.2.2.1
def x_queueValue (u : SX) : (Nat → Int32) := u.2.2.2.2.2.2.2.2.2.2.2.2.2.2.2.2.2.2.2.2.2.2.2.1
def x_queueDue (u : SX) : (Nat → Int32) := u.2.2.2.2.2.2.2.2.2.2.2.2.2.2.2.2.2.2.2.2.2.2.2.2.1
def x_subStatus (u : SX) : (Nat → Int32) := u.2.2.2.2.2.2.2.2.2.2.2.2.2.2.2.2.2.2.2.2.2.2.2.2.2.1
def x_subCode (u : SX) : (Nat → Int32) := u.2.2.2.2.2.2.2.2.2.2.2.2.2.2.2.2.2.2.2.2.2.2.2.2.2.2.1
def x_subEnd (u : SX) : (Nat → Int32) := u.2.2.2.2.2.2.2.2.2.2.2.2.2.2.2.2.2.2.2.2.2.2.2.2.2.2.2.1
def x_subDemand (u : SX) : (Nat → Int64) := u.2.2.2.2.2.2.2.2.2.2.2.2.2.2.2.2.2.2.2.2.2.2.2.2.2.2.2.2.1
def x_subRequests (u : SX) : (Nat → Int32) := u.2.2.2.2.2.2.2.2.2.2.2.2.2.2.2.2.2.2.2.2.2.2.2.2.2.2.2.2.2.1
def x_subDelivered (u : SX) : (Nat → Int32) := u.2.2.2.2.2.2.2.2.2.2.2.2.2.2.2.2.2.2.2.2.2.2.2.2.2.2.2.2.2.2.1
def x_subWaiting (u : SX) : (Nat → Int32) := u.2.2.2.2.2.2.2.2.2.2.2.2.2.2.2.2.2.2.2.2.2.2.2.2.2.2.2.2.2.2.2.1
def x_waitValue (u : SX) : (Nat → Int32) := u.2.2.2.2.2.2.2.2.2.2.2.2.2.2.2.2.2.2.2.2.2.2.2.2.2.2.2.2.2.2.2.2.1
def x_history (u : SX) : (Nat → Int64) := u.2.2.2.2.2.2.2.2.2.2.2.2.2.2.2.2.2.2.2.2.2.2.2.2.2.2.2.2.2.2.2.2.2.1
def x_taskWhat (u : SX) : (Nat → Int32) := u.2.2.2.2.2.2.2.2.2.2.2.2.2.2.2.2.2.2.2.2.2.2.2.2.2.2.2.2.2.2.2.2.2.2.1
def x_taskPart (u : SX) : (Nat → Int32) := u.2.2.2.2.2.2.2.2.2.2.2.2.2.2.2.2.2.2.2.2.2.2.2.2.2.2.2.2.2.2.2.2.2.2.2.1
def x_taskValue (u : SX) : (Nat → Int32) := u.2.2.2.2.2.2.2.2.2.2.2.2.2.2.2.2.2.2.2.2.2.2.2.2.2.2.2.2.2.2.2.2.2.2.2.2
def x_st2 (u : SX) := (x_time u, x_sent u, x_stageCount u, x_sourceEnded u, x_stageKind u, x_stageA u, x_stageB u, x_stageParts u, x_partStage u, x_partUser u, x_partX u, x_partY u, x_subRequests u)
def x_sub (u : SX) := (x_subStatus u, x_subCode u, x_subEnd u, x_subDemand u, x_subDelivered u, x_subWaiting u, x_waitValue u, x_history u)
def x_ph (u : SX) := (x_phase u, x_beganAfter u)
def dI (d : Nat) : Int32 := if d = 0 then -1 else nI d
def bI (b : Bool) : Int32 := if b = true then 1 else 0
/-- the cells of part i show the state S -/
def RepA (du co he hY hH hHY qs qo qv qd : Nat → Int32) (i : Nat) : PSt → Prop
  | (d, c, h, hy, f, fy, qx, q, _, _) =>
    du i = dI d ∧ co i = nI c ∧ he i = h ∧ hY i = hy ∧ hH i = bI f ∧ hHY i = bI fy ∧ ((∃ e ∈ q, e.2 = 0) → qo i = bI qx) ∧ qs i = nI q.length ∧ q.length ≤ 8 ∧ ∀ j e, q[j]? = some e → qv (8 * i + j) = e.1 ∧ qd (8 * i + j) = dI e.2
def RepP (u : SX) (i : Nat) (S : PSt) : Prop := RepA (x_due u) (x_count u) (x_held u) (x_heldY u) (x_hasHeld u) (x_hasHeldY u) (x_queueSize u) (x_queueIsOfX u) (x_queueValue u) (x_queueDue u) i S
abbrev Tk : Type := Nat × Nat × Int32
def rps (tw tp tv : Nat → Int32) : List Tk → Prop
  | [] => True
  | e :: r => tw r.length = nI e.1 ∧ tp r.length = nI e.2.1 ∧ tv r.length = e.2.2 ∧ rps tw tp tv r
def RepS (u : SX) (R : List Tk) : Prop := x_tasks u = nI R.length ∧ rps (x_taskWhat u) (x_taskPart u) (x_taskValue u) R
def ots (i : Nat) (o : Otp) : List Tk := o.map (fun x => (x.1, i, x.2))
/-- a handler of part i: its cells show S', it pushed o, nothing else moved -/
def Eff (u u' : SX) (i : Nat) (S' : PSt) (o : Otp) (R : List Tk) : Prop :=
  x_st2 u' = x_st2 u ∧ x_sub u' = x_sub u ∧ x_ph u' = x_ph u ∧ RepP u' i S' ∧ (∀ j, j ≠ i → ∀ S, RepP u j S → RepP u' j S) ∧ RepS u' (ots i o ++ R)
theorem xd_bI_nar (b : Bool) : vp_nar .boolean (bI b) = bI b := by cases b <;> rfl
theorem xd_nar1 : vp_nar .boolean 1 = bI true := rfl
theorem xd_nar0 : vp_nar .boolean 0 = bI false := rfl
theorem xd_bI0 {b : Bool} : bI b = 0 ↔ b = false := by cases b <;> decide
theorem xd_bI1 {b : Bool} : bI b = 1 ↔ b = true := by cases b <;> decide
theorem xd_bI {b c : Bool} : bI b = bI c ↔ b = c := by cases b <;> cases c <;> decide
theorem xd_dI {d t : Nat} (hd : d < 1000) (ht : t < 1000) (h1 : 1 ≤ t) : dI d = nI t ↔ d = t := by
  unfold dI
  by_cases h : d = 0
  · rw [if_pos h]
    constructor
    · intro e
      have : (-1 : Int32) < 0 := by decide
      rw [e] at this
      exact absurd this (nI_pos (by omega))
    · intro e; omega
  · rw [if_neg h, nI_eq (by omega) (by omega)]
theorem xd_dIm {d : Nat} (hd : d < 1000) : dI d = -1 ↔ d = 0 := by
  unfold dI
  by_cases h : d = 0
  · rw [if_pos h]; exact ⟨fun _ => h, fun _ => rfl⟩
  · rw [if_neg h]
    constructor
    · intro e
      have : (-1 : Int32) < 0 := by decide
      rw [← e] at this
      exact absurd this (nI_pos (by omega))
    · intro e; exact absurd e h
theorem xd_dIp {d : Nat} (h : 1 ≤ d) : dI d = nI d := by unfold dI; rw [if_neg (by omega)]
theorem xd_rps_up {tw tp tv : Nat → Int32} {n : Nat} {x y z : Int32} : ∀ R : List Tk, R.length ≤ n → rps tw tp tv R → rps (upd tw n x) (upd tp n y) (upd tv n z) R
  | [], _, _ => True.intro
  | e :: r, hl, ⟨h1, h2, h3, h4⟩ => by
    have hl' : r.length < n := hl
    have hn : r.length ≠ n := by omega
    exact ⟨(pk_un hn).trans h1, (pk_un hn).trans h2, (pk_un hn).trans h3, xd_rps_up r (by omega) h4⟩
theorem xd_rps_push {tw tp tv : Nat → Int32} {R : List Tk} {w p : Nat} {v : Int32} (h : rps tw tp tv R) : rps (upd tw R.length (nI w)) (upd tp R.length (nI p)) (upd tv R.length v) ((w, p, v) :: R) :=
  ⟨pk_us, pk_us, pk_us, xd_rps_up R (Nat.le_refl _) h⟩
theorem xd_frame {du co he hY hH hHY qs qo qv qd du' co' he' hY' hH' hHY' qs' qo' qv' qd' : Nat → Int32} {j : Nat} {S : PSt} (h : RepA du co he hY hH hHY qs qo qv qd j S) (h1 : du' j = du j) (h2 : co' j = co j) (h3 : he' j = he j) (h4 : hY' j = hY j) (h5 : hH' j = hH j) (h6 : hHY' j = hHY j) (h8 : qs' j = qs j) (h7 : qo' j = qo j) (hq : ∀ r, r < 8 → qv' (8 * j + r) = qv (8 * j + r) ∧ qd' (8 * j + r) = qd (8 * j + r)) : RepA du' co' he' hY' hH' hHY' qs' qo' qv' qd' j S := by
  obtain ⟨d, c, hh, hy, f, fy, qx, q, ox, oy⟩ := S
  obtain ⟨a1, a2, a3, a4, a5, a6, a7, a8, a9, a10⟩ := h
  refine ⟨h1.trans a1, h2.trans a2, h3.trans a3, h4.trans a4, h5.trans a5, h6.trans a6, fun z => h7.trans (a7 z), h8.trans a8, a9, fun r e he => ?_⟩
  have hr : r < q.length := by
    rcases Nat.lt_or_ge r q.length with z | z
    · exact z
    · rw [List.getElem?_eq_none z] at he; exact absurd he (by simp)
  have := a10 r e he
  have h8 := hq r (by omega)
  exact ⟨h8.1.trans this.1, h8.2.trans this.2⟩
section
variable {f_time : Int32} {f_sent : Int32} {f_stageCount : Int32} {f_tasks : Int32} {a_sourceEnded : (Nat → Int32)} {a_stageKind : (Nat → Int32)} {a_stageA : (Nat → Int32)} {a_stageB : (Nat → Int32)} {a_stageParts : (Nat → Int32)} {a_partStage : (Nat → Int32)} {a_partUser : (Nat → Int32)} {a_partX : (Nat → Int32)} {a_partY : (Nat → Int32)} {a_phase : (Nat → Int32)} {a_beganAfter : (Nat → Int32)} {a_due : (Nat → Int32)} {a_count : (Nat → Int32)} {a_held : (Nat → Int32)} {a_heldY : (Nat → Int32)} {a_hasHeld : (Nat → Int32)} {a_hasHeldY : (Nat → Int32)} {a_queueSize : (Nat → Int32)} {a_queueIsOfX : (Nat → Int32)} {a_queueValue : (Nat → Int32)} {a_queueDue : (Nat → Int32)} {a_subStatus : (Nat → Int32)} {a_subCode : (Nat → Int32)} {a_subEnd : (Nat → Int32)} {a_subDemand : (Nat → Int64)} {a_subRequests : (Nat → Int32)} {a_subDelivered : (Nat → Int32)} {a_subWaiting : (Nat → Int32)} {a_waitValue : (Nat → Int32)} {a_history : (Nat → Int64)} {a_taskWhat : (Nat → Int32)} {a_taskPart : (Nat → Int32)} {a_taskValue : (Nat → Int32)}
theorem xe_st2 : x_st2 (f_time, f_sent, f_stageCount, f_tasks, a_sourceEnded, a_stageKind, a_stageA, a_stageB, a_stageParts, a_partStage, a_partUser, a_partX, a_partY, a_phase, a_beganAfter, a_due, a_count, a_held, a_heldY, a_hasHeld, a_hasHeldY, a_queueSize, a_queueIsOfX, a_queueValue, a_queueDue, a_subStatus, a_subCode, a_subEnd, a_subDemand, a_subRequests, a_subDelivered, a_subWaiting, a_waitValue, a_history, a_taskWhat, a_taskPart, a_taskValue) = (f_time, f_sent, f_stageCount, a_sourceEnded, a_stageKind, a_stageA, a_stageB, a_stageParts, a_partStage, a_partUser, a_partX, a_partY, a_subRequests) := rfl
theorem xe_sub : x_sub (f_time, f_sent, f_stageCount, f_tasks, a_sourceEnded, a_stageKind, a_stageA, a_stageB, a_stageParts, a_partStage, a_partUser, a_partX, a_partY, a_phase, a_beganAfter, a_due, a_count, a_held, a_heldY, a_hasHeld, a_hasHeldY, a_queueSize, a_queueIsOfX, a_queueValue, a_queueDue, a_subStatus, a_subCode, a_subEnd, a_subDemand, a_subRequests, a_subDelivered, a_subWaiting, a_waitValue, a_history, a_taskWhat, a_taskPart, a_taskValue) = (a_subStatus, a_subCode, a_subEnd, a_subDemand, a_subDelivered, a_subWaiting, a_waitValue, a_history) := rfl
theorem xe_ph : x_ph (f_time, f_sent, f_stageCount, f_tasks, a_sourceEnded, a_stageKind, a_stageA, a_stageB, a_stageParts, a_partStage, a_partUser, a_partX, a_partY, a_phase, a_beganAfter, a_due, a_count, a_held, a_heldY, a_hasHeld, a_hasHeldY, a_queueSize, a_queueIsOfX, a_queueValue, a_queueDue, a_subStatus, a_subCode, a_subEnd, a_subDemand, a_subRequests, a_subDelivered, a_subWaiting, a_waitValue, a_history, a_taskWhat, a_taskPart, a_taskValue) = (a_phase, a_beganAfter) := rfl
theorem xe_phase : x_phase (f_time, f_sent, f_stageCount, f_tasks, a_sourceEnded, a_stageKind, a_stageA, a_stageB, a_stageParts, a_partStage, a_partUser, a_partX, a_partY, a_phase, a_beganAfter, a_due, a_count, a_held, a_heldY, a_hasHeld, a_hasHeldY, a_queueSize, a_queueIsOfX, a_queueValue, a_queueDue, a_subStatus, a_subCode, a_subEnd, a_subDemand, a_subRequests, a_subDelivered, a_subWaiting, a_waitValue, a_history, a_taskWhat, a_taskPart, a_taskValue) = a_phase := rfl
theorem xe_began : x_beganAfter (f_time, f_sent, f_stageCount, f_tasks, a_sourceEnded, a_stageKind, a_stageA, a_stageB, a_stageParts, a_partStage, a_partUser, a_partX, a_partY, a_phase, a_beganAfter, a_due, a_count, a_held, a_heldY, a_hasHeld, a_hasHeldY, a_queueSize, a_queueIsOfX, a_queueValue, a_queueDue, a_subStatus, a_subCode, a_subEnd, a_subDemand, a_subRequests, a_subDelivered, a_subWaiting, a_waitValue, a_history, a_taskWhat, a_taskPart, a_taskValue) = a_beganAfter := rfl
theorem xe_rep {i : Nat} {S : PSt} (h : RepP (f_time, f_sent, f_stageCount, f_tasks, a_sourceEnded, a_stageKind, a_stageA, a_stageB, a_stageParts, a_partStage, a_partUser, a_partX, a_partY, a_phase, a_beganAfter, a_due, a_count, a_held, a_heldY, a_hasHeld, a_hasHeldY, a_queueSize, a_queueIsOfX, a_queueValue, a_queueDue, a_subStatus, a_subCode, a_subEnd, a_subDemand, a_subRequests, a_subDelivered, a_subWaiting, a_waitValue, a_history, a_taskWhat, a_taskPart, a_taskValue) i S) : RepA a_due a_count a_held a_heldY a_hasHeld a_hasHeldY a_queueSize a_queueIsOfX a_queueValue a_queueDue i S := h
theorem xe_rep' {i : Nat} {S : PSt} (h : RepA a_due a_count a_held a_heldY a_hasHeld a_hasHeldY a_queueSize a_queueIsOfX a_queueValue a_queueDue i S) : RepP (f_time, f_sent, f_stageCount, f_tasks, a_sourceEnded, a_stageKind, a_stageA, a_stageB, a_stageParts, a_partStage, a_partUser, a_partX, a_partY, a_phase, a_beganAfter, a_due, a_count, a_held, a_heldY, a_hasHeld, a_hasHeldY, a_queueSize, a_queueIsOfX, a_queueValue, a_queueDue, a_subStatus, a_subCode, a_subEnd, a_subDemand, a_subRequests, a_subDelivered, a_subWaiting, a_waitValue, a_history, a_taskWhat, a_taskPart, a_taskValue) i S := h
theorem xe_stk {R : List Tk} (h : RepS (f_time, f_sent, f_stageCount, f_tasks, a_sourceEnded, a_stageKind, a_stageA, a_stageB, a_stageParts, a_partStage, a_partUser, a_partX, a_partY, a_phase, a_beganAfter, a_due, a_count, a_held, a_heldY, a_hasHeld, a_hasHeldY, a_queueSize, a_queueIsOfX, a_queueValue, a_queueDue, a_subStatus, a_subCode, a_subEnd, a_subDemand, a_subRequests, a_subDelivered, a_subWaiting, a_waitValue, a_history, a_taskWhat, a_taskPart, a_taskValue) R) : f_tasks = nI R.length ∧ rps a_taskWhat a_taskPart a_taskValue R := h
theorem xe_stk' {R : List Tk} (h1 : f_tasks = nI R.length) (h2 : rps a_taskWhat a_taskPart a_taskValue R) : RepS (f_time, f_sent, f_stageCount, f_tasks, a_sourceEnded, a_stageKind, a_stageA, a_stageB, a_stageParts, a_partStage, a_partUser, a_partX, a_partY, a_phase, a_beganAfter, a_due, a_count, a_held, a_heldY, a_hasHeld, a_hasHeldY, a_queueSize, a_queueIsOfX, a_queueValue, a_queueDue, a_subStatus, a_subCode, a_subEnd, a_subDemand, a_subRequests, a_subDelivered, a_subWaiting, a_waitValue, a_history, a_taskWhat, a_taskPart, a_taskValue) R := ⟨h1, h2⟩
theorem xe_eff {i : Nat} {S' : PSt} {o : Otp} {R : List Tk} {tk' : Int32} {du' co' he' hY' hH' hHY' qs' qo' qv' qd' tw' tp' tv' : Nat → Int32} (h1 : RepA du' co' he' hY' hH' hHY' qs' qo' qv' qd' i S') (h2 : ∀ j, j ≠ i → ∀ S, RepA a_due a_count a_held a_heldY a_hasHeld a_hasHeldY a_queueSize a_queueIsOfX a_queueValue a_queueDue j S → RepA du' co' he' hY' hH' hHY' qs' qo' qv' qd' j S) (h3 : tk' = nI (ots i o ++ R).length) (h4 : rps tw' tp' tv' (ots i o ++ R)) :
    Eff (f_time, f_sent, f_stageCount, f_tasks, a_sourceEnded, a_stageKind, a_stageA, a_stageB, a_stageParts, a_partStage, a_partUser, a_partX, a_partY, a_phase, a_beganAfter, a_due, a_count, a_held, a_heldY, a_hasHeld, a_hasHeldY, a_queueSize, a_queueIsOfX, a_queueValue, a_queueDue, a_subStatus, a_subCode, a_subEnd, a_subDemand, a_subRequests, a_subDelivered, a_subWaiting, a_waitValue, a_history, a_taskWhat, a_taskPart, a_taskValue) (f_time, f_sent, f_stageCount, tk', a_sourceEnded, a_stageKind, a_stageA, a_stageB, a_stageParts, a_partStage, a_partUser, a_partX, a_partY, a_phase, a_beganAfter, du', co', he', hY', hH', hHY', qs', qo', qv', qd', a_subStatus, a_subCode, a_subEnd, a_subDemand, a_subRequests, a_subDelivered, a_subWaiting, a_waitValue, a_history, tw', tp', tv') i S' o R := ⟨xe_st2.trans xe_st2.symm, xe_sub.trans xe_sub.symm, xe_ph.trans xe_ph.symm, h1, h2, h3, h4⟩
theorem xw_push {post : SX → Prop} {w p : Int32} {v : Int32} {n : Nat} (hn : f_tasks = nI n) (h : n < 128) (H : post (f_time, f_sent, f_stageCount, nI (n + 1), a_sourceEnded, a_stageKind, a_stageA, a_stageB, a_stageParts, a_partStage, a_partUser, a_partX, a_partY, a_phase, a_beganAfter, a_due, a_count, a_held, a_heldY, a_hasHeld, a_hasHeldY, a_queueSize, a_queueIsOfX, a_queueValue, a_queueDue, a_subStatus, a_subCode, a_subEnd, a_subDemand, a_subRequests, a_subDelivered, a_subWaiting, a_waitValue, a_history, upd a_taskWhat n w, upd a_taskPart n p, upd a_taskValue n v)) : wpX_push post (f_time, f_sent, f_stageCount, f_tasks, a_sourceEnded, a_stageKind, a_stageA, a_stageB, a_stageParts, a_partStage, a_partUser, a_partX, a_partY, a_phase, a_beganAfter, a_due, a_count, a_held, a_heldY, a_hasHeld, a_hasHeldY, a_queueSize, a_queueIsOfX, a_queueValue, a_queueDue, a_subStatus, a_subCode, a_subEnd, a_subDemand, a_subRequests, a_subDelivered, a_subWaiting, a_waitValue, a_history, a_taskWhat, a_taskPart, a_taskValue) w p v := by
  subst hn
  have hc : (nI n).toNatClampNeg = n := nI_clamp (by omega)
  refine br_f (nI_ge (b := 128) h (by decide)) ⟨vp_in_nI h (by decide), fun x ex => ⟨vp_in_nI h (by decide), fun y ey => ⟨vp_in_nI h (by decide), fun z ez => fun t et => ?_⟩⟩⟩
  subst ex ey ez et
  rw [hc, nI_1]
  exact H
end
end
section
/-! ===== the component's handlers against the machine ===== -/
def HA (ti : Int32) (ps sk sa sb : Nat → Int32) (i t s k : Nat) (a b : Int32) : Prop :=
  i < 27 ∧ ti = nI t ∧ t ≤ 200 ∧ ps i = nI s ∧ s < 12 ∧ sk s = nI k ∧ sa s = a ∧ sb s = b ∧ opk k a b
theorem xh_us {f : Nat → Int32} {x : Int32} {i : Nat} (h : i < 27) : upd f (nI i).toNatClampNeg x i = x := by
  rw [nI_clamp (by omega)]; exact pk_us
theorem xh_un {f : Nat → Int32} {x : Int32} {i j : Nat} (h : i < 27) (hj : j ≠ i) : upd f (nI i).toNatClampNeg x j = f j := by
  rw [nI_clamp (by omega)]; exact pk_un hj
theorem xh_q0 {q : List (Int32 × Nat)} {e : Int32 × Nat} {j : Nat} (h : q[j]? = some e) : j < q.length := by
  rcases Nat.lt_or_ge j q.length with z | z
  · exact z
  · rw [List.getElem?_eq_none z] at h; exact absurd h (by simp)
section
variable {f_time : Int32} {f_sent : Int32} {f_stageCount : Int32} {f_tasks : Int32} {a_sourceEnded : (Nat → Int32)} {a_stageKind : (Nat → Int32)} {a_stageA : (Nat → Int32)} {a_stageB : (Nat → Int32)} {a_stageParts : (Nat → Int32)} {a_partStage : (Nat → Int32)} {a_partUser : (Nat → Int32)} {a_partX : (Nat → Int32)} {a_partY : (Nat → Int32)} {a_phase : (Nat → Int32)} {a_beganAfter : (Nat → Int32)} {a_due : (Nat → Int32)} {a_count : (Nat → Int32)} {a_held : (Nat → Int32)} {a_heldY : (Nat → Int32)} {a_hasHeld : (Nat → Int32)} {a_hasHeldY : (Nat → Int32)} {a_queueSize : (Nat → Int32)} {a_queueIsOfX : (Nat → Int32)} {a_queueValue : (Nat → Int32)} {a_queueDue : (Nat → Int32)} {a_subStatus : (Nat → Int32)} {a_subCode : (Nat → Int32)} {a_subEnd : (Nat → Int32)} {a_subDemand : (Nat → Int64)} {a_subRequests : (Nat → Int32)} {a_subDelivered : (Nat → Int32)} {a_subWaiting : (Nat → Int32)} {a_waitValue : (Nat → Int32)} {a_history : (Nat → Int64)} {a_taskWhat : (Nat → Int32)} {a_taskPart : (Nat → Int32)} {a_taskValue : (Nat → Int32)}
theorem xh_queueItem {post : SX → Prop} {i d c : Nat} {v h hy dv : Int32} {f fy qx ox oy : Bool} {q : List (Int32 × Nat)} {R : List Tk} {dd : Nat} (hi : i < 27) (hS : RepA a_due a_count a_held a_heldY a_hasHeld a_hasHeldY a_queueSize a_queueIsOfX a_queueValue a_queueDue i (d, c, h, hy, f, fy, qx, q, ox, oy)) (ht : f_tasks = nI R.length) (hR : rps a_taskWhat a_taskPart a_taskValue R) (hl : R.length + 1 ≤ 128) (hdv : dv = dI dd)
    (hq : dd = 0 → a_queueIsOfX i = bI qx)
    (H1 : q.length < 8 → ∀ u', Eff (f_time, f_sent, f_stageCount, f_tasks, a_sourceEnded, a_stageKind, a_stageA, a_stageB, a_stageParts, a_partStage, a_partUser, a_partX, a_partY, a_phase, a_beganAfter, a_due, a_count, a_held, a_heldY, a_hasHeld, a_hasHeldY, a_queueSize, a_queueIsOfX, a_queueValue, a_queueDue, a_subStatus, a_subCode, a_subEnd, a_subDemand, a_subRequests, a_subDelivered, a_subWaiting, a_waitValue, a_history, a_taskWhat, a_taskPart, a_taskValue) u' i (d, c, h, hy, f, fy, qx, q ++ [(v, dd)], ox, oy) [] R → post u')
    (H2 : ¬ q.length < 8 → ∀ u', Eff (f_time, f_sent, f_stageCount, f_tasks, a_sourceEnded, a_stageKind, a_stageA, a_stageB, a_stageParts, a_partStage, a_partUser, a_partX, a_partY, a_phase, a_beganAfter, a_due, a_count, a_held, a_heldY, a_hasHeld, a_hasHeldY, a_queueSize, a_queueIsOfX, a_queueValue, a_queueDue, a_subStatus, a_subCode, a_subEnd, a_subDemand, a_subRequests, a_subDelivered, a_subWaiting, a_waitValue, a_history, a_taskWhat, a_taskPart, a_taskValue) u' i (d, c, h, hy, f, fy, qx, q, ox, oy) [(3, 8)] R → post u') : wpX_queueItem post (f_time, f_sent, f_stageCount, f_tasks, a_sourceEnded, a_stageKind, a_stageA, a_stageB, a_stageParts, a_partStage, a_partUser, a_partX, a_partY, a_phase, a_beganAfter, a_due, a_count, a_held, a_heldY, a_hasHeld, a_hasHeldY, a_queueSize, a_queueIsOfX, a_queueValue, a_queueDue, a_subStatus, a_subCode, a_subEnd, a_subDemand, a_subRequests, a_subDelivered, a_subWaiting, a_waitValue, a_history, a_taskWhat, a_taskPart, a_taskValue) (nI i) v dv := by
  obtain ⟨a1, a2, a3, a4, a5, a6, a7, a8, a9, a10⟩ := hS
  have hc : (nI i).toNatClampNeg = i := nI_clamp (by omega)
  have hin : vp_in (nI i) 27 := vp_in_nI hi (by decide)
  have a8' : a_queueSize (nI i).toNatClampNeg = nI q.length := by rw [hc]; exact a8
  refine ⟨hin, ?_⟩
  by_cases h8 : q.length < 8
  · have e4 : nI i * 8 + a_queueSize (nI i).toNatClampNeg = nI (8 * i + q.length) := by
      rw [a8', show (8 : Int32) = nI 8 from rfl, pk_mul, nI_add, Nat.mul_comm]
    have ein : vp_in (nI (8 * i + q.length)) 216 := vp_in_nI (by omega) (by decide)
    have ecl : (nI (8 * i + q.length)).toNatClampNeg = 8 * i + q.length := nI_clamp (by omega)
    refine br_t (by rw [a8']; exact nI_lt (b := 8) h8 (by decide)) ⟨hin, nm_r e4 ⟨ein, nm_r (by rw [ecl]) ⟨ein, nm_r (by rw [ecl]) ⟨hin, hin, nm_r (e' := upd a_queueSize i (nI (q.length + 1))) (by rw [a8', nI_1, hc]) ?_⟩⟩⟩⟩
    refine H1 h8 _ (xe_eff ?_ ?_ ht hR)
    · refine ⟨a1, a2, a3, a4, a5, a6, fun hz => ?_, ?_, by simp; omega, ?_⟩
      · obtain ⟨e, he, he0⟩ := hz
        rcases List.mem_append.mp he with hm | hm
        · exact a7 ⟨e, hm, he0⟩
        · rw [List.mem_singleton] at hm; subst hm; exact hq he0
      · show upd a_queueSize i _ i = nI (q ++ [(v, dd)]).length
        rw [pk_us]; simp
      · intro j e he
        have hj := xh_q0 he
        rw [List.length_append, List.length_singleton] at hj
        show upd a_queueValue _ _ _ = _ ∧ upd a_queueDue _ _ _ = _
        by_cases hjq : j = q.length
        · subst hjq
          rw [List.getElem?_concat_length] at he
          cases he
          exact ⟨pk_us, pk_us.trans hdv⟩
        · rw [List.getElem?_append_left (by omega)] at he
          rw [pk_un (by omega), pk_un (by omega)]
          exact a10 j e he
    · intro j hj S hS
      exact xd_frame hS rfl rfl rfl rfl rfl rfl (pk_un hj) rfl (fun r hr => ⟨pk_un (by omega), pk_un (by omega)⟩)
  · refine br_f (by rw [a8']; exact nI_nlt (b := 8) (by omega) (by omega)) ?_
    exact xw_push ht (by omega) (H2 h8 _ (xe_eff ⟨a1, a2, a3, a4, a5, a6, a7, a8, a9, a10⟩ (fun j hj S hS => hS) rfl (xd_rps_push hR)))
end
end
section
/-! ===== hearItem, kind by kind ===== -/
section
variable {f_time : Int32} {f_sent : Int32} {f_stageCount : Int32} {f_tasks : Int32} {a_sourceEnded : (Nat → Int32)} {a_stageKind : (Nat → Int32)} {a_stageA : (Nat → Int32)} {a_stageB : (Nat → Int32)} {a_stageParts : (Nat → Int32)} {a_partStage : (Nat → Int32)} {a_partUser : (Nat → Int32)} {a_partX : (Nat → Int32)} {a_partY : (Nat → Int32)} {a_phase : (Nat → Int32)} {a_beganAfter : (Nat → Int32)} {a_due : (Nat → Int32)} {a_count : (Nat → Int32)} {a_held : (Nat → Int32)} {a_heldY : (Nat → Int32)} {a_hasHeld : (Nat → Int32)} {a_hasHeldY : (Nat → Int32)} {a_queueSize : (Nat → Int32)} {a_queueIsOfX : (Nat → Int32)} {a_queueValue : (Nat → Int32)} {a_queueDue : (Nat → Int32)} {a_subStatus : (Nat → Int32)} {a_subCode : (Nat → Int32)} {a_subEnd : (Nat → Int32)} {a_subDemand : (Nat → Int64)} {a_subRequests : (Nat → Int32)} {a_subDelivered : (Nat → Int32)} {a_subWaiting : (Nat → Int32)} {a_waitValue : (Nat → Int32)} {a_history : (Nat → Int64)} {a_taskWhat : (Nat → Int32)} {a_taskPart : (Nat → Int32)} {a_taskValue : (Nat → Int32)}
theorem xh_i3 {post : SX → Prop} {i t s d c : Nat} {a b v h hy : Int32} {f fy qx ox oy : Bool} {q : List (Int32 × Nat)} {R : List Tk} (hx : HA f_time a_partStage a_stageKind a_stageA a_stageB i t s 3 a b) (hS : RepA a_due a_count a_held a_heldY a_hasHeld a_hasHeldY a_queueSize a_queueIsOfX a_queueValue a_queueDue i (d, c, h, hy, f, fy, qx, q, ox, oy)) (ok : okS 3 b (d, c, h, hy, f, fy, qx, q, ox, oy)) (hT : f_tasks = nI R.length) (hR : rps a_taskWhat a_taskPart a_taskValue R) (hl : R.length + 2 ≤ 128) (H : ∀ u', Eff (f_time, f_sent, f_stageCount, f_tasks, a_sourceEnded, a_stageKind, a_stageA, a_stageB, a_stageParts, a_partStage, a_partUser, a_partX, a_partY, a_phase, a_beganAfter, a_due, a_count, a_held, a_heldY, a_hasHeld, a_hasHeldY, a_queueSize, a_queueIsOfX, a_queueValue, a_queueDue, a_subStatus, a_subCode, a_subEnd, a_subDemand, a_subRequests, a_subDelivered, a_subWaiting, a_waitValue, a_history, a_taskWhat, a_taskPart, a_taskValue) u' i (hi 3 b t true v (d, c, h, hy, f, fy, qx, q, ox, oy)).1 (hi 3 b t true v (d, c, h, hy, f, fy, qx, q, ox, oy)).2 R → post u') : wpX_hearItem post (f_time, f_sent, f_stageCount, f_tasks, a_sourceEnded, a_stageKind, a_stageA, a_stageB, a_stageParts, a_partStage, a_partUser, a_partX, a_partY, a_phase, a_beganAfter, a_due, a_count, a_held, a_heldY, a_hasHeld, a_hasHeldY, a_queueSize, a_queueIsOfX, a_queueValue, a_queueDue, a_subStatus, a_subCode, a_subEnd, a_subDemand, a_subRequests, a_subDelivered, a_subWaiting, a_waitValue, a_history, a_taskWhat, a_taskPart, a_taskValue) (nI i) v := by
  obtain ⟨h27, ht, ht2, hps, hs, hk, ha, hb, ho⟩ := hx
  have hS0 := hS
  obtain ⟨a1, a2, a3, a4, a5, a6, a7, a8, a9, a10⟩ := hS
  have hc : (nI i).toNatClampNeg = i := nI_clamp (by omega)
  have hcs : (nI s).toNatClampNeg = s := nI_clamp (by omega)
  have hin : vp_in (nI i) 27 := vp_in_nI h27 (by decide)
  have hps' : a_partStage (nI i).toNatClampNeg = nI s := by rw [hc]; exact hps
  have e1 : vp_in (a_partStage (nI i).toNatClampNeg) 12 := by rw [hps']; exact vp_in_nI hs (by decide)
  have a2' : a_count (nI i).toNatClampNeg = nI c := by rw [hc]; exact a2
  have a3' : a_held (nI i).toNatClampNeg = h := by rw [hc]; exact a3
  have a5' : a_hasHeld (nI i).toNatClampNeg = bI f := by rw [hc]; exact a5
  refine ⟨hin, e1, nm_r (e' := b) (by rw [hps', hcs]; exact hb) ⟨hin, e1, nm_r (e' := nI 3) (by rw [hps', hcs]; exact hk) (br_f (by decide) (br_f (by decide) ?_))⟩⟩
  refine br_t rfl ?_
  exact xw_push hT (by omega) (H _ (xe_eff hS0 (fun j hj S hS => hS) rfl (xd_rps_push hR)))
theorem xh_i4 {post : SX → Prop} {i t s d c : Nat} {a b v h hy : Int32} {f fy qx ox oy : Bool} {q : List (Int32 × Nat)} {R : List Tk} (hx : HA f_time a_partStage a_stageKind a_stageA a_stageB i t s 4 a b) (hS : RepA a_due a_count a_held a_heldY a_hasHeld a_hasHeldY a_queueSize a_queueIsOfX a_queueValue a_queueDue i (d, c, h, hy, f, fy, qx, q, ox, oy)) (ok : okS 4 b (d, c, h, hy, f, fy, qx, q, ox, oy)) (hT : f_tasks = nI R.length) (hR : rps a_taskWhat a_taskPart a_taskValue R) (hl : R.length + 2 ≤ 128) (H : ∀ u', Eff (f_time, f_sent, f_stageCount, f_tasks, a_sourceEnded, a_stageKind, a_stageA, a_stageB, a_stageParts, a_partStage, a_partUser, a_partX, a_partY, a_phase, a_beganAfter, a_due, a_count, a_held, a_heldY, a_hasHeld, a_hasHeldY, a_queueSize, a_queueIsOfX, a_queueValue, a_queueDue, a_subStatus, a_subCode, a_subEnd, a_subDemand, a_subRequests, a_subDelivered, a_subWaiting, a_waitValue, a_history, a_taskWhat, a_taskPart, a_taskValue) u' i (hi 4 b t true v (d, c, h, hy, f, fy, qx, q, ox, oy)).1 (hi 4 b t true v (d, c, h, hy, f, fy, qx, q, ox, oy)).2 R → post u') : wpX_hearItem post (f_time, f_sent, f_stageCount, f_tasks, a_sourceEnded, a_stageKind, a_stageA, a_stageB, a_stageParts, a_partStage, a_partUser, a_partX, a_partY, a_phase, a_beganAfter, a_due, a_count, a_held, a_heldY, a_hasHeld, a_hasHeldY, a_queueSize, a_queueIsOfX, a_queueValue, a_queueDue, a_subStatus, a_subCode, a_subEnd, a_subDemand, a_subRequests, a_subDelivered, a_subWaiting, a_waitValue, a_history, a_taskWhat, a_taskPart, a_taskValue) (nI i) v := by
  obtain ⟨h27, ht, ht2, hps, hs, hk, ha, hb, ho⟩ := hx
  have hS0 := hS
  obtain ⟨a1, a2, a3, a4, a5, a6, a7, a8, a9, a10⟩ := hS
  have hc : (nI i).toNatClampNeg = i := nI_clamp (by omega)
  have hcs : (nI s).toNatClampNeg = s := nI_clamp (by omega)
  have hin : vp_in (nI i) 27 := vp_in_nI h27 (by decide)
  have hps' : a_partStage (nI i).toNatClampNeg = nI s := by rw [hc]; exact hps
  have e1 : vp_in (a_partStage (nI i).toNatClampNeg) 12 := by rw [hps']; exact vp_in_nI hs (by decide)
  have a2' : a_count (nI i).toNatClampNeg = nI c := by rw [hc]; exact a2
  have a3' : a_held (nI i).toNatClampNeg = h := by rw [hc]; exact a3
  have a5' : a_hasHeld (nI i).toNatClampNeg = bI f := by rw [hc]; exact a5
  refine ⟨hin, e1, nm_r (e' := b) (by rw [hps', hcs]; exact hb) ⟨hin, e1, nm_r (e' := nI 4) (by rw [hps', hcs]; exact hk) (br_f (by decide) (br_f (by decide) ?_))⟩⟩
  iterate 1 (refine br_f (by decide) ?_)
  refine br_t rfl ?_
  by_cases hv : v ≤ b
  · have eh : hi 4 b t true v (d, c, h, hy, f, fy, qx, q, ox, oy) = ((d, c, h, hy, f, fy, qx, q, ox, oy), []) := by simp [hi, hv]
    rw [eh] at H
    exact br_t hv (H _ (xe_eff hS0 (fun j hj S hS => hS) hT hR))
  · have eh : hi 4 b t true v (d, c, h, hy, f, fy, qx, q, ox, oy) = ((d, c, h, hy, f, fy, qx, q, ox, oy), [(1, v)]) := by simp only [hi, if_neg hv]
    rw [eh] at H
    exact br_f hv (xw_push hT (by omega) (H _ (xe_eff hS0 (fun j hj S hS => hS) rfl (xd_rps_push hR))))
theorem xh_i5 {post : SX → Prop} {i t s d c : Nat} {a b v h hy : Int32} {f fy qx ox oy : Bool} {q : List (Int32 × Nat)} {R : List Tk} (hx : HA f_time a_partStage a_stageKind a_stageA a_stageB i t s 5 a b) (hS : RepA a_due a_count a_held a_heldY a_hasHeld a_hasHeldY a_queueSize a_queueIsOfX a_queueValue a_queueDue i (d, c, h, hy, f, fy, qx, q, ox, oy)) (ok : okS 5 b (d, c, h, hy, f, fy, qx, q, ox, oy)) (hT : f_tasks = nI R.length) (hR : rps a_taskWhat a_taskPart a_taskValue R) (hl : R.length + 2 ≤ 128) (H : ∀ u', Eff (f_time, f_sent, f_stageCount, f_tasks, a_sourceEnded, a_stageKind, a_stageA, a_stageB, a_stageParts, a_partStage, a_partUser, a_partX, a_partY, a_phase, a_beganAfter, a_due, a_count, a_held, a_heldY, a_hasHeld, a_hasHeldY, a_queueSize, a_queueIsOfX, a_queueValue, a_queueDue, a_subStatus, a_subCode, a_subEnd, a_subDemand, a_subRequests, a_subDelivered, a_subWaiting, a_waitValue, a_history, a_taskWhat, a_taskPart, a_taskValue) u' i (hi 5 b t true v (d, c, h, hy, f, fy, qx, q, ox, oy)).1 (hi 5 b t true v (d, c, h, hy, f, fy, qx, q, ox, oy)).2 R → post u') : wpX_hearItem post (f_time, f_sent, f_stageCount, f_tasks, a_sourceEnded, a_stageKind, a_stageA, a_stageB, a_stageParts, a_partStage, a_partUser, a_partX, a_partY, a_phase, a_beganAfter, a_due, a_count, a_held, a_heldY, a_hasHeld, a_hasHeldY, a_queueSize, a_queueIsOfX, a_queueValue, a_queueDue, a_subStatus, a_subCode, a_subEnd, a_subDemand, a_subRequests, a_subDelivered, a_subWaiting, a_waitValue, a_history, a_taskWhat, a_taskPart, a_taskValue) (nI i) v := by
  obtain ⟨h27, ht, ht2, hps, hs, hk, ha, hb, ho⟩ := hx
  have hS0 := hS
  obtain ⟨a1, a2, a3, a4, a5, a6, a7, a8, a9, a10⟩ := hS
  have hc : (nI i).toNatClampNeg = i := nI_clamp (by omega)
  have hcs : (nI s).toNatClampNeg = s := nI_clamp (by omega)
  have hin : vp_in (nI i) 27 := vp_in_nI h27 (by decide)
  have hps' : a_partStage (nI i).toNatClampNeg = nI s := by rw [hc]; exact hps
  have e1 : vp_in (a_partStage (nI i).toNatClampNeg) 12 := by rw [hps']; exact vp_in_nI hs (by decide)
  have a2' : a_count (nI i).toNatClampNeg = nI c := by rw [hc]; exact a2
  have a3' : a_held (nI i).toNatClampNeg = h := by rw [hc]; exact a3
  have a5' : a_hasHeld (nI i).toNatClampNeg = bI f := by rw [hc]; exact a5
  refine ⟨hin, e1, nm_r (e' := b) (by rw [hps', hcs]; exact hb) ⟨hin, e1, nm_r (e' := nI 5) (by rw [hps', hcs]; exact hk) (br_f (by decide) (br_f (by decide) ?_))⟩⟩
  iterate 2 (refine br_f (by decide) ?_)
  refine br_t rfl ?_
  refine ⟨hin, hin, nm_r (e' := upd a_held i (h + v)) (by rw [a3', hc]) ⟨hin, ?_⟩⟩
  rw [show upd a_held i (h + v) (nI i).toNatClampNeg = h + v from by rw [hc]; exact pk_us]
  exact xw_push hT (by omega) (H _ (xe_eff ⟨a1, a2, pk_us, a4, a5, a6, a7, a8, a9, a10⟩ (fun j hj S hS => xd_frame hS rfl rfl (pk_un hj) rfl rfl rfl rfl rfl (fun r hr => ⟨rfl, rfl⟩)) rfl (xd_rps_push hR)))
theorem xh_i6 {post : SX → Prop} {i t s d c : Nat} {a b v h hy : Int32} {f fy qx ox oy : Bool} {q : List (Int32 × Nat)} {R : List Tk} (hx : HA f_time a_partStage a_stageKind a_stageA a_stageB i t s 6 a b) (hS : RepA a_due a_count a_held a_heldY a_hasHeld a_hasHeldY a_queueSize a_queueIsOfX a_queueValue a_queueDue i (d, c, h, hy, f, fy, qx, q, ox, oy)) (ok : okS 6 b (d, c, h, hy, f, fy, qx, q, ox, oy)) (hT : f_tasks = nI R.length) (hR : rps a_taskWhat a_taskPart a_taskValue R) (hl : R.length + 2 ≤ 128) (H : ∀ u', Eff (f_time, f_sent, f_stageCount, f_tasks, a_sourceEnded, a_stageKind, a_stageA, a_stageB, a_stageParts, a_partStage, a_partUser, a_partX, a_partY, a_phase, a_beganAfter, a_due, a_count, a_held, a_heldY, a_hasHeld, a_hasHeldY, a_queueSize, a_queueIsOfX, a_queueValue, a_queueDue, a_subStatus, a_subCode, a_subEnd, a_subDemand, a_subRequests, a_subDelivered, a_subWaiting, a_waitValue, a_history, a_taskWhat, a_taskPart, a_taskValue) u' i (hi 6 b t true v (d, c, h, hy, f, fy, qx, q, ox, oy)).1 (hi 6 b t true v (d, c, h, hy, f, fy, qx, q, ox, oy)).2 R → post u') : wpX_hearItem post (f_time, f_sent, f_stageCount, f_tasks, a_sourceEnded, a_stageKind, a_stageA, a_stageB, a_stageParts, a_partStage, a_partUser, a_partX, a_partY, a_phase, a_beganAfter, a_due, a_count, a_held, a_heldY, a_hasHeld, a_hasHeldY, a_queueSize, a_queueIsOfX, a_queueValue, a_queueDue, a_subStatus, a_subCode, a_subEnd, a_subDemand, a_subRequests, a_subDelivered, a_subWaiting, a_waitValue, a_history, a_taskWhat, a_taskPart, a_taskValue) (nI i) v := by
  obtain ⟨h27, ht, ht2, hps, hs, hk, ha, hb, ho⟩ := hx
  have hS0 := hS
  obtain ⟨a1, a2, a3, a4, a5, a6, a7, a8, a9, a10⟩ := hS
  have hc : (nI i).toNatClampNeg = i := nI_clamp (by omega)
  have hcs : (nI s).toNatClampNeg = s := nI_clamp (by omega)
  have hin : vp_in (nI i) 27 := vp_in_nI h27 (by decide)
  have hps' : a_partStage (nI i).toNatClampNeg = nI s := by rw [hc]; exact hps
  have e1 : vp_in (a_partStage (nI i).toNatClampNeg) 12 := by rw [hps']; exact vp_in_nI hs (by decide)
  have a2' : a_count (nI i).toNatClampNeg = nI c := by rw [hc]; exact a2
  have a3' : a_held (nI i).toNatClampNeg = h := by rw [hc]; exact a3
  have a5' : a_hasHeld (nI i).toNatClampNeg = bI f := by rw [hc]; exact a5
  refine ⟨hin, e1, nm_r (e' := b) (by rw [hps', hcs]; exact hb) ⟨hin, e1, nm_r (e' := nI 6) (by rw [hps', hcs]; exact hk) (br_f (by decide) (br_f (by decide) ?_))⟩⟩
  iterate 3 (refine br_f (by decide) ?_)
  refine br_t rfl ?_
  have hb6 := ho.2.2.2.1 rfl
  have okc : c < cl b := ok.2.1 (Or.inl rfl)
  refine ⟨hin, hin, nm_r (e' := upd a_count i (nI (c + 1))) (by rw [a2', nI_1, hc]) ⟨hin, ?_⟩⟩
  have eu : upd a_count i (nI (c + 1)) (nI i).toNatClampNeg = nI (c + 1) := by rw [hc]; exact pk_us
  by_cases hv : c + 1 < cl b
  · have eh : hi 6 b t true v (d, c, h, hy, f, fy, qx, q, ox, oy) = ((d, c + 1, h, hy, f, fy, qx, q, ox, oy), [(1, v)]) := by simp only [hi, if_pos hv]
    rw [eh] at H
    refine br_t (by rw [eu, hb6.2.2]; exact nI_lt hv (by omega)) ?_
    exact xw_push hT (by omega) (H _ (xe_eff ⟨a1, pk_us, a3, a4, a5, a6, a7, a8, a9, a10⟩ (fun j hj S hS => xd_frame hS rfl (pk_un hj) rfl rfl rfl rfl rfl rfl (fun r hr => ⟨rfl, rfl⟩)) rfl (xd_rps_push hR)))
  · have eh : hi 6 b t true v (d, c, h, hy, f, fy, qx, q, ox, oy) = ((d, c + 1, h, hy, f, fy, qx, q, ox, oy), [(1, v), (2, 0)]) := by simp only [hi, if_neg hv]
    rw [eh] at H
    refine br_f (by rw [eu, hb6.2.2]; exact nI_nlt (by omega) (by omega)) ?_
    refine xw_push hT (by omega) ?_
    exact xw_push rfl (by omega) (H _ (xe_eff ⟨a1, pk_us, a3, a4, a5, a6, a7, a8, a9, a10⟩ (fun j hj S hS => xd_frame hS rfl (pk_un hj) rfl rfl rfl rfl rfl rfl (fun r hr => ⟨rfl, rfl⟩)) rfl (xd_rps_push (R := (2, i, 0) :: R) (xd_rps_push hR))))
theorem xh_i7 {post : SX → Prop} {i t s d c : Nat} {a b v h hy : Int32} {f fy qx ox oy : Bool} {q : List (Int32 × Nat)} {R : List Tk} (hx : HA f_time a_partStage a_stageKind a_stageA a_stageB i t s 7 a b) (hS : RepA a_due a_count a_held a_heldY a_hasHeld a_hasHeldY a_queueSize a_queueIsOfX a_queueValue a_queueDue i (d, c, h, hy, f, fy, qx, q, ox, oy)) (ok : okS 7 b (d, c, h, hy, f, fy, qx, q, ox, oy)) (hT : f_tasks = nI R.length) (hR : rps a_taskWhat a_taskPart a_taskValue R) (hl : R.length + 2 ≤ 128) (H : ∀ u', Eff (f_time, f_sent, f_stageCount, f_tasks, a_sourceEnded, a_stageKind, a_stageA, a_stageB, a_stageParts, a_partStage, a_partUser, a_partX, a_partY, a_phase, a_beganAfter, a_due, a_count, a_held, a_heldY, a_hasHeld, a_hasHeldY, a_queueSize, a_queueIsOfX, a_queueValue, a_queueDue, a_subStatus, a_subCode, a_subEnd, a_subDemand, a_subRequests, a_subDelivered, a_subWaiting, a_waitValue, a_history, a_taskWhat, a_taskPart, a_taskValue) u' i (hi 7 b t true v (d, c, h, hy, f, fy, qx, q, ox, oy)).1 (hi 7 b t true v (d, c, h, hy, f, fy, qx, q, ox, oy)).2 R → post u') : wpX_hearItem post (f_time, f_sent, f_stageCount, f_tasks, a_sourceEnded, a_stageKind, a_stageA, a_stageB, a_stageParts, a_partStage, a_partUser, a_partX, a_partY, a_phase, a_beganAfter, a_due, a_count, a_held, a_heldY, a_hasHeld, a_hasHeldY, a_queueSize, a_queueIsOfX, a_queueValue, a_queueDue, a_subStatus, a_subCode, a_subEnd, a_subDemand, a_subRequests, a_subDelivered, a_subWaiting, a_waitValue, a_history, a_taskWhat, a_taskPart, a_taskValue) (nI i) v := by
  obtain ⟨h27, ht, ht2, hps, hs, hk, ha, hb, ho⟩ := hx
  have hS0 := hS
  obtain ⟨a1, a2, a3, a4, a5, a6, a7, a8, a9, a10⟩ := hS
  have hc : (nI i).toNatClampNeg = i := nI_clamp (by omega)
  have hcs : (nI s).toNatClampNeg = s := nI_clamp (by omega)
  have hin : vp_in (nI i) 27 := vp_in_nI h27 (by decide)
  have hps' : a_partStage (nI i).toNatClampNeg = nI s := by rw [hc]; exact hps
  have e1 : vp_in (a_partStage (nI i).toNatClampNeg) 12 := by rw [hps']; exact vp_in_nI hs (by decide)
  have a2' : a_count (nI i).toNatClampNeg = nI c := by rw [hc]; exact a2
  have a3' : a_held (nI i).toNatClampNeg = h := by rw [hc]; exact a3
  have a5' : a_hasHeld (nI i).toNatClampNeg = bI f := by rw [hc]; exact a5
  refine ⟨hin, e1, nm_r (e' := b) (by rw [hps', hcs]; exact hb) ⟨hin, e1, nm_r (e' := nI 7) (by rw [hps', hcs]; exact hk) (br_f (by decide) (br_f (by decide) ?_))⟩⟩
  iterate 4 (refine br_f (by decide) ?_)
  refine br_t rfl ?_
  have hb7 := ho.2.2.2.2.1 rfl
  have okc : c ≤ cl b := ok.2.2.1 rfl
  refine ⟨hin, ?_⟩
  by_cases hv : c < cl b
  · have eh : hi 7 b t true v (d, c, h, hy, f, fy, qx, q, ox, oy) = ((d, c + 1, h, hy, f, fy, qx, q, ox, oy), []) := by simp only [hi, if_pos hv]
    rw [eh] at H
    refine br_f (by rw [a2', hb7.2]; exact nI_ge hv (by omega)) ⟨hin, hin, nm_r (e' := upd a_count i (nI (c + 1))) (by rw [a2', nI_1, hc]) ?_⟩
    exact H _ (xe_eff ⟨a1, pk_us, a3, a4, a5, a6, a7, a8, a9, a10⟩ (fun j hj S hS => xd_frame hS rfl (pk_un hj) rfl rfl rfl rfl rfl rfl (fun r hr => ⟨rfl, rfl⟩)) hT hR)
  · have eh : hi 7 b t true v (d, c, h, hy, f, fy, qx, q, ox, oy) = ((d, c, h, hy, f, fy, qx, q, ox, oy), [(1, v)]) := by simp only [hi, if_neg hv]
    rw [eh] at H
    refine br_t (by rw [a2', hb7.2]; exact nI_le (by omega) (by omega)) ?_
    exact xw_push hT (by omega) (H _ (xe_eff hS0 (fun j hj S hS => hS) rfl (xd_rps_push hR)))
theorem xh_i8 {post : SX → Prop} {i t s d c : Nat} {a b v h hy : Int32} {f fy qx ox oy : Bool} {q : List (Int32 × Nat)} {R : List Tk} (hx : HA f_time a_partStage a_stageKind a_stageA a_stageB i t s 8 a b) (hS : RepA a_due a_count a_held a_heldY a_hasHeld a_hasHeldY a_queueSize a_queueIsOfX a_queueValue a_queueDue i (d, c, h, hy, f, fy, qx, q, ox, oy)) (ok : okS 8 b (d, c, h, hy, f, fy, qx, q, ox, oy)) (hT : f_tasks = nI R.length) (hR : rps a_taskWhat a_taskPart a_taskValue R) (hl : R.length + 2 ≤ 128) (H : ∀ u', Eff (f_time, f_sent, f_stageCount, f_tasks, a_sourceEnded, a_stageKind, a_stageA, a_stageB, a_stageParts, a_partStage, a_partUser, a_partX, a_partY, a_phase, a_beganAfter, a_due, a_count, a_held, a_heldY, a_hasHeld, a_hasHeldY, a_queueSize, a_queueIsOfX, a_queueValue, a_queueDue, a_subStatus, a_subCode, a_subEnd, a_subDemand, a_subRequests, a_subDelivered, a_subWaiting, a_waitValue, a_history, a_taskWhat, a_taskPart, a_taskValue) u' i (hi 8 b t true v (d, c, h, hy, f, fy, qx, q, ox, oy)).1 (hi 8 b t true v (d, c, h, hy, f, fy, qx, q, ox, oy)).2 R → post u') : wpX_hearItem post (f_time, f_sent, f_stageCount, f_tasks, a_sourceEnded, a_stageKind, a_stageA, a_stageB, a_stageParts, a_partStage, a_partUser, a_partX, a_partY, a_phase, a_beganAfter, a_due, a_count, a_held, a_heldY, a_hasHeld, a_hasHeldY, a_queueSize, a_queueIsOfX, a_queueValue, a_queueDue, a_subStatus, a_subCode, a_subEnd, a_subDemand, a_subRequests, a_subDelivered, a_subWaiting, a_waitValue, a_history, a_taskWhat, a_taskPart, a_taskValue) (nI i) v := by
  obtain ⟨h27, ht, ht2, hps, hs, hk, ha, hb, ho⟩ := hx
  have hS0 := hS
  obtain ⟨a1, a2, a3, a4, a5, a6, a7, a8, a9, a10⟩ := hS
  have hc : (nI i).toNatClampNeg = i := nI_clamp (by omega)
  have hcs : (nI s).toNatClampNeg = s := nI_clamp (by omega)
  have hin : vp_in (nI i) 27 := vp_in_nI h27 (by decide)
  have hps' : a_partStage (nI i).toNatClampNeg = nI s := by rw [hc]; exact hps
  have e1 : vp_in (a_partStage (nI i).toNatClampNeg) 12 := by rw [hps']; exact vp_in_nI hs (by decide)
  have a2' : a_count (nI i).toNatClampNeg = nI c := by rw [hc]; exact a2
  have a3' : a_held (nI i).toNatClampNeg = h := by rw [hc]; exact a3
  have a5' : a_hasHeld (nI i).toNatClampNeg = bI f := by rw [hc]; exact a5
  refine ⟨hin, e1, nm_r (e' := b) (by rw [hps', hcs]; exact hb) ⟨hin, e1, nm_r (e' := nI 8) (by rw [hps', hcs]; exact hk) (br_f (by decide) (br_f (by decide) ?_))⟩⟩
  iterate 5 (refine br_f (by decide) ?_)
  refine br_t rfl ?_
  refine ⟨hin, ?_⟩
  have hf : RepA a_due a_count (upd a_held (nI i).toNatClampNeg v) a_heldY (upd a_hasHeld (nI i).toNatClampNeg (vp_nar .boolean 1)) a_hasHeldY a_queueSize a_queueIsOfX a_queueValue a_queueDue i (d, c, v, hy, true, fy, qx, q, ox, oy) := ⟨a1, a2, xh_us h27, a4, xh_us h27, a6, a7, a8, a9, a10⟩
  by_cases hv : f = true ∧ h = v
  · have eh : hi 8 b t true v (d, c, h, hy, f, fy, qx, q, ox, oy) = ((d, c, v, hy, true, fy, qx, q, ox, oy), []) := by simp only [hi, if_pos hv]
    rw [eh] at H
    refine br_f (by rw [a5', hv.1]; decide) ⟨hin, br_t (by rw [a3']; exact hv.2) ⟨hin, nm_e ⟨hin, nm_e ?_⟩⟩⟩
    exact H _ (xe_eff hf (fun j hj S hS => xd_frame hS rfl rfl (xh_un h27 hj) rfl (xh_un h27 hj) rfl rfl rfl (fun r hr => ⟨rfl, rfl⟩)) hT hR)
  · have eh : hi 8 b t true v (d, c, h, hy, f, fy, qx, q, ox, oy) = ((d, c, v, hy, true, fy, qx, q, ox, oy), [(1, v)]) := by simp only [hi, if_neg hv]
    rw [eh] at H
    have hp : wX_changeItem_19 post (nI i) v f_time f_sent f_stageCount f_tasks a_sourceEnded a_stageKind a_stageA a_stageB a_stageParts a_partStage a_partUser a_partX a_partY a_phase a_beganAfter a_due a_count a_held a_heldY a_hasHeld a_hasHeldY a_queueSize a_queueIsOfX a_queueValue a_queueDue a_subStatus a_subCode a_subEnd a_subDemand a_subRequests a_subDelivered a_subWaiting a_waitValue a_history a_taskWhat a_taskPart a_taskValue := by
      refine xw_push hT (by omega) ⟨hin, nm_e ⟨hin, nm_e ?_⟩⟩
      exact H _ (xe_eff hf (fun j hj S hS => xd_frame hS rfl rfl (xh_un h27 hj) rfl (xh_un h27 hj) rfl rfl rfl (fun r hr => ⟨rfl, rfl⟩)) rfl (xd_rps_push hR))
    by_cases hf0 : f = false
    · exact br_t (by rw [a5', hf0]; rfl) hp
    · refine br_f (by rw [a5', xd_bI0]; exact hf0) ⟨hin, br_f (by rw [a3']; intro z; exact hv ⟨by simpa using hf0, z⟩) hp⟩
theorem xh_i9 {post : SX → Prop} {i t s d c : Nat} {a b v h hy : Int32} {f fy qx ox oy : Bool} {q : List (Int32 × Nat)} {R : List Tk} (hx : HA f_time a_partStage a_stageKind a_stageA a_stageB i t s 9 a b) (hS : RepA a_due a_count a_held a_heldY a_hasHeld a_hasHeldY a_queueSize a_queueIsOfX a_queueValue a_queueDue i (d, c, h, hy, f, fy, qx, q, ox, oy)) (ok : okS 9 b (d, c, h, hy, f, fy, qx, q, ox, oy)) (hT : f_tasks = nI R.length) (hR : rps a_taskWhat a_taskPart a_taskValue R) (hl : R.length + 2 ≤ 128) (H : ∀ u', Eff (f_time, f_sent, f_stageCount, f_tasks, a_sourceEnded, a_stageKind, a_stageA, a_stageB, a_stageParts, a_partStage, a_partUser, a_partX, a_partY, a_phase, a_beganAfter, a_due, a_count, a_held, a_heldY, a_hasHeld, a_hasHeldY, a_queueSize, a_queueIsOfX, a_queueValue, a_queueDue, a_subStatus, a_subCode, a_subEnd, a_subDemand, a_subRequests, a_subDelivered, a_subWaiting, a_waitValue, a_history, a_taskWhat, a_taskPart, a_taskValue) u' i (hi 9 b t true v (d, c, h, hy, f, fy, qx, q, ox, oy)).1 (hi 9 b t true v (d, c, h, hy, f, fy, qx, q, ox, oy)).2 R → post u') : wpX_hearItem post (f_time, f_sent, f_stageCount, f_tasks, a_sourceEnded, a_stageKind, a_stageA, a_stageB, a_stageParts, a_partStage, a_partUser, a_partX, a_partY, a_phase, a_beganAfter, a_due, a_count, a_held, a_heldY, a_hasHeld, a_hasHeldY, a_queueSize, a_queueIsOfX, a_queueValue, a_queueDue, a_subStatus, a_subCode, a_subEnd, a_subDemand, a_subRequests, a_subDelivered, a_subWaiting, a_waitValue, a_history, a_taskWhat, a_taskPart, a_taskValue) (nI i) v := by
  obtain ⟨h27, ht, ht2, hps, hs, hk, ha, hb, ho⟩ := hx
  have hS0 := hS
  obtain ⟨a1, a2, a3, a4, a5, a6, a7, a8, a9, a10⟩ := hS
  have hc : (nI i).toNatClampNeg = i := nI_clamp (by omega)
  have hcs : (nI s).toNatClampNeg = s := nI_clamp (by omega)
  have hin : vp_in (nI i) 27 := vp_in_nI h27 (by decide)
  have hps' : a_partStage (nI i).toNatClampNeg = nI s := by rw [hc]; exact hps
  have e1 : vp_in (a_partStage (nI i).toNatClampNeg) 12 := by rw [hps']; exact vp_in_nI hs (by decide)
  have a2' : a_count (nI i).toNatClampNeg = nI c := by rw [hc]; exact a2
  have a3' : a_held (nI i).toNatClampNeg = h := by rw [hc]; exact a3
  have a5' : a_hasHeld (nI i).toNatClampNeg = bI f := by rw [hc]; exact a5
  refine ⟨hin, e1, nm_r (e' := b) (by rw [hps', hcs]; exact hb) ⟨hin, e1, nm_r (e' := nI 9) (by rw [hps', hcs]; exact hk) (br_f (by decide) (br_f (by decide) ?_))⟩⟩
  iterate 6 (refine br_f (by decide) ?_)
  refine br_t rfl ?_
  have hb9 := ho.2.2.2.2.2.1 rfl
  have okc : c < cl b := ok.2.1 (Or.inr rfl)
  refine ⟨hin, hin, nm_r (e' := upd a_held i (h + v)) (by rw [a3', hc]) ⟨hin, hin, nm_r (e' := upd a_count i (nI (c + 1))) (by rw [a2', nI_1, hc]) ⟨hin, ?_⟩⟩⟩
  have eu : upd a_count i (nI (c + 1)) (nI i).toNatClampNeg = nI (c + 1) := by rw [hc]; exact pk_us
  by_cases hv : c + 1 < cl b
  · have eh : hi 9 b t true v (d, c, h, hy, f, fy, qx, q, ox, oy) = ((d, c + 1, h + v, hy, f, fy, qx, q, ox, oy), []) := by simp only [hi, if_pos hv]
    rw [eh] at H
    refine br_t (by rw [eu, hb9.2.2]; exact nI_lt hv (by omega)) ?_
    exact H _ (xe_eff ⟨a1, pk_us, pk_us, a4, a5, a6, a7, a8, a9, a10⟩ (fun j hj S hS => xd_frame hS rfl (pk_un hj) (pk_un hj) rfl rfl rfl rfl rfl (fun r hr => ⟨rfl, rfl⟩)) hT hR)
  · have eh : hi 9 b t true v (d, c, h, hy, f, fy, qx, q, ox, oy) = ((d, 0, 0, hy, f, fy, qx, q, ox, oy), [(1, h + v)]) := by simp only [hi, if_neg hv]
    rw [eh] at H
    refine br_f (by rw [eu, hb9.2.2]; exact nI_nlt (by omega) (by omega)) ⟨hin, ?_⟩
    rw [show upd a_held i (h + v) (nI i).toNatClampNeg = h + v from by rw [hc]; exact pk_us]
    refine xw_push hT (by omega) ⟨hin, nm_e ⟨hin, nm_e ?_⟩⟩
    exact H _ (xe_eff ⟨a1, xh_us h27, xh_us h27, a4, a5, a6, a7, a8, a9, a10⟩ (fun j hj S hS => xd_frame hS rfl ((xh_un h27 hj).trans (pk_un hj)) ((xh_un h27 hj).trans (pk_un hj)) rfl rfl rfl rfl rfl (fun r hr => ⟨rfl, rfl⟩)) rfl (xd_rps_push hR))
theorem xh_i10 {post : SX → Prop} {i t s d c : Nat} {a b v h hy : Int32} {f fy qx ox oy : Bool} {q : List (Int32 × Nat)} {R : List Tk} (hx : HA f_time a_partStage a_stageKind a_stageA a_stageB i t s 10 a b) (hS : RepA a_due a_count a_held a_heldY a_hasHeld a_hasHeldY a_queueSize a_queueIsOfX a_queueValue a_queueDue i (d, c, h, hy, f, fy, qx, q, ox, oy)) (ok : okS 10 b (d, c, h, hy, f, fy, qx, q, ox, oy)) (hT : f_tasks = nI R.length) (hR : rps a_taskWhat a_taskPart a_taskValue R) (hl : R.length + 2 ≤ 128) (H : ∀ u', Eff (f_time, f_sent, f_stageCount, f_tasks, a_sourceEnded, a_stageKind, a_stageA, a_stageB, a_stageParts, a_partStage, a_partUser, a_partX, a_partY, a_phase, a_beganAfter, a_due, a_count, a_held, a_heldY, a_hasHeld, a_hasHeldY, a_queueSize, a_queueIsOfX, a_queueValue, a_queueDue, a_subStatus, a_subCode, a_subEnd, a_subDemand, a_subRequests, a_subDelivered, a_subWaiting, a_waitValue, a_history, a_taskWhat, a_taskPart, a_taskValue) u' i (hi 10 b t true v (d, c, h, hy, f, fy, qx, q, ox, oy)).1 (hi 10 b t true v (d, c, h, hy, f, fy, qx, q, ox, oy)).2 R → post u') : wpX_hearItem post (f_time, f_sent, f_stageCount, f_tasks, a_sourceEnded, a_stageKind, a_stageA, a_stageB, a_stageParts, a_partStage, a_partUser, a_partX, a_partY, a_phase, a_beganAfter, a_due, a_count, a_held, a_heldY, a_hasHeld, a_hasHeldY, a_queueSize, a_queueIsOfX, a_queueValue, a_queueDue, a_subStatus, a_subCode, a_subEnd, a_subDemand, a_subRequests, a_subDelivered, a_subWaiting, a_waitValue, a_history, a_taskWhat, a_taskPart, a_taskValue) (nI i) v := by
  obtain ⟨h27, ht, ht2, hps, hs, hk, ha, hb, ho⟩ := hx
  have hS0 := hS
  obtain ⟨a1, a2, a3, a4, a5, a6, a7, a8, a9, a10⟩ := hS
  have hc : (nI i).toNatClampNeg = i := nI_clamp (by omega)
  have hcs : (nI s).toNatClampNeg = s := nI_clamp (by omega)
  have hin : vp_in (nI i) 27 := vp_in_nI h27 (by decide)
  have hps' : a_partStage (nI i).toNatClampNeg = nI s := by rw [hc]; exact hps
  have e1 : vp_in (a_partStage (nI i).toNatClampNeg) 12 := by rw [hps']; exact vp_in_nI hs (by decide)
  have a2' : a_count (nI i).toNatClampNeg = nI c := by rw [hc]; exact a2
  have a3' : a_held (nI i).toNatClampNeg = h := by rw [hc]; exact a3
  have a5' : a_hasHeld (nI i).toNatClampNeg = bI f := by rw [hc]; exact a5
  refine ⟨hin, e1, nm_r (e' := b) (by rw [hps', hcs]; exact hb) ⟨hin, e1, nm_r (e' := nI 10) (by rw [hps', hcs]; exact hk) (br_f (by decide) (br_f (by decide) ?_))⟩⟩
  iterate 7 (refine br_f (by decide) ?_)
  refine br_t rfl ?_
  refine ⟨hin, hin, nm_r (e' := upd a_count i (nI (c + 1))) (by rw [a2', nI_1, hc]) ?_⟩
  exact H _ (xe_eff ⟨a1, pk_us, a3, a4, a5, a6, a7, a8, a9, a10⟩ (fun j hj S hS => xd_frame hS rfl (pk_un hj) rfl rfl rfl rfl rfl rfl (fun r hr => ⟨rfl, rfl⟩)) hT hR)
theorem xh_i11 {post : SX → Prop} {i t s d c : Nat} {a b v h hy : Int32} {f fy qx ox oy : Bool} {q : List (Int32 × Nat)} {R : List Tk} (hx : HA f_time a_partStage a_stageKind a_stageA a_stageB i t s 11 a b) (hS : RepA a_due a_count a_held a_heldY a_hasHeld a_hasHeldY a_queueSize a_queueIsOfX a_queueValue a_queueDue i (d, c, h, hy, f, fy, qx, q, ox, oy)) (ok : okS 11 b (d, c, h, hy, f, fy, qx, q, ox, oy)) (hT : f_tasks = nI R.length) (hR : rps a_taskWhat a_taskPart a_taskValue R) (hl : R.length + 2 ≤ 128) (H : ∀ u', Eff (f_time, f_sent, f_stageCount, f_tasks, a_sourceEnded, a_stageKind, a_stageA, a_stageB, a_stageParts, a_partStage, a_partUser, a_partX, a_partY, a_phase, a_beganAfter, a_due, a_count, a_held, a_heldY, a_hasHeld, a_hasHeldY, a_queueSize, a_queueIsOfX, a_queueValue, a_queueDue, a_subStatus, a_subCode, a_subEnd, a_subDemand, a_subRequests, a_subDelivered, a_subWaiting, a_waitValue, a_history, a_taskWhat, a_taskPart, a_taskValue) u' i (hi 11 b t true v (d, c, h, hy, f, fy, qx, q, ox, oy)).1 (hi 11 b t true v (d, c, h, hy, f, fy, qx, q, ox, oy)).2 R → post u') : wpX_hearItem post (f_time, f_sent, f_stageCount, f_tasks, a_sourceEnded, a_stageKind, a_stageA, a_stageB, a_stageParts, a_partStage, a_partUser, a_partX, a_partY, a_phase, a_beganAfter, a_due, a_count, a_held, a_heldY, a_hasHeld, a_hasHeldY, a_queueSize, a_queueIsOfX, a_queueValue, a_queueDue, a_subStatus, a_subCode, a_subEnd, a_subDemand, a_subRequests, a_subDelivered, a_subWaiting, a_waitValue, a_history, a_taskWhat, a_taskPart, a_taskValue) (nI i) v := by
  obtain ⟨h27, ht, ht2, hps, hs, hk, ha, hb, ho⟩ := hx
  have hS0 := hS
  obtain ⟨a1, a2, a3, a4, a5, a6, a7, a8, a9, a10⟩ := hS
  have hc : (nI i).toNatClampNeg = i := nI_clamp (by omega)
  have hcs : (nI s).toNatClampNeg = s := nI_clamp (by omega)
  have hin : vp_in (nI i) 27 := vp_in_nI h27 (by decide)
  have hps' : a_partStage (nI i).toNatClampNeg = nI s := by rw [hc]; exact hps
  have e1 : vp_in (a_partStage (nI i).toNatClampNeg) 12 := by rw [hps']; exact vp_in_nI hs (by decide)
  have a2' : a_count (nI i).toNatClampNeg = nI c := by rw [hc]; exact a2
  have a3' : a_held (nI i).toNatClampNeg = h := by rw [hc]; exact a3
  have a5' : a_hasHeld (nI i).toNatClampNeg = bI f := by rw [hc]; exact a5
  refine ⟨hin, e1, nm_r (e' := b) (by rw [hps', hcs]; exact hb) ⟨hin, e1, nm_r (e' := nI 11) (by rw [hps', hcs]; exact hk) (br_f (by decide) (br_f (by decide) ?_))⟩⟩
  iterate 8 (refine br_f (by decide) ?_)
  refine br_t rfl ?_
  have hb11 := ho.2.2.2.2.2.2 (by decide) (by decide)
  have ht' : f_time = nI t := ht
  have ed : f_time + b = dI (t + cl b) := by rw [ht', xd_dIp (by omega), ← nI_add, ← hb11.2.2]
  refine xh_queueItem h27 hS0 hT hR (by omega) ed (fun z => absurd z (by omega)) (fun hv u' he => ?_) (fun hv u' he => ?_)
  · have eh : hi 11 b t true v (d, c, h, hy, f, fy, qx, q, ox, oy) = ((d, c, h, hy, f, fy, qx, q ++ [(v, t + cl b)], ox, oy), []) := by simp only [hi, if_pos hv]
    rw [eh] at H
    exact H u' he
  · have eh : hi 11 b t true v (d, c, h, hy, f, fy, qx, q, ox, oy) = ((d, c, h, hy, f, fy, qx, q, ox, oy), [(3, 8)]) := by simp only [hi, if_neg hv]
    rw [eh] at H
    exact H u' he
theorem xh_i12 {post : SX → Prop} {i t s d c : Nat} {a b v h hy : Int32} {f fy qx ox oy : Bool} {q : List (Int32 × Nat)} {R : List Tk} (hx : HA f_time a_partStage a_stageKind a_stageA a_stageB i t s 12 a b) (hS : RepA a_due a_count a_held a_heldY a_hasHeld a_hasHeldY a_queueSize a_queueIsOfX a_queueValue a_queueDue i (d, c, h, hy, f, fy, qx, q, ox, oy)) (ok : okS 12 b (d, c, h, hy, f, fy, qx, q, ox, oy)) (hT : f_tasks = nI R.length) (hR : rps a_taskWhat a_taskPart a_taskValue R) (hl : R.length + 2 ≤ 128) (H : ∀ u', Eff (f_time, f_sent, f_stageCount, f_tasks, a_sourceEnded, a_stageKind, a_stageA, a_stageB, a_stageParts, a_partStage, a_partUser, a_partX, a_partY, a_phase, a_beganAfter, a_due, a_count, a_held, a_heldY, a_hasHeld, a_hasHeldY, a_queueSize, a_queueIsOfX, a_queueValue, a_queueDue, a_subStatus, a_subCode, a_subEnd, a_subDemand, a_subRequests, a_subDelivered, a_subWaiting, a_waitValue, a_history, a_taskWhat, a_taskPart, a_taskValue) u' i (hi 12 b t true v (d, c, h, hy, f, fy, qx, q, ox, oy)).1 (hi 12 b t true v (d, c, h, hy, f, fy, qx, q, ox, oy)).2 R → post u') : wpX_hearItem post (f_time, f_sent, f_stageCount, f_tasks, a_sourceEnded, a_stageKind, a_stageA, a_stageB, a_stageParts, a_partStage, a_partUser, a_partX, a_partY, a_phase, a_beganAfter, a_due, a_count, a_held, a_heldY, a_hasHeld, a_hasHeldY, a_queueSize, a_queueIsOfX, a_queueValue, a_queueDue, a_subStatus, a_subCode, a_subEnd, a_subDemand, a_subRequests, a_subDelivered, a_subWaiting, a_waitValue, a_history, a_taskWhat, a_taskPart, a_taskValue) (nI i) v := by
  obtain ⟨h27, ht, ht2, hps, hs, hk, ha, hb, ho⟩ := hx
  have hS0 := hS
  obtain ⟨a1, a2, a3, a4, a5, a6, a7, a8, a9, a10⟩ := hS
  have hc : (nI i).toNatClampNeg = i := nI_clamp (by omega)
  have hcs : (nI s).toNatClampNeg = s := nI_clamp (by omega)
  have hin : vp_in (nI i) 27 := vp_in_nI h27 (by decide)
  have hps' : a_partStage (nI i).toNatClampNeg = nI s := by rw [hc]; exact hps
  have e1 : vp_in (a_partStage (nI i).toNatClampNeg) 12 := by rw [hps']; exact vp_in_nI hs (by decide)
  have a2' : a_count (nI i).toNatClampNeg = nI c := by rw [hc]; exact a2
  have a3' : a_held (nI i).toNatClampNeg = h := by rw [hc]; exact a3
  have a5' : a_hasHeld (nI i).toNatClampNeg = bI f := by rw [hc]; exact a5
  refine ⟨hin, e1, nm_r (e' := b) (by rw [hps', hcs]; exact hb) ⟨hin, e1, nm_r (e' := nI 12) (by rw [hps', hcs]; exact hk) (br_f (by decide) (br_f (by decide) ?_))⟩⟩
  iterate 9 (refine br_f (by decide) ?_)
  refine br_t rfl ?_
  have hb11 := ho.2.2.2.2.2.2 (by decide) (by decide)
  have ht' : f_time = nI t := ht
  have ed : f_time + b = dI (t + cl b) := by rw [ht', xd_dIp (by omega), ← nI_add, ← hb11.2.2]
  refine ⟨hin, nm_r (e' := upd a_held i v) (by rw [hc]) ⟨hin, nm_r (e' := upd a_due i (dI (t + cl b))) (by rw [ed, hc]) ?_⟩⟩
  exact H _ (xe_eff ⟨pk_us, a2, pk_us, a4, a5, a6, a7, a8, a9, a10⟩ (fun j hj S hS => xd_frame hS (pk_un hj) rfl (pk_un hj) rfl rfl rfl rfl rfl (fun r hr => ⟨rfl, rfl⟩)) hT hR)
theorem xh_i13 {post : SX → Prop} {i t s d c : Nat} {a b v h hy : Int32} {f fy qx ox oy : Bool} {q : List (Int32 × Nat)} {R : List Tk} (hx : HA f_time a_partStage a_stageKind a_stageA a_stageB i t s 13 a b) (hS : RepA a_due a_count a_held a_heldY a_hasHeld a_hasHeldY a_queueSize a_queueIsOfX a_queueValue a_queueDue i (d, c, h, hy, f, fy, qx, q, ox, oy)) (ok : okS 13 b (d, c, h, hy, f, fy, qx, q, ox, oy)) (hT : f_tasks = nI R.length) (hR : rps a_taskWhat a_taskPart a_taskValue R) (hl : R.length + 2 ≤ 128) (H : ∀ u', Eff (f_time, f_sent, f_stageCount, f_tasks, a_sourceEnded, a_stageKind, a_stageA, a_stageB, a_stageParts, a_partStage, a_partUser, a_partX, a_partY, a_phase, a_beganAfter, a_due, a_count, a_held, a_heldY, a_hasHeld, a_hasHeldY, a_queueSize, a_queueIsOfX, a_queueValue, a_queueDue, a_subStatus, a_subCode, a_subEnd, a_subDemand, a_subRequests, a_subDelivered, a_subWaiting, a_waitValue, a_history, a_taskWhat, a_taskPart, a_taskValue) u' i (hi 13 b t true v (d, c, h, hy, f, fy, qx, q, ox, oy)).1 (hi 13 b t true v (d, c, h, hy, f, fy, qx, q, ox, oy)).2 R → post u') : wpX_hearItem post (f_time, f_sent, f_stageCount, f_tasks, a_sourceEnded, a_stageKind, a_stageA, a_stageB, a_stageParts, a_partStage, a_partUser, a_partX, a_partY, a_phase, a_beganAfter, a_due, a_count, a_held, a_heldY, a_hasHeld, a_hasHeldY, a_queueSize, a_queueIsOfX, a_queueValue, a_queueDue, a_subStatus, a_subCode, a_subEnd, a_subDemand, a_subRequests, a_subDelivered, a_subWaiting, a_waitValue, a_history, a_taskWhat, a_taskPart, a_taskValue) (nI i) v := by
  obtain ⟨h27, ht, ht2, hps, hs, hk, ha, hb, ho⟩ := hx
  have hS0 := hS
  obtain ⟨a1, a2, a3, a4, a5, a6, a7, a8, a9, a10⟩ := hS
  have hc : (nI i).toNatClampNeg = i := nI_clamp (by omega)
  have hcs : (nI s).toNatClampNeg = s := nI_clamp (by omega)
  have hin : vp_in (nI i) 27 := vp_in_nI h27 (by decide)
  have hps' : a_partStage (nI i).toNatClampNeg = nI s := by rw [hc]; exact hps
  have e1 : vp_in (a_partStage (nI i).toNatClampNeg) 12 := by rw [hps']; exact vp_in_nI hs (by decide)
  have a2' : a_count (nI i).toNatClampNeg = nI c := by rw [hc]; exact a2
  have a3' : a_held (nI i).toNatClampNeg = h := by rw [hc]; exact a3
  have a5' : a_hasHeld (nI i).toNatClampNeg = bI f := by rw [hc]; exact a5
  refine ⟨hin, e1, nm_r (e' := b) (by rw [hps', hcs]; exact hb) ⟨hin, e1, nm_r (e' := nI 13) (by rw [hps', hcs]; exact hk) (br_f (by decide) (br_f (by decide) ?_))⟩⟩
  iterate 10 (refine br_f (by decide) ?_)
  refine br_t rfl ?_
  have ht' : f_time = nI t := ht
  refine ⟨hin, ?_⟩
  by_cases hv : f = true ∧ nI t - h < b
  · have eh : hi 13 b t true v (d, c, h, hy, f, fy, qx, q, ox, oy) = ((d, c, h, hy, f, fy, qx, q, ox, oy), []) := by simp only [hi, if_pos hv]
    rw [eh] at H
    refine br_f (by rw [a5', hv.1]; decide) ⟨hin, br_t (by rw [a3', ht']; exact hv.2) ?_⟩
    exact H _ (xe_eff hS0 (fun j hj S hS => hS) hT hR)
  · have eh : hi 13 b t true v (d, c, h, hy, f, fy, qx, q, ox, oy) = ((d, c, nI t, hy, true, fy, qx, q, ox, oy), [(1, v)]) := by simp only [hi, if_neg hv]
    rw [eh] at H
    have hp : wX_firstItem_24 post (nI i) v f_time f_sent f_stageCount f_tasks a_sourceEnded a_stageKind a_stageA a_stageB a_stageParts a_partStage a_partUser a_partX a_partY a_phase a_beganAfter a_due a_count a_held a_heldY a_hasHeld a_hasHeldY a_queueSize a_queueIsOfX a_queueValue a_queueDue a_subStatus a_subCode a_subEnd a_subDemand a_subRequests a_subDelivered a_subWaiting a_waitValue a_history a_taskWhat a_taskPart a_taskValue := by
      refine ⟨hin, nm_r (e' := upd a_held i (nI t)) (by rw [ht', hc]) ⟨hin, nm_r (e' := upd a_hasHeld i (bI true)) (by rw [hc]; rfl) ?_⟩⟩
      exact xw_push hT (by omega) (H _ (xe_eff ⟨a1, a2, pk_us, a4, pk_us, a6, a7, a8, a9, a10⟩ (fun j hj S hS => xd_frame hS rfl rfl (pk_un hj) rfl (pk_un hj) rfl rfl rfl (fun r hr => ⟨rfl, rfl⟩)) rfl (xd_rps_push hR)))
    by_cases hf0 : f = false
    · exact br_t (by rw [a5', hf0]; rfl) hp
    · refine br_f (by rw [a5', xd_bI0]; exact hf0) ⟨hin, br_f (by rw [a3', ht']; intro z; exact hv ⟨by simpa using hf0, z⟩) hp⟩
theorem xh_i14 {post : SX → Prop} {i t s d c : Nat} {a b v h hy : Int32} {f fy qx ox oy : Bool} {q : List (Int32 × Nat)} {R : List Tk} (hx : HA f_time a_partStage a_stageKind a_stageA a_stageB i t s 14 a b) (hS : RepA a_due a_count a_held a_heldY a_hasHeld a_hasHeldY a_queueSize a_queueIsOfX a_queueValue a_queueDue i (d, c, h, hy, f, fy, qx, q, ox, oy)) (ok : okS 14 b (d, c, h, hy, f, fy, qx, q, ox, oy)) (hT : f_tasks = nI R.length) (hR : rps a_taskWhat a_taskPart a_taskValue R) (hl : R.length + 2 ≤ 128) (H : ∀ u', Eff (f_time, f_sent, f_stageCount, f_tasks, a_sourceEnded, a_stageKind, a_stageA, a_stageB, a_stageParts, a_partStage, a_partUser, a_partX, a_partY, a_phase, a_beganAfter, a_due, a_count, a_held, a_heldY, a_hasHeld, a_hasHeldY, a_queueSize, a_queueIsOfX, a_queueValue, a_queueDue, a_subStatus, a_subCode, a_subEnd, a_subDemand, a_subRequests, a_subDelivered, a_subWaiting, a_waitValue, a_history, a_taskWhat, a_taskPart, a_taskValue) u' i (hi 14 b t true v (d, c, h, hy, f, fy, qx, q, ox, oy)).1 (hi 14 b t true v (d, c, h, hy, f, fy, qx, q, ox, oy)).2 R → post u') : wpX_hearItem post (f_time, f_sent, f_stageCount, f_tasks, a_sourceEnded, a_stageKind, a_stageA, a_stageB, a_stageParts, a_partStage, a_partUser, a_partX, a_partY, a_phase, a_beganAfter, a_due, a_count, a_held, a_heldY, a_hasHeld, a_hasHeldY, a_queueSize, a_queueIsOfX, a_queueValue, a_queueDue, a_subStatus, a_subCode, a_subEnd, a_subDemand, a_subRequests, a_subDelivered, a_subWaiting, a_waitValue, a_history, a_taskWhat, a_taskPart, a_taskValue) (nI i) v := by
  obtain ⟨h27, ht, ht2, hps, hs, hk, ha, hb, ho⟩ := hx
  have hS0 := hS
  obtain ⟨a1, a2, a3, a4, a5, a6, a7, a8, a9, a10⟩ := hS
  have hc : (nI i).toNatClampNeg = i := nI_clamp (by omega)
  have hcs : (nI s).toNatClampNeg = s := nI_clamp (by omega)
  have hin : vp_in (nI i) 27 := vp_in_nI h27 (by decide)
  have hps' : a_partStage (nI i).toNatClampNeg = nI s := by rw [hc]; exact hps
  have e1 : vp_in (a_partStage (nI i).toNatClampNeg) 12 := by rw [hps']; exact vp_in_nI hs (by decide)
  have a2' : a_count (nI i).toNatClampNeg = nI c := by rw [hc]; exact a2
  have a3' : a_held (nI i).toNatClampNeg = h := by rw [hc]; exact a3
  have a5' : a_hasHeld (nI i).toNatClampNeg = bI f := by rw [hc]; exact a5
  refine ⟨hin, e1, nm_r (e' := b) (by rw [hps', hcs]; exact hb) ⟨hin, e1, nm_r (e' := nI 14) (by rw [hps', hcs]; exact hk) (br_f (by decide) (br_f (by decide) ?_))⟩⟩
  iterate 11 (refine br_f (by decide) ?_)
  refine br_t rfl ?_
  refine ⟨hin, nm_r (e' := upd a_held i v) (by rw [hc]) ⟨hin, nm_r (e' := upd a_hasHeld i (bI true)) (by rw [hc]; rfl) ?_⟩⟩
  exact H _ (xe_eff ⟨a1, a2, pk_us, a4, pk_us, a6, a7, a8, a9, a10⟩ (fun j hj S hS => xd_frame hS rfl rfl (pk_un hj) rfl (pk_un hj) rfl rfl rfl (fun r hr => ⟨rfl, rfl⟩)) hT hR)
theorem xh_i15 {post : SX → Prop} {i t s d c : Nat} {a b v h hy : Int32} {f fy qx ox oy : Bool} {q : List (Int32 × Nat)} {R : List Tk} (hx : HA f_time a_partStage a_stageKind a_stageA a_stageB i t s 15 a b) (hS : RepA a_due a_count a_held a_heldY a_hasHeld a_hasHeldY a_queueSize a_queueIsOfX a_queueValue a_queueDue i (d, c, h, hy, f, fy, qx, q, ox, oy)) (ok : okS 15 b (d, c, h, hy, f, fy, qx, q, ox, oy)) (hT : f_tasks = nI R.length) (hR : rps a_taskWhat a_taskPart a_taskValue R) (hl : R.length + 2 ≤ 128) (H : ∀ u', Eff (f_time, f_sent, f_stageCount, f_tasks, a_sourceEnded, a_stageKind, a_stageA, a_stageB, a_stageParts, a_partStage, a_partUser, a_partX, a_partY, a_phase, a_beganAfter, a_due, a_count, a_held, a_heldY, a_hasHeld, a_hasHeldY, a_queueSize, a_queueIsOfX, a_queueValue, a_queueDue, a_subStatus, a_subCode, a_subEnd, a_subDemand, a_subRequests, a_subDelivered, a_subWaiting, a_waitValue, a_history, a_taskWhat, a_taskPart, a_taskValue) u' i (hi 15 b t true v (d, c, h, hy, f, fy, qx, q, ox, oy)).1 (hi 15 b t true v (d, c, h, hy, f, fy, qx, q, ox, oy)).2 R → post u') : wpX_hearItem post (f_time, f_sent, f_stageCount, f_tasks, a_sourceEnded, a_stageKind, a_stageA, a_stageB, a_stageParts, a_partStage, a_partUser, a_partX, a_partY, a_phase, a_beganAfter, a_due, a_count, a_held, a_heldY, a_hasHeld, a_hasHeldY, a_queueSize, a_queueIsOfX, a_queueValue, a_queueDue, a_subStatus, a_subCode, a_subEnd, a_subDemand, a_subRequests, a_subDelivered, a_subWaiting, a_waitValue, a_history, a_taskWhat, a_taskPart, a_taskValue) (nI i) v := by
  obtain ⟨h27, ht, ht2, hps, hs, hk, ha, hb, ho⟩ := hx
  have hS0 := hS
  obtain ⟨a1, a2, a3, a4, a5, a6, a7, a8, a9, a10⟩ := hS
  have hc : (nI i).toNatClampNeg = i := nI_clamp (by omega)
  have hcs : (nI s).toNatClampNeg = s := nI_clamp (by omega)
  have hin : vp_in (nI i) 27 := vp_in_nI h27 (by decide)
  have hps' : a_partStage (nI i).toNatClampNeg = nI s := by rw [hc]; exact hps
  have e1 : vp_in (a_partStage (nI i).toNatClampNeg) 12 := by rw [hps']; exact vp_in_nI hs (by decide)
  have a2' : a_count (nI i).toNatClampNeg = nI c := by rw [hc]; exact a2
  have a3' : a_held (nI i).toNatClampNeg = h := by rw [hc]; exact a3
  have a5' : a_hasHeld (nI i).toNatClampNeg = bI f := by rw [hc]; exact a5
  refine ⟨hin, e1, nm_r (e' := b) (by rw [hps', hcs]; exact hb) ⟨hin, e1, nm_r (e' := nI 15) (by rw [hps', hcs]; exact hk) (br_f (by decide) (br_f (by decide) ?_))⟩⟩
  iterate 12 (refine br_f (by decide) ?_)
  refine br_t rfl ?_
  have hb11 := ho.2.2.2.2.2.2 (by decide) (by decide)
  have ht' : f_time = nI t := ht
  have ed : f_time + b = dI (t + cl b) := by rw [ht', xd_dIp (by omega), ← nI_add, ← hb11.2.2]
  refine ⟨hin, nm_r (e' := upd a_due i (dI (t + cl b))) (by rw [ed, hc]) ?_⟩
  exact xw_push hT (by omega) (H _ (xe_eff ⟨pk_us, a2, a3, a4, a5, a6, a7, a8, a9, a10⟩ (fun j hj S hS => xd_frame hS (pk_un hj) rfl rfl rfl rfl rfl rfl rfl (fun r hr => ⟨rfl, rfl⟩)) rfl (xd_rps_push hR)))
end
end
section
/-! ===== joins: hearJoinedItem ===== -/
section
variable {f_time : Int32} {f_sent : Int32} {f_stageCount : Int32} {f_tasks : Int32} {a_sourceEnded : (Nat → Int32)} {a_stageKind : (Nat → Int32)} {a_stageA : (Nat → Int32)} {a_stageB : (Nat → Int32)} {a_stageParts : (Nat → Int32)} {a_partStage : (Nat → Int32)} {a_partUser : (Nat → Int32)} {a_partX : (Nat → Int32)} {a_partY : (Nat → Int32)} {a_phase : (Nat → Int32)} {a_beganAfter : (Nat → Int32)} {a_due : (Nat → Int32)} {a_count : (Nat → Int32)} {a_held : (Nat → Int32)} {a_heldY : (Nat → Int32)} {a_hasHeld : (Nat → Int32)} {a_hasHeldY : (Nat → Int32)} {a_queueSize : (Nat → Int32)} {a_queueIsOfX : (Nat → Int32)} {a_queueValue : (Nat → Int32)} {a_queueDue : (Nat → Int32)} {a_subStatus : (Nat → Int32)} {a_subCode : (Nat → Int32)} {a_subEnd : (Nat → Int32)} {a_subDemand : (Nat → Int64)} {a_subRequests : (Nat → Int32)} {a_subDelivered : (Nat → Int32)} {a_subWaiting : (Nat → Int32)} {a_waitValue : (Nat → Int32)} {a_history : (Nat → Int64)} {a_taskWhat : (Nat → Int32)} {a_taskPart : (Nat → Int32)} {a_taskValue : (Nat → Int32)}
theorem xh_drop8 {post : SX → Prop} {i g L : Nat} (h27 : i < 27) (hL : L ≤ 8) (hq : a_queueSize i = nI L) : ∀ (e m : Nat) (qv qd : Nat → Int32), g + m + e = L →
    (∀ qv' qd' : Nat → Int32, (∀ r, r < 8 * i + m → qv' r = qv r ∧ qd' r = qd r) → (∀ j, m ≤ j → j + g < L → qv' (8 * i + j) = qv (8 * i + j + g) ∧ qd' (8 * i + j) = qd (8 * i + j + g)) → (∀ r, 8 * i + 8 ≤ r → qv' r = qv r ∧ qd' r = qd r) → post (f_time, f_sent, f_stageCount, f_tasks, a_sourceEnded, a_stageKind, a_stageA, a_stageB, a_stageParts, a_partStage, a_partUser, a_partX, a_partY, a_phase, a_beganAfter, a_due, a_count, a_held, a_heldY, a_hasHeld, a_hasHeldY, upd a_queueSize i (nI (L - g)), a_queueIsOfX, qv', qd', a_subStatus, a_subCode, a_subEnd, a_subDemand, a_subRequests, a_subDelivered, a_subWaiting, a_waitValue, a_history, a_taskWhat, a_taskPart, a_taskValue)) →
    wX_dropFromQueue_8 post (nI i) (nI g) (nI (8 * i)) f_time f_sent f_stageCount f_tasks (e + 1) (nI (g + m)) a_sourceEnded a_stageKind a_stageA a_stageB a_stageParts a_partStage a_partUser a_partX a_partY a_phase a_beganAfter a_due a_count a_held a_heldY a_hasHeld a_hasHeldY a_queueSize a_queueIsOfX (qv) (qd) a_subStatus a_subCode a_subEnd a_subDemand a_subRequests a_subDelivered a_subWaiting a_waitValue a_history a_taskWhat a_taskPart a_taskValue := by
  have hc : (nI i).toNatClampNeg = i := nI_clamp (by omega)
  have hin : vp_in (nI i) 27 := vp_in_nI h27 (by decide)
  have hq' : a_queueSize (nI i).toNatClampNeg = nI L := by rw [hc]; exact hq
  intro e
  induction e with
  | zero =>
    intro m qv qd hm H
    refine ⟨hin, br_t (by rw [hq']; exact nI_le (by omega) (by omega)) ⟨hin, hin, nm_r (e' := upd a_queueSize i (nI (L - g))) (by rw [hq', pk_sub (by omega), hc]) ?_⟩⟩
    exact H qv qd (fun r hr => ⟨rfl, rfl⟩) (fun j h1 h2 => absurd h2 (by omega)) (fun r hr => ⟨rfl, rfl⟩)
  | succ e ih =>
    intro m qv qd hm H
    have e1 : nI (8 * i) + nI (g + m) = nI (8 * i + (g + m)) := nI_add _ _
    have e2 : nI (8 * i) + nI (g + m) - nI g = nI (8 * i + m) := by rw [e1, pk_sub (by omega)]; congr 1; omega
    have c1 : (nI (8 * i) + nI (g + m)).toNatClampNeg = 8 * i + (g + m) := by rw [e1]; exact nI_clamp (by omega)
    have c2 : (nI (8 * i) + nI (g + m) - nI g).toNatClampNeg = 8 * i + m := by rw [e2]; exact nI_clamp (by omega)
    have i1 : vp_in (nI (8 * i) + nI (g + m)) 216 := by rw [e1]; exact vp_in_nI (by omega) (by decide)
    have i2 : vp_in (nI (8 * i) + nI (g + m) - nI g) 216 := by rw [e2]; exact vp_in_nI (by omega) (by decide)
    refine ⟨hin, br_f (by rw [hq']; exact nI_ge (by omega) (by omega)) ⟨i1, i2, nm_r (e' := upd qv (8 * i + m) (qv (8 * i + (g + m)))) (by rw [c1, c2]) ⟨i1, i2, nm_r (e' := upd qd (8 * i + m) (qd (8 * i + (g + m)))) (by rw [c1, c2]) (nm_r (e' := nI (g + (m + 1))) (by rw [nI_1]; rfl) ?_)⟩⟩⟩
    refine ih (m + 1) _ _ (by omega) (fun qv' qd' k1 k2 k3 => H qv' qd' ?_ ?_ ?_)
    · intro r hr
      have := k1 r (by omega)
      rw [pk_un (by omega), pk_un (by omega)] at this
      exact this
    · intro j h1 h2
      by_cases hj : j = m
      · subst hj
        have := k1 (8 * i + j) (by omega)
        rw [pk_us, pk_us] at this
        rw [this.1, this.2, show 8 * i + (g + j) = 8 * i + j + g from by omega]
        exact ⟨rfl, rfl⟩
      · have := k2 j (by omega) h2
        rw [pk_un (by omega), pk_un (by omega)] at this
        exact this
    · intro r hr
      have := k3 r hr
      rw [pk_un (by omega), pk_un (by omega)] at this
      exact this
theorem xh_drop {post : SX → Prop} {i g L : Nat} (h27 : i < 27) (hL : L ≤ 8) (hg : g ≤ L) (hq : a_queueSize i = nI L)
    (H : ∀ qv' qd' : Nat → Int32, (∀ j, j + g < L → qv' (8 * i + j) = a_queueValue (8 * i + j + g) ∧ qd' (8 * i + j) = a_queueDue (8 * i + j + g)) → (∀ j, j ≠ i → ∀ r, r < 8 → qv' (8 * j + r) = a_queueValue (8 * j + r) ∧ qd' (8 * j + r) = a_queueDue (8 * j + r)) → post (f_time, f_sent, f_stageCount, f_tasks, a_sourceEnded, a_stageKind, a_stageA, a_stageB, a_stageParts, a_partStage, a_partUser, a_partX, a_partY, a_phase, a_beganAfter, a_due, a_count, a_held, a_heldY, a_hasHeld, a_hasHeldY, upd a_queueSize i (nI (L - g)), a_queueIsOfX, qv', qd', a_subStatus, a_subCode, a_subEnd, a_subDemand, a_subRequests, a_subDelivered, a_subWaiting, a_waitValue, a_history, a_taskWhat, a_taskPart, a_taskValue)) :
    wpX_dropFromQueue post (f_time, f_sent, f_stageCount, f_tasks, a_sourceEnded, a_stageKind, a_stageA, a_stageB, a_stageParts, a_partStage, a_partUser, a_partX, a_partY, a_phase, a_beganAfter, a_due, a_count, a_held, a_heldY, a_hasHeld, a_hasHeldY, a_queueSize, a_queueIsOfX, a_queueValue, a_queueDue, a_subStatus, a_subCode, a_subEnd, a_subDemand, a_subRequests, a_subDelivered, a_subWaiting, a_waitValue, a_history, a_taskWhat, a_taskPart, a_taskValue) (nI i) (nI g) := by
  refine nm_r (e' := nI (8 * i)) (by rw [show (8 : Int32) = nI 8 from rfl, pk_mul, Nat.mul_comm]) ⟨L - g + 1, ?_⟩
  refine xh_drop8 h27 hL hq (L - g) 0 a_queueValue a_queueDue (by omega) (fun qv' qd' k1 k2 k3 => H qv' qd' (fun j hj => k2 j (Nat.zero_le _) hj) (fun j hj r hr => ?_))
  rcases Nat.lt_or_ge j i with z | z
  · exact k1 _ (by omega)
  · exact k3 _ (by omega)
end
end
section
/-! ===== joins: hearJoinedItem, then what a part does with an end ===== -/
section
variable {f_time : Int32} {f_sent : Int32} {f_stageCount : Int32} {f_tasks : Int32} {a_sourceEnded : (Nat → Int32)} {a_stageKind : (Nat → Int32)} {a_stageA : (Nat → Int32)} {a_stageB : (Nat → Int32)} {a_stageParts : (Nat → Int32)} {a_partStage : (Nat → Int32)} {a_partUser : (Nat → Int32)} {a_partX : (Nat → Int32)} {a_partY : (Nat → Int32)} {a_phase : (Nat → Int32)} {a_beganAfter : (Nat → Int32)} {a_due : (Nat → Int32)} {a_count : (Nat → Int32)} {a_held : (Nat → Int32)} {a_heldY : (Nat → Int32)} {a_hasHeld : (Nat → Int32)} {a_hasHeldY : (Nat → Int32)} {a_queueSize : (Nat → Int32)} {a_queueIsOfX : (Nat → Int32)} {a_queueValue : (Nat → Int32)} {a_queueDue : (Nat → Int32)} {a_subStatus : (Nat → Int32)} {a_subCode : (Nat → Int32)} {a_subEnd : (Nat → Int32)} {a_subDemand : (Nat → Int64)} {a_subRequests : (Nat → Int32)} {a_subDelivered : (Nat → Int32)} {a_subWaiting : (Nat → Int32)} {a_waitValue : (Nat → Int32)} {a_history : (Nat → Int64)} {a_taskWhat : (Nat → Int32)} {a_taskPart : (Nat → Int32)} {a_taskValue : (Nat → Int32)}
theorem xe_eff_qo {u' : SX} {i : Nat} {S' : PSt} {o : Otp} {R : List Tk} {qo' : Nat → Int32} (he : Eff (f_time, f_sent, f_stageCount, f_tasks, a_sourceEnded, a_stageKind, a_stageA, a_stageB, a_stageParts, a_partStage, a_partUser, a_partX, a_partY, a_phase, a_beganAfter, a_due, a_count, a_held, a_heldY, a_hasHeld, a_hasHeldY, a_queueSize, qo', a_queueValue, a_queueDue, a_subStatus, a_subCode, a_subEnd, a_subDemand, a_subRequests, a_subDelivered, a_subWaiting, a_waitValue, a_history, a_taskWhat, a_taskPart, a_taskValue) u' i S' o R) (hq : ∀ j, j ≠ i → qo' j = a_queueIsOfX j) : Eff (f_time, f_sent, f_stageCount, f_tasks, a_sourceEnded, a_stageKind, a_stageA, a_stageB, a_stageParts, a_partStage, a_partUser, a_partX, a_partY, a_phase, a_beganAfter, a_due, a_count, a_held, a_heldY, a_hasHeld, a_hasHeldY, a_queueSize, a_queueIsOfX, a_queueValue, a_queueDue, a_subStatus, a_subCode, a_subEnd, a_subDemand, a_subRequests, a_subDelivered, a_subWaiting, a_waitValue, a_history, a_taskWhat, a_taskPart, a_taskValue) u' i S' o R := by
  obtain ⟨z1, z2, z3, z4, z5, z6⟩ := he
  exact ⟨z1.trans (xe_st2.trans xe_st2.symm), z2.trans (xe_sub.trans xe_sub.symm), z3.trans (xe_ph.trans xe_ph.symm), z4, fun j hj S hS => z5 j hj S (xe_rep' (xd_frame (xe_rep hS) rfl rfl rfl rfl rfl rfl rfl (hq j hj) (fun r hr => ⟨rfl, rfl⟩))), z6⟩
theorem xe_eff_2 {u u' : SX} {i : Nat} {S' : PSt} {x y : Nat × Int32} {R : List Tk} (he : Eff u u' i S' [x] ((y.1, i, y.2) :: R)) : Eff u u' i S' [x, y] R := he
theorem xh_side {i xi yi fr : Nat} {sd : Bool} (hx27 : xi < 27) (hy27 : yi < 27) (hne : xi ≠ yi) (hfr : fr = if sd = true then xi else yi) : (nI fr = nI xi ↔ sd = true) := by
  cases sd
  · rw [if_neg (by decide)] at hfr
    subst hfr
    rw [nI_eq (by omega) (by omega)]
    constructor
    · intro e; omega
    · intro e; exact absurd e (by decide)
  · rw [if_pos rfl] at hfr
    subst hfr
    exact ⟨fun _ => rfl, fun _ => rfl⟩
theorem xh_j_of {post : SX → Prop} {i xi yi fr : Nat} {v : Int32} {sd : Bool} (h27 : i < 27) (hX : a_partX i = nI xi) (hY : a_partY i = nI yi) (hx27 : xi < 27) (hy27 : yi < 27) (hne : xi ≠ yi) (hfr : fr = if sd = true then xi else yi) (H : wX_hearJoinedItem_15 post (nI i) (nI fr) v (bI sd) f_time f_sent f_stageCount f_tasks a_sourceEnded a_stageKind a_stageA a_stageB a_stageParts a_partStage a_partUser a_partX a_partY a_phase a_beganAfter a_due a_count a_held a_heldY a_hasHeld a_hasHeldY a_queueSize a_queueIsOfX a_queueValue a_queueDue a_subStatus a_subCode a_subEnd a_subDemand a_subRequests a_subDelivered a_subWaiting a_waitValue a_history a_taskWhat a_taskPart a_taskValue) : wpX_hearJoinedItem post (f_time, f_sent, f_stageCount, f_tasks, a_sourceEnded, a_stageKind, a_stageA, a_stageB, a_stageParts, a_partStage, a_partUser, a_partX, a_partY, a_phase, a_beganAfter, a_due, a_count, a_held, a_heldY, a_hasHeld, a_hasHeldY, a_queueSize, a_queueIsOfX, a_queueValue, a_queueDue, a_subStatus, a_subCode, a_subEnd, a_subDemand, a_subRequests, a_subDelivered, a_subWaiting, a_waitValue, a_history, a_taskWhat, a_taskPart, a_taskValue) (nI i) (nI fr) v := by
  have hc : (nI i).toNatClampNeg = i := nI_clamp (by omega)
  have hX' : a_partX (nI i).toNatClampNeg = nI xi := by rw [hc]; exact hX
  have hs := xh_side (i := i) hx27 hy27 hne hfr
  refine ⟨vp_in_nI h27 (by decide), ?_⟩
  cases sd
  · exact br_f (by rw [hX', hs]; decide) H
  · exact br_t (by rw [hX', hs]) H
theorem xh_other {post : Int32 → Prop} {i xi yi fr : Nat} {sd : Bool} (h27 : i < 27) (hX : a_partX i = nI xi) (hY : a_partY i = nI yi) (hx27 : xi < 27) (hy27 : yi < 27) (hne : xi ≠ yi) (hfr : fr = if sd = true then xi else yi) (H : post (nI (if sd = true then yi else xi))) : wpX_otherSide post (f_time, f_sent, f_stageCount, f_tasks, a_sourceEnded, a_stageKind, a_stageA, a_stageB, a_stageParts, a_partStage, a_partUser, a_partX, a_partY, a_phase, a_beganAfter, a_due, a_count, a_held, a_heldY, a_hasHeld, a_hasHeldY, a_queueSize, a_queueIsOfX, a_queueValue, a_queueDue, a_subStatus, a_subCode, a_subEnd, a_subDemand, a_subRequests, a_subDelivered, a_subWaiting, a_waitValue, a_history, a_taskWhat, a_taskPart, a_taskValue) (nI i) (nI fr) := by
  have hc : (nI i).toNatClampNeg = i := nI_clamp (by omega)
  have hin : vp_in (nI i) 27 := vp_in_nI h27 (by decide)
  have hX' : a_partX (nI i).toNatClampNeg = nI xi := by rw [hc]; exact hX
  have hY' : a_partY (nI i).toNatClampNeg = nI yi := by rw [hc]; exact hY
  have hs := xh_side (i := i) hx27 hy27 hne hfr
  refine ⟨hin, ?_⟩
  cases sd
  · exact br_f (by rw [hX', hs]; decide) ⟨hin, by rw [hX']; exact H⟩
  · exact br_t (by rw [hX', hs]) ⟨hin, by rw [hY']; exact H⟩
theorem xh_j16 {post : SX → Prop} {i t s d c xi yi fr : Nat} {a b v h hy : Int32} {f fy qx ox oy sd : Bool} {q : List (Int32 × Nat)} {R : List Tk} (hx : HA f_time a_partStage a_stageKind a_stageA a_stageB i t s 16 a b) (hS : RepA a_due a_count a_held a_heldY a_hasHeld a_hasHeldY a_queueSize a_queueIsOfX a_queueValue a_queueDue i (d, c, h, hy, f, fy, qx, q, ox, oy)) (hT : f_tasks = nI R.length) (hR : rps a_taskWhat a_taskPart a_taskValue R) (hl : R.length + 2 ≤ 128) (hX : a_partX i = nI xi) (hY : a_partY i = nI yi) (hx27 : xi < 27) (hy27 : yi < 27) (hne : xi ≠ yi) (hfr : fr = if sd = true then xi else yi) (H : ∀ u', Eff (f_time, f_sent, f_stageCount, f_tasks, a_sourceEnded, a_stageKind, a_stageA, a_stageB, a_stageParts, a_partStage, a_partUser, a_partX, a_partY, a_phase, a_beganAfter, a_due, a_count, a_held, a_heldY, a_hasHeld, a_hasHeldY, a_queueSize, a_queueIsOfX, a_queueValue, a_queueDue, a_subStatus, a_subCode, a_subEnd, a_subDemand, a_subRequests, a_subDelivered, a_subWaiting, a_waitValue, a_history, a_taskWhat, a_taskPart, a_taskValue) u' i (hi 16 b t sd v (d, c, h, hy, f, fy, qx, q, ox, oy)).1 (hi 16 b t sd v (d, c, h, hy, f, fy, qx, q, ox, oy)).2 R → post u') : wpX_hearJoinedItem post (f_time, f_sent, f_stageCount, f_tasks, a_sourceEnded, a_stageKind, a_stageA, a_stageB, a_stageParts, a_partStage, a_partUser, a_partX, a_partY, a_phase, a_beganAfter, a_due, a_count, a_held, a_heldY, a_hasHeld, a_hasHeldY, a_queueSize, a_queueIsOfX, a_queueValue, a_queueDue, a_subStatus, a_subCode, a_subEnd, a_subDemand, a_subRequests, a_subDelivered, a_subWaiting, a_waitValue, a_history, a_taskWhat, a_taskPart, a_taskValue) (nI i) (nI fr) v := by
  obtain ⟨h27, ht, ht2, hps, hs, hk, ha, hb, ho⟩ := hx
  have hS0 := hS
  obtain ⟨a1, a2, a3, a4, a5, a6, a7, a8, a9, a10⟩ := hS
  have hc : (nI i).toNatClampNeg = i := nI_clamp (by omega)
  have hcs : (nI s).toNatClampNeg = s := nI_clamp (by omega)
  have hin : vp_in (nI i) 27 := vp_in_nI h27 (by decide)
  have hps' : a_partStage (nI i).toNatClampNeg = nI s := by rw [hc]; exact hps
  have e1 : vp_in (a_partStage (nI i).toNatClampNeg) 12 := by rw [hps']; exact vp_in_nI hs (by decide)
  have hX' : a_partX (nI i).toNatClampNeg = nI xi := by rw [hc]; exact hX
  have hY' : a_partY (nI i).toNatClampNeg = nI yi := by rw [hc]; exact hY
  refine xh_j_of h27 hX hY hx27 hy27 hne hfr ⟨hin, e1, nm_r (e' := nI 16) (by rw [hps', hcs]; exact hk) (br_f (by decide) (br_f (by decide) ?_))⟩
  exact xw_push hT (by omega) (H _ (xe_eff hS0 (fun j hj S hS => hS) rfl (xd_rps_push hR)))
theorem xh_j19 {post : SX → Prop} {i t s d c xi yi fr : Nat} {a b v h hy : Int32} {f fy qx ox oy sd : Bool} {q : List (Int32 × Nat)} {R : List Tk} (hx : HA f_time a_partStage a_stageKind a_stageA a_stageB i t s 19 a b) (hS : RepA a_due a_count a_held a_heldY a_hasHeld a_hasHeldY a_queueSize a_queueIsOfX a_queueValue a_queueDue i (d, c, h, hy, f, fy, qx, q, ox, oy)) (hT : f_tasks = nI R.length) (hR : rps a_taskWhat a_taskPart a_taskValue R) (hl : R.length + 2 ≤ 128) (hX : a_partX i = nI xi) (hY : a_partY i = nI yi) (hx27 : xi < 27) (hy27 : yi < 27) (hne : xi ≠ yi) (hfr : fr = if sd = true then xi else yi) (H : ∀ u', Eff (f_time, f_sent, f_stageCount, f_tasks, a_sourceEnded, a_stageKind, a_stageA, a_stageB, a_stageParts, a_partStage, a_partUser, a_partX, a_partY, a_phase, a_beganAfter, a_due, a_count, a_held, a_heldY, a_hasHeld, a_hasHeldY, a_queueSize, a_queueIsOfX, a_queueValue, a_queueDue, a_subStatus, a_subCode, a_subEnd, a_subDemand, a_subRequests, a_subDelivered, a_subWaiting, a_waitValue, a_history, a_taskWhat, a_taskPart, a_taskValue) u' i (hi 19 b t sd v (d, c, h, hy, f, fy, qx, q, ox, oy)).1 (hi 19 b t sd v (d, c, h, hy, f, fy, qx, q, ox, oy)).2 R → post u') : wpX_hearJoinedItem post (f_time, f_sent, f_stageCount, f_tasks, a_sourceEnded, a_stageKind, a_stageA, a_stageB, a_stageParts, a_partStage, a_partUser, a_partX, a_partY, a_phase, a_beganAfter, a_due, a_count, a_held, a_heldY, a_hasHeld, a_hasHeldY, a_queueSize, a_queueIsOfX, a_queueValue, a_queueDue, a_subStatus, a_subCode, a_subEnd, a_subDemand, a_subRequests, a_subDelivered, a_subWaiting, a_waitValue, a_history, a_taskWhat, a_taskPart, a_taskValue) (nI i) (nI fr) v := by
  obtain ⟨h27, ht, ht2, hps, hs, hk, ha, hb, ho⟩ := hx
  have hS0 := hS
  obtain ⟨a1, a2, a3, a4, a5, a6, a7, a8, a9, a10⟩ := hS
  have hc : (nI i).toNatClampNeg = i := nI_clamp (by omega)
  have hcs : (nI s).toNatClampNeg = s := nI_clamp (by omega)
  have hin : vp_in (nI i) 27 := vp_in_nI h27 (by decide)
  have hps' : a_partStage (nI i).toNatClampNeg = nI s := by rw [hc]; exact hps
  have e1 : vp_in (a_partStage (nI i).toNatClampNeg) 12 := by rw [hps']; exact vp_in_nI hs (by decide)
  have hX' : a_partX (nI i).toNatClampNeg = nI xi := by rw [hc]; exact hX
  have hY' : a_partY (nI i).toNatClampNeg = nI yi := by rw [hc]; exact hY
  refine xh_j_of h27 hX hY hx27 hy27 hne hfr ⟨hin, e1, nm_r (e' := nI 19) (by rw [hps', hcs]; exact hk) (br_f (by decide) (br_f (by decide) ?_))⟩
  exact xw_push hT (by omega) (H _ (xe_eff hS0 (fun j hj S hS => hS) rfl (xd_rps_push hR)))
theorem xh_j20 {post : SX → Prop} {i t s d c xi yi fr : Nat} {a b v h hy : Int32} {f fy qx ox oy sd : Bool} {q : List (Int32 × Nat)} {R : List Tk} (hx : HA f_time a_partStage a_stageKind a_stageA a_stageB i t s 20 a b) (hS : RepA a_due a_count a_held a_heldY a_hasHeld a_hasHeldY a_queueSize a_queueIsOfX a_queueValue a_queueDue i (d, c, h, hy, f, fy, qx, q, ox, oy)) (hT : f_tasks = nI R.length) (hR : rps a_taskWhat a_taskPart a_taskValue R) (hl : R.length + 2 ≤ 128) (hX : a_partX i = nI xi) (hY : a_partY i = nI yi) (hx27 : xi < 27) (hy27 : yi < 27) (hne : xi ≠ yi) (hfr : fr = if sd = true then xi else yi) (H : ∀ u', Eff (f_time, f_sent, f_stageCount, f_tasks, a_sourceEnded, a_stageKind, a_stageA, a_stageB, a_stageParts, a_partStage, a_partUser, a_partX, a_partY, a_phase, a_beganAfter, a_due, a_count, a_held, a_heldY, a_hasHeld, a_hasHeldY, a_queueSize, a_queueIsOfX, a_queueValue, a_queueDue, a_subStatus, a_subCode, a_subEnd, a_subDemand, a_subRequests, a_subDelivered, a_subWaiting, a_waitValue, a_history, a_taskWhat, a_taskPart, a_taskValue) u' i (hi 20 b t sd v (d, c, h, hy, f, fy, qx, q, ox, oy)).1 (hi 20 b t sd v (d, c, h, hy, f, fy, qx, q, ox, oy)).2 R → post u') : wpX_hearJoinedItem post (f_time, f_sent, f_stageCount, f_tasks, a_sourceEnded, a_stageKind, a_stageA, a_stageB, a_stageParts, a_partStage, a_partUser, a_partX, a_partY, a_phase, a_beganAfter, a_due, a_count, a_held, a_heldY, a_hasHeld, a_hasHeldY, a_queueSize, a_queueIsOfX, a_queueValue, a_queueDue, a_subStatus, a_subCode, a_subEnd, a_subDemand, a_subRequests, a_subDelivered, a_subWaiting, a_waitValue, a_history, a_taskWhat, a_taskPart, a_taskValue) (nI i) (nI fr) v := by
  obtain ⟨h27, ht, ht2, hps, hs, hk, ha, hb, ho⟩ := hx
  have hS0 := hS
  obtain ⟨a1, a2, a3, a4, a5, a6, a7, a8, a9, a10⟩ := hS
  have hc : (nI i).toNatClampNeg = i := nI_clamp (by omega)
  have hcs : (nI s).toNatClampNeg = s := nI_clamp (by omega)
  have hin : vp_in (nI i) 27 := vp_in_nI h27 (by decide)
  have hps' : a_partStage (nI i).toNatClampNeg = nI s := by rw [hc]; exact hps
  have e1 : vp_in (a_partStage (nI i).toNatClampNeg) 12 := by rw [hps']; exact vp_in_nI hs (by decide)
  have hX' : a_partX (nI i).toNatClampNeg = nI xi := by rw [hc]; exact hX
  have hY' : a_partY (nI i).toNatClampNeg = nI yi := by rw [hc]; exact hY
  refine xh_j_of h27 hX hY hx27 hy27 hne hfr ⟨hin, e1, nm_r (e' := nI 20) (by rw [hps', hcs]; exact hk) (br_f (by decide) (br_f (by decide) ?_))⟩
  exact xw_push hT (by omega) (H _ (xe_eff hS0 (fun j hj S hS => hS) rfl (xd_rps_push hR)))
theorem xh_j18 {post : SX → Prop} {i t s d c xi yi fr : Nat} {a b v h hy : Int32} {f fy qx ox oy sd : Bool} {q : List (Int32 × Nat)} {R : List Tk} (hx : HA f_time a_partStage a_stageKind a_stageA a_stageB i t s 18 a b) (hS : RepA a_due a_count a_held a_heldY a_hasHeld a_hasHeldY a_queueSize a_queueIsOfX a_queueValue a_queueDue i (d, c, h, hy, f, fy, qx, q, ox, oy)) (hT : f_tasks = nI R.length) (hR : rps a_taskWhat a_taskPart a_taskValue R) (hl : R.length + 2 ≤ 128) (hX : a_partX i = nI xi) (hY : a_partY i = nI yi) (hx27 : xi < 27) (hy27 : yi < 27) (hne : xi ≠ yi) (hfr : fr = if sd = true then xi else yi) (H : ∀ u', Eff (f_time, f_sent, f_stageCount, f_tasks, a_sourceEnded, a_stageKind, a_stageA, a_stageB, a_stageParts, a_partStage, a_partUser, a_partX, a_partY, a_phase, a_beganAfter, a_due, a_count, a_held, a_heldY, a_hasHeld, a_hasHeldY, a_queueSize, a_queueIsOfX, a_queueValue, a_queueDue, a_subStatus, a_subCode, a_subEnd, a_subDemand, a_subRequests, a_subDelivered, a_subWaiting, a_waitValue, a_history, a_taskWhat, a_taskPart, a_taskValue) u' i (hi 18 b t sd v (d, c, h, hy, f, fy, qx, q, ox, oy)).1 (hi 18 b t sd v (d, c, h, hy, f, fy, qx, q, ox, oy)).2 R → post u') : wpX_hearJoinedItem post (f_time, f_sent, f_stageCount, f_tasks, a_sourceEnded, a_stageKind, a_stageA, a_stageB, a_stageParts, a_partStage, a_partUser, a_partX, a_partY, a_phase, a_beganAfter, a_due, a_count, a_held, a_heldY, a_hasHeld, a_hasHeldY, a_queueSize, a_queueIsOfX, a_queueValue, a_queueDue, a_subStatus, a_subCode, a_subEnd, a_subDemand, a_subRequests, a_subDelivered, a_subWaiting, a_waitValue, a_history, a_taskWhat, a_taskPart, a_taskValue) (nI i) (nI fr) v := by
  obtain ⟨h27, ht, ht2, hps, hs, hk, ha, hb, ho⟩ := hx
  have hS0 := hS
  obtain ⟨a1, a2, a3, a4, a5, a6, a7, a8, a9, a10⟩ := hS
  have hc : (nI i).toNatClampNeg = i := nI_clamp (by omega)
  have hcs : (nI s).toNatClampNeg = s := nI_clamp (by omega)
  have hin : vp_in (nI i) 27 := vp_in_nI h27 (by decide)
  have hps' : a_partStage (nI i).toNatClampNeg = nI s := by rw [hc]; exact hps
  have e1 : vp_in (a_partStage (nI i).toNatClampNeg) 12 := by rw [hps']; exact vp_in_nI hs (by decide)
  have hX' : a_partX (nI i).toNatClampNeg = nI xi := by rw [hc]; exact hX
  have hY' : a_partY (nI i).toNatClampNeg = nI yi := by rw [hc]; exact hY
  refine xh_j_of h27 hX hY hx27 hy27 hne hfr ⟨hin, e1, nm_r (e' := nI 18) (by rw [hps', hcs]; exact hk) (br_f (by decide) (br_t rfl ?_))⟩
  cases sd
  · refine br_t rfl ⟨hin, nm_r (e' := upd a_heldY i v) (by rw [hc]) ⟨hin, nm_r (e' := upd a_hasHeldY i (bI true)) (by rw [hc]; rfl) ⟨hin, ?_⟩⟩⟩
    have a5' : a_hasHeld (nI i).toNatClampNeg = bI f := by rw [hc]; exact a5
    have a3' : a_held (nI i).toNatClampNeg = h := by rw [hc]; exact a3
    have e2 : upd a_hasHeldY i (bI true) (nI i).toNatClampNeg = bI true := by rw [hc]; exact pk_us
    have e3 : upd a_heldY i v (nI i).toNatClampNeg = v := by rw [hc]; exact pk_us
    have hrep : RepA a_due a_count a_held (upd a_heldY i v) a_hasHeld (upd a_hasHeldY i (bI true)) a_queueSize a_queueIsOfX a_queueValue a_queueDue i (d, c, h, v, f, true, qx, q, ox, oy) := ⟨a1, a2, a3, pk_us, a5, pk_us, a7, a8, a9, a10⟩
    by_cases hf : f = true
    · have eh : hi 18 b t false v (d, c, h, hy, f, fy, qx, q, ox, oy) = ((d, c, h, v, f, true, qx, q, ox, oy), [(1, 31 * h + v)]) := by simp [hi, hf]
      rw [eh] at H
      refine br_f (by rw [a5', hf]; decide) ⟨hin, br_f (by rw [e2]; decide) ⟨hin, hin, ?_⟩⟩
      rw [a3', e3]
      exact xw_push hT (by omega) (H _ (xe_eff hrep (fun j hj S hS => xd_frame hS rfl rfl rfl (pk_un hj) rfl (pk_un hj) rfl rfl (fun r hr => ⟨rfl, rfl⟩)) rfl (xd_rps_push hR)))
    · have eh : hi 18 b t false v (d, c, h, hy, f, fy, qx, q, ox, oy) = ((d, c, h, v, f, true, qx, q, ox, oy), []) := by simp [hi, hf]
      rw [eh] at H
      refine br_t (by rw [a5', xd_bI0]; simpa using hf) ?_
      exact H _ (xe_eff hrep (fun j hj S hS => xd_frame hS rfl rfl rfl (pk_un hj) rfl (pk_un hj) rfl rfl (fun r hr => ⟨rfl, rfl⟩)) hT hR)
  · refine br_f (by decide) ⟨hin, nm_r (e' := upd a_held i v) (by rw [hc]) ⟨hin, nm_r (e' := upd a_hasHeld i (bI true)) (by rw [hc]; rfl) ⟨hin, ?_⟩⟩⟩
    have a6' : a_hasHeldY (nI i).toNatClampNeg = bI fy := by rw [hc]; exact a6
    have a4' : a_heldY (nI i).toNatClampNeg = hy := by rw [hc]; exact a4
    have e2 : upd a_hasHeld i (bI true) (nI i).toNatClampNeg = bI true := by rw [hc]; exact pk_us
    have e3 : upd a_held i v (nI i).toNatClampNeg = v := by rw [hc]; exact pk_us
    have hrep : RepA a_due a_count (upd a_held i v) a_heldY (upd a_hasHeld i (bI true)) a_hasHeldY a_queueSize a_queueIsOfX a_queueValue a_queueDue i (d, c, v, hy, true, fy, qx, q, ox, oy) := ⟨a1, a2, pk_us, a4, pk_us, a6, a7, a8, a9, a10⟩
    by_cases hf : fy = true
    · have eh : hi 18 b t true v (d, c, h, hy, f, fy, qx, q, ox, oy) = ((d, c, v, hy, true, fy, qx, q, ox, oy), [(1, 31 * v + hy)]) := by simp [hi, hf]
      rw [eh] at H
      refine br_f (by rw [e2]; decide) ⟨hin, br_f (by rw [a6', hf]; decide) ⟨hin, hin, ?_⟩⟩
      rw [a4', e3]
      exact xw_push hT (by omega) (H _ (xe_eff hrep (fun j hj S hS => xd_frame hS rfl rfl (pk_un hj) rfl (pk_un hj) rfl rfl rfl (fun r hr => ⟨rfl, rfl⟩)) rfl (xd_rps_push hR)))
    · have eh : hi 18 b t true v (d, c, h, hy, f, fy, qx, q, ox, oy) = ((d, c, v, hy, true, fy, qx, q, ox, oy), []) := by simp [hi, hf]
      rw [eh] at H
      refine br_f (by rw [e2]; decide) ⟨hin, br_t (by rw [a6', xd_bI0]; simpa using hf) ?_⟩
      exact H _ (xe_eff hrep (fun j hj S hS => xd_frame hS rfl rfl (pk_un hj) rfl (pk_un hj) rfl rfl rfl (fun r hr => ⟨rfl, rfl⟩)) hT hR)
theorem xh_j17 {post : SX → Prop} {i t s d c xi yi fr : Nat} {a b v h hy : Int32} {f fy qx ox oy sd : Bool} {q : List (Int32 × Nat)} {R : List Tk} (hx : HA f_time a_partStage a_stageKind a_stageA a_stageB i t s 17 a b) (hS : RepA a_due a_count a_held a_heldY a_hasHeld a_hasHeldY a_queueSize a_queueIsOfX a_queueValue a_queueDue i (d, c, h, hy, f, fy, qx, q, ox, oy)) (ok : okS 17 b (d, c, h, hy, f, fy, qx, q, ox, oy)) (hT : f_tasks = nI R.length) (hR : rps a_taskWhat a_taskPart a_taskValue R) (hl : R.length + 2 ≤ 128) (hX : a_partX i = nI xi) (hY : a_partY i = nI yi) (hx27 : xi < 27) (hy27 : yi < 27) (hne : xi ≠ yi) (hfr : fr = if sd = true then xi else yi) (hph : a_phase (if sd = true then yi else xi) = 2 ↔ (if sd = true then oy else ox) = true) (H : ∀ u', Eff (f_time, f_sent, f_stageCount, f_tasks, a_sourceEnded, a_stageKind, a_stageA, a_stageB, a_stageParts, a_partStage, a_partUser, a_partX, a_partY, a_phase, a_beganAfter, a_due, a_count, a_held, a_heldY, a_hasHeld, a_hasHeldY, a_queueSize, a_queueIsOfX, a_queueValue, a_queueDue, a_subStatus, a_subCode, a_subEnd, a_subDemand, a_subRequests, a_subDelivered, a_subWaiting, a_waitValue, a_history, a_taskWhat, a_taskPart, a_taskValue) u' i (hi 17 b t sd v (d, c, h, hy, f, fy, qx, q, ox, oy)).1 (hi 17 b t sd v (d, c, h, hy, f, fy, qx, q, ox, oy)).2 R → post u') : wpX_hearJoinedItem post (f_time, f_sent, f_stageCount, f_tasks, a_sourceEnded, a_stageKind, a_stageA, a_stageB, a_stageParts, a_partStage, a_partUser, a_partX, a_partY, a_phase, a_beganAfter, a_due, a_count, a_held, a_heldY, a_hasHeld, a_hasHeldY, a_queueSize, a_queueIsOfX, a_queueValue, a_queueDue, a_subStatus, a_subCode, a_subEnd, a_subDemand, a_subRequests, a_subDelivered, a_subWaiting, a_waitValue, a_history, a_taskWhat, a_taskPart, a_taskValue) (nI i) (nI fr) v := by
  obtain ⟨h27, ht, ht2, hps, hs, hk, ha, hb, ho⟩ := hx
  have hS0 := hS
  obtain ⟨a1, a2, a3, a4, a5, a6, a7, a8, a9, a10⟩ := hS
  have hc : (nI i).toNatClampNeg = i := nI_clamp (by omega)
  have hcs : (nI s).toNatClampNeg = s := nI_clamp (by omega)
  have hin : vp_in (nI i) 27 := vp_in_nI h27 (by decide)
  have hps' : a_partStage (nI i).toNatClampNeg = nI s := by rw [hc]; exact hps
  have e1 : vp_in (a_partStage (nI i).toNatClampNeg) 12 := by rw [hps']; exact vp_in_nI hs (by decide)
  have hX' : a_partX (nI i).toNatClampNeg = nI xi := by rw [hc]; exact hX
  have hY' : a_partY (nI i).toNatClampNeg = nI yi := by rw [hc]; exact hY
  have hfr0 := hfr
  have o7 := ok.2.2.2.2.2.2 rfl
  have a8' : a_queueSize (nI i).toNatClampNeg = nI q.length := by rw [hc]; exact a8
  refine xh_j_of h27 hX hY hx27 hy27 hne hfr ⟨hin, e1, nm_r (e' := nI 17) (by rw [hps', hcs]; exact hk) (br_t rfl ⟨hin, ?_⟩)⟩
  have q86 : (q = [] ∨ qx = sd) → wX_hearJoinedItem_86 post (nI i) v (bI sd) f_time f_sent f_stageCount f_tasks a_sourceEnded a_stageKind a_stageA a_stageB a_stageParts a_partStage a_partUser a_partX a_partY a_phase a_beganAfter a_due a_count a_held a_heldY a_hasHeld a_hasHeldY a_queueSize a_queueIsOfX a_queueValue a_queueDue a_subStatus a_subCode a_subEnd a_subDemand a_subRequests a_subDelivered a_subWaiting a_waitValue a_history a_taskWhat a_taskPart a_taskValue := by
    intro hq
    refine ⟨hin, nm_r (e' := upd a_queueIsOfX i (bI sd)) (by rw [hc, xd_bI_nar]) ?_⟩
    have hrep : RepA a_due a_count a_held a_heldY a_hasHeld a_hasHeldY a_queueSize (upd a_queueIsOfX i (bI sd)) a_queueValue a_queueDue i (d, c, h, hy, f, fy, sd, q, ox, oy) := ⟨a1, a2, a3, a4, a5, a6, fun _ => pk_us, a8, a9, a10⟩
    have fr2 : ∀ u', ∀ S' o, Eff (f_time, f_sent, f_stageCount, f_tasks, a_sourceEnded, a_stageKind, a_stageA, a_stageB, a_stageParts, a_partStage, a_partUser, a_partX, a_partY, a_phase, a_beganAfter, a_due, a_count, a_held, a_heldY, a_hasHeld, a_hasHeldY, a_queueSize, upd a_queueIsOfX i (bI sd), a_queueValue, a_queueDue, a_subStatus, a_subCode, a_subEnd, a_subDemand, a_subRequests, a_subDelivered, a_subWaiting, a_waitValue, a_history, a_taskWhat, a_taskPart, a_taskValue) u' i S' o R → Eff (f_time, f_sent, f_stageCount, f_tasks, a_sourceEnded, a_stageKind, a_stageA, a_stageB, a_stageParts, a_partStage, a_partUser, a_partX, a_partY, a_phase, a_beganAfter, a_due, a_count, a_held, a_heldY, a_hasHeld, a_hasHeldY, a_queueSize, a_queueIsOfX, a_queueValue, a_queueDue, a_subStatus, a_subCode, a_subEnd, a_subDemand, a_subRequests, a_subDelivered, a_subWaiting, a_waitValue, a_history, a_taskWhat, a_taskPart, a_taskValue) u' i S' o R := fun u' S' o he => xe_eff_qo he (fun j hj => pk_un hj)
    refine xh_queueItem (dd := 0) h27 hrep hT hR (by omega) rfl (fun _ => pk_us) (fun h8 u' he => H u' ?_) (fun h8 u' he => H u' ?_)
    · have eh : hi 17 b t sd v (d, c, h, hy, f, fy, qx, q, ox, oy) = ((d, c, h, hy, f, fy, sd, q ++ [(v, 0)], ox, oy), []) := by
        cases q with
        | nil => simp [hi]
        | cons x r =>
          have hq' : qx = sd := by rcases hq with z | z; exact absurd z (by simp); exact z
          have h8' : r.length < 7 := by simp at h8; omega
          simp only [hi, if_pos hq', if_pos h8']
      rw [eh]
      exact fr2 _ _ _ he
    · have eh : hi 17 b t sd v (d, c, h, hy, f, fy, qx, q, ox, oy) = ((d, c, h, hy, f, fy, sd, q, ox, oy), [(3, 8)]) := by
        cases q with
        | nil => exact absurd (show ([] : List (Int32 × Nat)).length < 8 by decide) h8
        | cons x r =>
          have hq' : qx = sd := by rcases hq with z | z; exact absurd z (by simp); exact z
          have h8' : ¬ r.length < 7 := by simp at h8; omega
          simp only [hi, if_pos hq', if_neg h8']
      rw [eh]
      exact fr2 _ _ _ he
  cases q with
  | nil => exact br_t (by rw [a8']; decide) (q86 (Or.inl rfl))
  | cons x r =>
    have a7' : a_queueIsOfX (nI i).toNatClampNeg = bI qx := by rw [hc]; exact a7 ⟨x, by simp, o7 x (by simp)⟩
    have hlr : r.length < 8 := by have : (x :: r).length ≤ 8 := a9; simp at this; omega
    refine br_f (by rw [a8']; exact nI_nle (by simp) (by simp; omega)) ⟨hin, ?_⟩
    by_cases hq : qx = sd
    · exact br_t (by rw [a7', hq]) (q86 (Or.inr hq))
    · refine br_f (by rw [a7', xd_bI]; exact hq) ?_
      have m8 : nI i * 8 = nI (8 * i) := by rw [show (8 : Int32) = nI 8 from rfl, pk_mul, Nat.mul_comm]
      have c8 : (nI (8 * i)).toNatClampNeg = 8 * i := nI_clamp (by omega)
      have hx0 := a10 0 x rfl
      refine ⟨by rw [m8]; exact vp_in_nI (by omega) (by decide), nm_r (e' := x.1) (by rw [m8, c8]; exact hx0.1) ?_⟩
      refine xh_other h27 hX hY hx27 hy27 hne hfr ?_
      refine xh_drop (L := (x :: r).length) (g := 1) h27 a9 (by simp) a8 (fun qv' qd' k1 k2 => ⟨hin, ?_⟩)
      have ho27 : (if sd = true then yi else xi) < 27 := by split <;> omega
      have hco : (nI (if sd = true then yi else xi)).toNatClampNeg = (if sd = true then yi else xi) := nI_clamp (by omega)
      have eqs : upd a_queueSize i (nI ((x :: r).length - 1)) (nI i).toNatClampNeg = nI r.length := by rw [hc]; exact pk_us
      have hrep : RepA a_due a_count a_held a_heldY a_hasHeld a_hasHeldY (upd a_queueSize i (nI ((x :: r).length - 1))) a_queueIsOfX (qv') (qd') i (d, c, h, hy, f, fy, qx, r, ox, oy) := by
        refine ⟨a1, a2, a3, a4, a5, a6, fun ⟨e, he, _⟩ => a7 ⟨x, by simp, o7 x (by simp)⟩, pk_us, by omega, fun j e he => ?_⟩
        have hj := xh_q0 he
        have := k1 j (by simp; omega)
        rw [this.1, this.2]
        exact a10 (j + 1) e (by simpa using he)
      have hfm : ∀ j, j ≠ i → ∀ S, RepA a_due a_count a_held a_heldY a_hasHeld a_hasHeldY a_queueSize a_queueIsOfX a_queueValue a_queueDue j S → RepA a_due a_count a_held a_heldY a_hasHeld a_hasHeldY (upd a_queueSize i (nI ((x :: r).length - 1))) a_queueIsOfX (qv') (qd') j S := fun j hj S hS => xd_frame hS rfl rfl rfl rfl rfl rfl (pk_un hj) rfl (fun r hr => k2 j hj r hr)
      have hval : ∀ (tk : Int32) (tw tp tv : Nat → Int32) (R' : List Tk), tk = nI R'.length → R'.length + 1 ≤ 128 → rps tw tp tv R' → (∀ u', Eff (f_time, f_sent, f_stageCount, f_tasks, a_sourceEnded, a_stageKind, a_stageA, a_stageB, a_stageParts, a_partStage, a_partUser, a_partX, a_partY, a_phase, a_beganAfter, a_due, a_count, a_held, a_heldY, a_hasHeld, a_hasHeldY, a_queueSize, a_queueIsOfX, a_queueValue, a_queueDue, a_subStatus, a_subCode, a_subEnd, a_subDemand, a_subRequests, a_subDelivered, a_subWaiting, a_waitValue, a_history, a_taskWhat, a_taskPart, a_taskValue) u' i (d, c, h, hy, f, fy, qx, r, ox, oy) ((1, if sd = true then 31 * v + x.1 else 31 * x.1 + v) :: []) R' → post u') → wX_pairItem_52 post (nI i) (nI fr) v x.1 f_time f_sent f_stageCount (tk) a_sourceEnded a_stageKind a_stageA a_stageB a_stageParts a_partStage a_partUser a_partX a_partY a_phase a_beganAfter a_due a_count a_held a_heldY a_hasHeld a_hasHeldY (upd a_queueSize i (nI ((x :: r).length - 1))) a_queueIsOfX (qv') (qd') a_subStatus a_subCode a_subEnd a_subDemand a_subRequests a_subDelivered a_subWaiting a_waitValue a_history (tw) (tp) (tv) := by
        intro tk tw tp tv R' htk hl' hR' HH
        have hs := xh_side (i := i) hx27 hy27 hne hfr
        refine ⟨hin, ?_⟩
        cases sd
        · exact br_f (by rw [hX', hs]; decide) (xw_push htk (by omega) (HH _ (xe_eff hrep hfm rfl (xd_rps_push hR'))))
        · exact br_t (by rw [hX', hs]) (xw_push htk (by omega) (HH _ (xe_eff hrep hfm rfl (xd_rps_push hR'))))
      by_cases hr0 : r = [] ∧ (if sd = true then oy else ox) = true
      · have eh : hi 17 b t sd v (d, c, h, hy, f, fy, qx, x :: r, ox, oy) = ((d, c, h, hy, f, fy, qx, r, ox, oy), [(1, if sd = true then 31 * v + x.1 else 31 * x.1 + v), (2, 0)]) := by
          simp only [hi, if_neg hq, if_pos hr0]
        rw [eh] at H
        refine br_t (by rw [eqs, hr0.1]; rfl) ⟨vp_in_nI ho27 (by decide), br_t (by rw [hco, hph]; exact hr0.2) ?_⟩
        refine xw_push hT (by omega) ?_
        refine hval _ _ _ _ ((2, i, 0) :: R) rfl (by simp; omega) (xd_rps_push hR) (fun u' he => H u' ?_)
        exact xe_eff_2 he
      · have eh : hi 17 b t sd v (d, c, h, hy, f, fy, qx, x :: r, ox, oy) = ((d, c, h, hy, f, fy, qx, r, ox, oy), [(1, if sd = true then 31 * v + x.1 else 31 * x.1 + v)]) := by
          simp only [hi, if_neg hq, if_neg hr0]
        rw [eh] at H
        have hgo := hval _ _ _ _ R hT (by omega) hR H
        by_cases hr1 : r = []
        · have hnp : ¬ (if sd = true then oy else ox) = true := fun z => hr0 ⟨hr1, z⟩
          exact br_t (by rw [eqs, hr1]; rfl) ⟨vp_in_nI ho27 (by decide), br_f (by rw [hco, hph]; exact hnp) hgo⟩
        · exact br_f (by rw [eqs]; exact nI_ne0 (by cases r; exact absurd rfl hr1; simp) (by omega)) hgo
end
end
section
/-! ===== what a part does with an end: hearComplete, hearError ===== -/
section
variable {f_time : Int32} {f_sent : Int32} {f_stageCount : Int32} {f_tasks : Int32} {a_sourceEnded : (Nat → Int32)} {a_stageKind : (Nat → Int32)} {a_stageA : (Nat → Int32)} {a_stageB : (Nat → Int32)} {a_stageParts : (Nat → Int32)} {a_partStage : (Nat → Int32)} {a_partUser : (Nat → Int32)} {a_partX : (Nat → Int32)} {a_partY : (Nat → Int32)} {a_phase : (Nat → Int32)} {a_beganAfter : (Nat → Int32)} {a_due : (Nat → Int32)} {a_count : (Nat → Int32)} {a_held : (Nat → Int32)} {a_heldY : (Nat → Int32)} {a_hasHeld : (Nat → Int32)} {a_hasHeldY : (Nat → Int32)} {a_queueSize : (Nat → Int32)} {a_queueIsOfX : (Nat → Int32)} {a_queueValue : (Nat → Int32)} {a_queueDue : (Nat → Int32)} {a_subStatus : (Nat → Int32)} {a_subCode : (Nat → Int32)} {a_subEnd : (Nat → Int32)} {a_subDemand : (Nat → Int64)} {a_subRequests : (Nat → Int32)} {a_subDelivered : (Nat → Int32)} {a_subWaiting : (Nat → Int32)} {a_waitValue : (Nat → Int32)} {a_history : (Nat → Int64)} {a_taskWhat : (Nat → Int32)} {a_taskPart : (Nat → Int32)} {a_taskValue : (Nat → Int32)}
theorem xh_cb {post : SX → Prop} {i : Nat} {v : Int32} {g : Bool} {R : List Tk} (hT : f_tasks = nI R.length) (hR : rps a_taskWhat a_taskPart a_taskValue R) (hl : R.length + 2 ≤ 128)
    (H : ∀ (tk : Int32) (tw tp tv : Nat → Int32), tk = nI (ots i (if g = true then [(1, v), (2, 0)] else [(2, 0)]) ++ R).length → rps tw tp tv (ots i (if g = true then [(1, v), (2, 0)] else [(2, 0)]) ++ R) → post (f_time, f_sent, f_stageCount, tk, a_sourceEnded, a_stageKind, a_stageA, a_stageB, a_stageParts, a_partStage, a_partUser, a_partX, a_partY, a_phase, a_beganAfter, a_due, a_count, a_held, a_heldY, a_hasHeld, a_hasHeldY, a_queueSize, a_queueIsOfX, a_queueValue, a_queueDue, a_subStatus, a_subCode, a_subEnd, a_subDemand, a_subRequests, a_subDelivered, a_subWaiting, a_waitValue, a_history, tw, tp, tv)) :
    wpX_completeBehind post (f_time, f_sent, f_stageCount, f_tasks, a_sourceEnded, a_stageKind, a_stageA, a_stageB, a_stageParts, a_partStage, a_partUser, a_partX, a_partY, a_phase, a_beganAfter, a_due, a_count, a_held, a_heldY, a_hasHeld, a_hasHeldY, a_queueSize, a_queueIsOfX, a_queueValue, a_queueDue, a_subStatus, a_subCode, a_subEnd, a_subDemand, a_subRequests, a_subDelivered, a_subWaiting, a_waitValue, a_history, a_taskWhat, a_taskPart, a_taskValue) (nI i) (bI g) v := by
  unfold wpX_completeBehind
  refine xw_push hT (by omega) ?_
  cases g
  · exact br_t rfl (H _ _ _ _ rfl (xd_rps_push (w := 2) hR))
  · exact br_f (by decide) (xw_push rfl (by omega) (H _ _ _ _ rfl (xd_rps_push (w := 1) (R := (2, i, 0) :: R) (xd_rps_push (w := 2) hR))))
theorem xh_c3 {post : SX → Prop} {i t s d c : Nat} {a b fr h hy : Int32} {f fy qx ox oy sd : Bool} {q : List (Int32 × Nat)} {R : List Tk} (hx : HA f_time a_partStage a_stageKind a_stageA a_stageB i t s 3 a b) (hS : RepA a_due a_count a_held a_heldY a_hasHeld a_hasHeldY a_queueSize a_queueIsOfX a_queueValue a_queueDue i (d, c, h, hy, f, fy, qx, q, ox, oy)) (ok : okS 3 b (d, c, h, hy, f, fy, qx, q, ox, oy)) (hT : f_tasks = nI R.length) (hR : rps a_taskWhat a_taskPart a_taskValue R) (hl : R.length + 2 ≤ 128)   (H : ∀ u', Eff (f_time, f_sent, f_stageCount, f_tasks, a_sourceEnded, a_stageKind, a_stageA, a_stageB, a_stageParts, a_partStage, a_partUser, a_partX, a_partY, a_phase, a_beganAfter, a_due, a_count, a_held, a_heldY, a_hasHeld, a_hasHeldY, a_queueSize, a_queueIsOfX, a_queueValue, a_queueDue, a_subStatus, a_subCode, a_subEnd, a_subDemand, a_subRequests, a_subDelivered, a_subWaiting, a_waitValue, a_history, a_taskWhat, a_taskPart, a_taskValue) u' i (hc 3 b t sd (d, c, h, hy, f, fy, qx, q, ox, oy)).1 (hc 3 b t sd (d, c, h, hy, f, fy, qx, q, ox, oy)).2 R → post u') : wpX_hearComplete post (f_time, f_sent, f_stageCount, f_tasks, a_sourceEnded, a_stageKind, a_stageA, a_stageB, a_stageParts, a_partStage, a_partUser, a_partX, a_partY, a_phase, a_beganAfter, a_due, a_count, a_held, a_heldY, a_hasHeld, a_hasHeldY, a_queueSize, a_queueIsOfX, a_queueValue, a_queueDue, a_subStatus, a_subCode, a_subEnd, a_subDemand, a_subRequests, a_subDelivered, a_subWaiting, a_waitValue, a_history, a_taskWhat, a_taskPart, a_taskValue) (nI i) fr := by
  obtain ⟨h27, ht, ht2, hps, hs, hk, ha, hb, ho⟩ := hx
  have hS0 := hS
  obtain ⟨a1, a2, a3, a4, a5, a6, a7, a8, a9, a10⟩ := hS
  have hcl : (nI i).toNatClampNeg = i := nI_clamp (by omega)
  have hcs : (nI s).toNatClampNeg = s := nI_clamp (by omega)
  have hin : vp_in (nI i) 27 := vp_in_nI h27 (by decide)
  have his : vp_in (nI s) 12 := vp_in_nI hs (by decide)
  have hps' : a_partStage (nI i).toNatClampNeg = nI s := by rw [hcl]; exact hps
  refine ⟨hin, nm_r (e' := nI s) hps' ⟨his, nm_r (e' := nI 3) (by rw [hcs]; exact hk) ?_⟩⟩
  refine br_t (by decide) ?_
  exact xw_push hT (by omega) (H _ (xe_eff hS0 (fun j hj S hS => hS) rfl (xd_rps_push (w := 2) hR)))
theorem xh_c4 {post : SX → Prop} {i t s d c : Nat} {a b fr h hy : Int32} {f fy qx ox oy sd : Bool} {q : List (Int32 × Nat)} {R : List Tk} (hx : HA f_time a_partStage a_stageKind a_stageA a_stageB i t s 4 a b) (hS : RepA a_due a_count a_held a_heldY a_hasHeld a_hasHeldY a_queueSize a_queueIsOfX a_queueValue a_queueDue i (d, c, h, hy, f, fy, qx, q, ox, oy)) (ok : okS 4 b (d, c, h, hy, f, fy, qx, q, ox, oy)) (hT : f_tasks = nI R.length) (hR : rps a_taskWhat a_taskPart a_taskValue R) (hl : R.length + 2 ≤ 128)   (H : ∀ u', Eff (f_time, f_sent, f_stageCount, f_tasks, a_sourceEnded, a_stageKind, a_stageA, a_stageB, a_stageParts, a_partStage, a_partUser, a_partX, a_partY, a_phase, a_beganAfter, a_due, a_count, a_held, a_heldY, a_hasHeld, a_hasHeldY, a_queueSize, a_queueIsOfX, a_queueValue, a_queueDue, a_subStatus, a_subCode, a_subEnd, a_subDemand, a_subRequests, a_subDelivered, a_subWaiting, a_waitValue, a_history, a_taskWhat, a_taskPart, a_taskValue) u' i (hc 4 b t sd (d, c, h, hy, f, fy, qx, q, ox, oy)).1 (hc 4 b t sd (d, c, h, hy, f, fy, qx, q, ox, oy)).2 R → post u') : wpX_hearComplete post (f_time, f_sent, f_stageCount, f_tasks, a_sourceEnded, a_stageKind, a_stageA, a_stageB, a_stageParts, a_partStage, a_partUser, a_partX, a_partY, a_phase, a_beganAfter, a_due, a_count, a_held, a_heldY, a_hasHeld, a_hasHeldY, a_queueSize, a_queueIsOfX, a_queueValue, a_queueDue, a_subStatus, a_subCode, a_subEnd, a_subDemand, a_subRequests, a_subDelivered, a_subWaiting, a_waitValue, a_history, a_taskWhat, a_taskPart, a_taskValue) (nI i) fr := by
  obtain ⟨h27, ht, ht2, hps, hs, hk, ha, hb, ho⟩ := hx
  have hS0 := hS
  obtain ⟨a1, a2, a3, a4, a5, a6, a7, a8, a9, a10⟩ := hS
  have hcl : (nI i).toNatClampNeg = i := nI_clamp (by omega)
  have hcs : (nI s).toNatClampNeg = s := nI_clamp (by omega)
  have hin : vp_in (nI i) 27 := vp_in_nI h27 (by decide)
  have his : vp_in (nI s) 12 := vp_in_nI hs (by decide)
  have hps' : a_partStage (nI i).toNatClampNeg = nI s := by rw [hcl]; exact hps
  refine ⟨hin, nm_r (e' := nI s) hps' ⟨his, nm_r (e' := nI 4) (by rw [hcs]; exact hk) ?_⟩⟩
  refine br_t (by decide) ?_
  exact xw_push hT (by omega) (H _ (xe_eff hS0 (fun j hj S hS => hS) rfl (xd_rps_push (w := 2) hR)))
theorem xh_c5 {post : SX → Prop} {i t s d c : Nat} {a b fr h hy : Int32} {f fy qx ox oy sd : Bool} {q : List (Int32 × Nat)} {R : List Tk} (hx : HA f_time a_partStage a_stageKind a_stageA a_stageB i t s 5 a b) (hS : RepA a_due a_count a_held a_heldY a_hasHeld a_hasHeldY a_queueSize a_queueIsOfX a_queueValue a_queueDue i (d, c, h, hy, f, fy, qx, q, ox, oy)) (ok : okS 5 b (d, c, h, hy, f, fy, qx, q, ox, oy)) (hT : f_tasks = nI R.length) (hR : rps a_taskWhat a_taskPart a_taskValue R) (hl : R.length + 2 ≤ 128)   (H : ∀ u', Eff (f_time, f_sent, f_stageCount, f_tasks, a_sourceEnded, a_stageKind, a_stageA, a_stageB, a_stageParts, a_partStage, a_partUser, a_partX, a_partY, a_phase, a_beganAfter, a_due, a_count, a_held, a_heldY, a_hasHeld, a_hasHeldY, a_queueSize, a_queueIsOfX, a_queueValue, a_queueDue, a_subStatus, a_subCode, a_subEnd, a_subDemand, a_subRequests, a_subDelivered, a_subWaiting, a_waitValue, a_history, a_taskWhat, a_taskPart, a_taskValue) u' i (hc 5 b t sd (d, c, h, hy, f, fy, qx, q, ox, oy)).1 (hc 5 b t sd (d, c, h, hy, f, fy, qx, q, ox, oy)).2 R → post u') : wpX_hearComplete post (f_time, f_sent, f_stageCount, f_tasks, a_sourceEnded, a_stageKind, a_stageA, a_stageB, a_stageParts, a_partStage, a_partUser, a_partX, a_partY, a_phase, a_beganAfter, a_due, a_count, a_held, a_heldY, a_hasHeld, a_hasHeldY, a_queueSize, a_queueIsOfX, a_queueValue, a_queueDue, a_subStatus, a_subCode, a_subEnd, a_subDemand, a_subRequests, a_subDelivered, a_subWaiting, a_waitValue, a_history, a_taskWhat, a_taskPart, a_taskValue) (nI i) fr := by
  obtain ⟨h27, ht, ht2, hps, hs, hk, ha, hb, ho⟩ := hx
  have hS0 := hS
  obtain ⟨a1, a2, a3, a4, a5, a6, a7, a8, a9, a10⟩ := hS
  have hcl : (nI i).toNatClampNeg = i := nI_clamp (by omega)
  have hcs : (nI s).toNatClampNeg = s := nI_clamp (by omega)
  have hin : vp_in (nI i) 27 := vp_in_nI h27 (by decide)
  have his : vp_in (nI s) 12 := vp_in_nI hs (by decide)
  have hps' : a_partStage (nI i).toNatClampNeg = nI s := by rw [hcl]; exact hps
  refine ⟨hin, nm_r (e' := nI s) hps' ⟨his, nm_r (e' := nI 5) (by rw [hcs]; exact hk) ?_⟩⟩
  refine br_t (by decide) ?_
  exact xw_push hT (by omega) (H _ (xe_eff hS0 (fun j hj S hS => hS) rfl (xd_rps_push (w := 2) hR)))
theorem xh_c6 {post : SX → Prop} {i t s d c : Nat} {a b fr h hy : Int32} {f fy qx ox oy sd : Bool} {q : List (Int32 × Nat)} {R : List Tk} (hx : HA f_time a_partStage a_stageKind a_stageA a_stageB i t s 6 a b) (hS : RepA a_due a_count a_held a_heldY a_hasHeld a_hasHeldY a_queueSize a_queueIsOfX a_queueValue a_queueDue i (d, c, h, hy, f, fy, qx, q, ox, oy)) (ok : okS 6 b (d, c, h, hy, f, fy, qx, q, ox, oy)) (hT : f_tasks = nI R.length) (hR : rps a_taskWhat a_taskPart a_taskValue R) (hl : R.length + 2 ≤ 128)   (H : ∀ u', Eff (f_time, f_sent, f_stageCount, f_tasks, a_sourceEnded, a_stageKind, a_stageA, a_stageB, a_stageParts, a_partStage, a_partUser, a_partX, a_partY, a_phase, a_beganAfter, a_due, a_count, a_held, a_heldY, a_hasHeld, a_hasHeldY, a_queueSize, a_queueIsOfX, a_queueValue, a_queueDue, a_subStatus, a_subCode, a_subEnd, a_subDemand, a_subRequests, a_subDelivered, a_subWaiting, a_waitValue, a_history, a_taskWhat, a_taskPart, a_taskValue) u' i (hc 6 b t sd (d, c, h, hy, f, fy, qx, q, ox, oy)).1 (hc 6 b t sd (d, c, h, hy, f, fy, qx, q, ox, oy)).2 R → post u') : wpX_hearComplete post (f_time, f_sent, f_stageCount, f_tasks, a_sourceEnded, a_stageKind, a_stageA, a_stageB, a_stageParts, a_partStage, a_partUser, a_partX, a_partY, a_phase, a_beganAfter, a_due, a_count, a_held, a_heldY, a_hasHeld, a_hasHeldY, a_queueSize, a_queueIsOfX, a_queueValue, a_queueDue, a_subStatus, a_subCode, a_subEnd, a_subDemand, a_subRequests, a_subDelivered, a_subWaiting, a_waitValue, a_history, a_taskWhat, a_taskPart, a_taskValue) (nI i) fr := by
  obtain ⟨h27, ht, ht2, hps, hs, hk, ha, hb, ho⟩ := hx
  have hS0 := hS
  obtain ⟨a1, a2, a3, a4, a5, a6, a7, a8, a9, a10⟩ := hS
  have hcl : (nI i).toNatClampNeg = i := nI_clamp (by omega)
  have hcs : (nI s).toNatClampNeg = s := nI_clamp (by omega)
  have hin : vp_in (nI i) 27 := vp_in_nI h27 (by decide)
  have his : vp_in (nI s) 12 := vp_in_nI hs (by decide)
  have hps' : a_partStage (nI i).toNatClampNeg = nI s := by rw [hcl]; exact hps
  refine ⟨hin, nm_r (e' := nI s) hps' ⟨his, nm_r (e' := nI 6) (by rw [hcs]; exact hk) ?_⟩⟩
  refine br_t (by decide) ?_
  exact xw_push hT (by omega) (H _ (xe_eff hS0 (fun j hj S hS => hS) rfl (xd_rps_push (w := 2) hR)))
theorem xh_c7 {post : SX → Prop} {i t s d c : Nat} {a b fr h hy : Int32} {f fy qx ox oy sd : Bool} {q : List (Int32 × Nat)} {R : List Tk} (hx : HA f_time a_partStage a_stageKind a_stageA a_stageB i t s 7 a b) (hS : RepA a_due a_count a_held a_heldY a_hasHeld a_hasHeldY a_queueSize a_queueIsOfX a_queueValue a_queueDue i (d, c, h, hy, f, fy, qx, q, ox, oy)) (ok : okS 7 b (d, c, h, hy, f, fy, qx, q, ox, oy)) (hT : f_tasks = nI R.length) (hR : rps a_taskWhat a_taskPart a_taskValue R) (hl : R.length + 2 ≤ 128)   (H : ∀ u', Eff (f_time, f_sent, f_stageCount, f_tasks, a_sourceEnded, a_stageKind, a_stageA, a_stageB, a_stageParts, a_partStage, a_partUser, a_partX, a_partY, a_phase, a_beganAfter, a_due, a_count, a_held, a_heldY, a_hasHeld, a_hasHeldY, a_queueSize, a_queueIsOfX, a_queueValue, a_queueDue, a_subStatus, a_subCode, a_subEnd, a_subDemand, a_subRequests, a_subDelivered, a_subWaiting, a_waitValue, a_history, a_taskWhat, a_taskPart, a_taskValue) u' i (hc 7 b t sd (d, c, h, hy, f, fy, qx, q, ox, oy)).1 (hc 7 b t sd (d, c, h, hy, f, fy, qx, q, ox, oy)).2 R → post u') : wpX_hearComplete post (f_time, f_sent, f_stageCount, f_tasks, a_sourceEnded, a_stageKind, a_stageA, a_stageB, a_stageParts, a_partStage, a_partUser, a_partX, a_partY, a_phase, a_beganAfter, a_due, a_count, a_held, a_heldY, a_hasHeld, a_hasHeldY, a_queueSize, a_queueIsOfX, a_queueValue, a_queueDue, a_subStatus, a_subCode, a_subEnd, a_subDemand, a_subRequests, a_subDelivered, a_subWaiting, a_waitValue, a_history, a_taskWhat, a_taskPart, a_taskValue) (nI i) fr := by
  obtain ⟨h27, ht, ht2, hps, hs, hk, ha, hb, ho⟩ := hx
  have hS0 := hS
  obtain ⟨a1, a2, a3, a4, a5, a6, a7, a8, a9, a10⟩ := hS
  have hcl : (nI i).toNatClampNeg = i := nI_clamp (by omega)
  have hcs : (nI s).toNatClampNeg = s := nI_clamp (by omega)
  have hin : vp_in (nI i) 27 := vp_in_nI h27 (by decide)
  have his : vp_in (nI s) 12 := vp_in_nI hs (by decide)
  have hps' : a_partStage (nI i).toNatClampNeg = nI s := by rw [hcl]; exact hps
  refine ⟨hin, nm_r (e' := nI s) hps' ⟨his, nm_r (e' := nI 7) (by rw [hcs]; exact hk) ?_⟩⟩
  refine br_t (by decide) ?_
  exact xw_push hT (by omega) (H _ (xe_eff hS0 (fun j hj S hS => hS) rfl (xd_rps_push (w := 2) hR)))
theorem xh_c8 {post : SX → Prop} {i t s d c : Nat} {a b fr h hy : Int32} {f fy qx ox oy sd : Bool} {q : List (Int32 × Nat)} {R : List Tk} (hx : HA f_time a_partStage a_stageKind a_stageA a_stageB i t s 8 a b) (hS : RepA a_due a_count a_held a_heldY a_hasHeld a_hasHeldY a_queueSize a_queueIsOfX a_queueValue a_queueDue i (d, c, h, hy, f, fy, qx, q, ox, oy)) (ok : okS 8 b (d, c, h, hy, f, fy, qx, q, ox, oy)) (hT : f_tasks = nI R.length) (hR : rps a_taskWhat a_taskPart a_taskValue R) (hl : R.length + 2 ≤ 128)   (H : ∀ u', Eff (f_time, f_sent, f_stageCount, f_tasks, a_sourceEnded, a_stageKind, a_stageA, a_stageB, a_stageParts, a_partStage, a_partUser, a_partX, a_partY, a_phase, a_beganAfter, a_due, a_count, a_held, a_heldY, a_hasHeld, a_hasHeldY, a_queueSize, a_queueIsOfX, a_queueValue, a_queueDue, a_subStatus, a_subCode, a_subEnd, a_subDemand, a_subRequests, a_subDelivered, a_subWaiting, a_waitValue, a_history, a_taskWhat, a_taskPart, a_taskValue) u' i (hc 8 b t sd (d, c, h, hy, f, fy, qx, q, ox, oy)).1 (hc 8 b t sd (d, c, h, hy, f, fy, qx, q, ox, oy)).2 R → post u') : wpX_hearComplete post (f_time, f_sent, f_stageCount, f_tasks, a_sourceEnded, a_stageKind, a_stageA, a_stageB, a_stageParts, a_partStage, a_partUser, a_partX, a_partY, a_phase, a_beganAfter, a_due, a_count, a_held, a_heldY, a_hasHeld, a_hasHeldY, a_queueSize, a_queueIsOfX, a_queueValue, a_queueDue, a_subStatus, a_subCode, a_subEnd, a_subDemand, a_subRequests, a_subDelivered, a_subWaiting, a_waitValue, a_history, a_taskWhat, a_taskPart, a_taskValue) (nI i) fr := by
  obtain ⟨h27, ht, ht2, hps, hs, hk, ha, hb, ho⟩ := hx
  have hS0 := hS
  obtain ⟨a1, a2, a3, a4, a5, a6, a7, a8, a9, a10⟩ := hS
  have hcl : (nI i).toNatClampNeg = i := nI_clamp (by omega)
  have hcs : (nI s).toNatClampNeg = s := nI_clamp (by omega)
  have hin : vp_in (nI i) 27 := vp_in_nI h27 (by decide)
  have his : vp_in (nI s) 12 := vp_in_nI hs (by decide)
  have hps' : a_partStage (nI i).toNatClampNeg = nI s := by rw [hcl]; exact hps
  refine ⟨hin, nm_r (e' := nI s) hps' ⟨his, nm_r (e' := nI 8) (by rw [hcs]; exact hk) ?_⟩⟩
  refine br_t (by decide) ?_
  exact xw_push hT (by omega) (H _ (xe_eff hS0 (fun j hj S hS => hS) rfl (xd_rps_push (w := 2) hR)))
theorem xh_c20 {post : SX → Prop} {i t s d c : Nat} {a b fr h hy : Int32} {f fy qx ox oy sd : Bool} {q : List (Int32 × Nat)} {R : List Tk} (hx : HA f_time a_partStage a_stageKind a_stageA a_stageB i t s 20 a b) (hS : RepA a_due a_count a_held a_heldY a_hasHeld a_hasHeldY a_queueSize a_queueIsOfX a_queueValue a_queueDue i (d, c, h, hy, f, fy, qx, q, ox, oy)) (ok : okS 20 b (d, c, h, hy, f, fy, qx, q, ox, oy)) (hT : f_tasks = nI R.length) (hR : rps a_taskWhat a_taskPart a_taskValue R) (hl : R.length + 2 ≤ 128)   (H : ∀ u', Eff (f_time, f_sent, f_stageCount, f_tasks, a_sourceEnded, a_stageKind, a_stageA, a_stageB, a_stageParts, a_partStage, a_partUser, a_partX, a_partY, a_phase, a_beganAfter, a_due, a_count, a_held, a_heldY, a_hasHeld, a_hasHeldY, a_queueSize, a_queueIsOfX, a_queueValue, a_queueDue, a_subStatus, a_subCode, a_subEnd, a_subDemand, a_subRequests, a_subDelivered, a_subWaiting, a_waitValue, a_history, a_taskWhat, a_taskPart, a_taskValue) u' i (hc 20 b t sd (d, c, h, hy, f, fy, qx, q, ox, oy)).1 (hc 20 b t sd (d, c, h, hy, f, fy, qx, q, ox, oy)).2 R → post u') : wpX_hearComplete post (f_time, f_sent, f_stageCount, f_tasks, a_sourceEnded, a_stageKind, a_stageA, a_stageB, a_stageParts, a_partStage, a_partUser, a_partX, a_partY, a_phase, a_beganAfter, a_due, a_count, a_held, a_heldY, a_hasHeld, a_hasHeldY, a_queueSize, a_queueIsOfX, a_queueValue, a_queueDue, a_subStatus, a_subCode, a_subEnd, a_subDemand, a_subRequests, a_subDelivered, a_subWaiting, a_waitValue, a_history, a_taskWhat, a_taskPart, a_taskValue) (nI i) fr := by
  obtain ⟨h27, ht, ht2, hps, hs, hk, ha, hb, ho⟩ := hx
  have hS0 := hS
  obtain ⟨a1, a2, a3, a4, a5, a6, a7, a8, a9, a10⟩ := hS
  have hcl : (nI i).toNatClampNeg = i := nI_clamp (by omega)
  have hcs : (nI s).toNatClampNeg = s := nI_clamp (by omega)
  have hin : vp_in (nI i) 27 := vp_in_nI h27 (by decide)
  have his : vp_in (nI s) 12 := vp_in_nI hs (by decide)
  have hps' : a_partStage (nI i).toNatClampNeg = nI s := by rw [hcl]; exact hps
  refine ⟨hin, nm_r (e' := nI s) hps' ⟨his, nm_r (e' := nI 20) (by rw [hcs]; exact hk) ?_⟩⟩
  refine br_f (by decide) (br_t (by decide) ?_)
  exact xw_push hT (by omega) (H _ (xe_eff hS0 (fun j hj S hS => hS) rfl (xd_rps_push (w := 2) hR)))
theorem xh_c13 {post : SX → Prop} {i t s d c : Nat} {a b fr h hy : Int32} {f fy qx ox oy sd : Bool} {q : List (Int32 × Nat)} {R : List Tk} (hx : HA f_time a_partStage a_stageKind a_stageA a_stageB i t s 13 a b) (hS : RepA a_due a_count a_held a_heldY a_hasHeld a_hasHeldY a_queueSize a_queueIsOfX a_queueValue a_queueDue i (d, c, h, hy, f, fy, qx, q, ox, oy)) (ok : okS 13 b (d, c, h, hy, f, fy, qx, q, ox, oy)) (hT : f_tasks = nI R.length) (hR : rps a_taskWhat a_taskPart a_taskValue R) (hl : R.length + 2 ≤ 128)   (H : ∀ u', Eff (f_time, f_sent, f_stageCount, f_tasks, a_sourceEnded, a_stageKind, a_stageA, a_stageB, a_stageParts, a_partStage, a_partUser, a_partX, a_partY, a_phase, a_beganAfter, a_due, a_count, a_held, a_heldY, a_hasHeld, a_hasHeldY, a_queueSize, a_queueIsOfX, a_queueValue, a_queueDue, a_subStatus, a_subCode, a_subEnd, a_subDemand, a_subRequests, a_subDelivered, a_subWaiting, a_waitValue, a_history, a_taskWhat, a_taskPart, a_taskValue) u' i (hc 13 b t sd (d, c, h, hy, f, fy, qx, q, ox, oy)).1 (hc 13 b t sd (d, c, h, hy, f, fy, qx, q, ox, oy)).2 R → post u') : wpX_hearComplete post (f_time, f_sent, f_stageCount, f_tasks, a_sourceEnded, a_stageKind, a_stageA, a_stageB, a_stageParts, a_partStage, a_partUser, a_partX, a_partY, a_phase, a_beganAfter, a_due, a_count, a_held, a_heldY, a_hasHeld, a_hasHeldY, a_queueSize, a_queueIsOfX, a_queueValue, a_queueDue, a_subStatus, a_subCode, a_subEnd, a_subDemand, a_subRequests, a_subDelivered, a_subWaiting, a_waitValue, a_history, a_taskWhat, a_taskPart, a_taskValue) (nI i) fr := by
  obtain ⟨h27, ht, ht2, hps, hs, hk, ha, hb, ho⟩ := hx
  have hS0 := hS
  obtain ⟨a1, a2, a3, a4, a5, a6, a7, a8, a9, a10⟩ := hS
  have hcl : (nI i).toNatClampNeg = i := nI_clamp (by omega)
  have hcs : (nI s).toNatClampNeg = s := nI_clamp (by omega)
  have hin : vp_in (nI i) 27 := vp_in_nI h27 (by decide)
  have his : vp_in (nI s) 12 := vp_in_nI hs (by decide)
  have hps' : a_partStage (nI i).toNatClampNeg = nI s := by rw [hcl]; exact hps
  refine ⟨hin, nm_r (e' := nI s) hps' ⟨his, nm_r (e' := nI 13) (by rw [hcs]; exact hk) ?_⟩⟩
  iterate 6 (refine br_f (by decide) ?_)
  refine br_t rfl ?_
  exact xw_push hT (by omega) (H _ (xe_eff hS0 (fun j hj S hS => hS) rfl (xd_rps_push (w := 2) hR)))
theorem xh_c14 {post : SX → Prop} {i t s d c : Nat} {a b fr h hy : Int32} {f fy qx ox oy sd : Bool} {q : List (Int32 × Nat)} {R : List Tk} (hx : HA f_time a_partStage a_stageKind a_stageA a_stageB i t s 14 a b) (hS : RepA a_due a_count a_held a_heldY a_hasHeld a_hasHeldY a_queueSize a_queueIsOfX a_queueValue a_queueDue i (d, c, h, hy, f, fy, qx, q, ox, oy)) (ok : okS 14 b (d, c, h, hy, f, fy, qx, q, ox, oy)) (hT : f_tasks = nI R.length) (hR : rps a_taskWhat a_taskPart a_taskValue R) (hl : R.length + 2 ≤ 128)   (H : ∀ u', Eff (f_time, f_sent, f_stageCount, f_tasks, a_sourceEnded, a_stageKind, a_stageA, a_stageB, a_stageParts, a_partStage, a_partUser, a_partX, a_partY, a_phase, a_beganAfter, a_due, a_count, a_held, a_heldY, a_hasHeld, a_hasHeldY, a_queueSize, a_queueIsOfX, a_queueValue, a_queueDue, a_subStatus, a_subCode, a_subEnd, a_subDemand, a_subRequests, a_subDelivered, a_subWaiting, a_waitValue, a_history, a_taskWhat, a_taskPart, a_taskValue) u' i (hc 14 b t sd (d, c, h, hy, f, fy, qx, q, ox, oy)).1 (hc 14 b t sd (d, c, h, hy, f, fy, qx, q, ox, oy)).2 R → post u') : wpX_hearComplete post (f_time, f_sent, f_stageCount, f_tasks, a_sourceEnded, a_stageKind, a_stageA, a_stageB, a_stageParts, a_partStage, a_partUser, a_partX, a_partY, a_phase, a_beganAfter, a_due, a_count, a_held, a_heldY, a_hasHeld, a_hasHeldY, a_queueSize, a_queueIsOfX, a_queueValue, a_queueDue, a_subStatus, a_subCode, a_subEnd, a_subDemand, a_subRequests, a_subDelivered, a_subWaiting, a_waitValue, a_history, a_taskWhat, a_taskPart, a_taskValue) (nI i) fr := by
  obtain ⟨h27, ht, ht2, hps, hs, hk, ha, hb, ho⟩ := hx
  have hS0 := hS
  obtain ⟨a1, a2, a3, a4, a5, a6, a7, a8, a9, a10⟩ := hS
  have hcl : (nI i).toNatClampNeg = i := nI_clamp (by omega)
  have hcs : (nI s).toNatClampNeg = s := nI_clamp (by omega)
  have hin : vp_in (nI i) 27 := vp_in_nI h27 (by decide)
  have his : vp_in (nI s) 12 := vp_in_nI hs (by decide)
  have hps' : a_partStage (nI i).toNatClampNeg = nI s := by rw [hcl]; exact hps
  refine ⟨hin, nm_r (e' := nI s) hps' ⟨his, nm_r (e' := nI 14) (by rw [hcs]; exact hk) ?_⟩⟩
  iterate 7 (refine br_f (by decide) ?_)
  refine br_t rfl ?_
  exact xw_push hT (by omega) (H _ (xe_eff hS0 (fun j hj S hS => hS) rfl (xd_rps_push (w := 2) hR)))
theorem xh_c15 {post : SX → Prop} {i t s d c : Nat} {a b fr h hy : Int32} {f fy qx ox oy sd : Bool} {q : List (Int32 × Nat)} {R : List Tk} (hx : HA f_time a_partStage a_stageKind a_stageA a_stageB i t s 15 a b) (hS : RepA a_due a_count a_held a_heldY a_hasHeld a_hasHeldY a_queueSize a_queueIsOfX a_queueValue a_queueDue i (d, c, h, hy, f, fy, qx, q, ox, oy)) (ok : okS 15 b (d, c, h, hy, f, fy, qx, q, ox, oy)) (hT : f_tasks = nI R.length) (hR : rps a_taskWhat a_taskPart a_taskValue R) (hl : R.length + 2 ≤ 128)   (H : ∀ u', Eff (f_time, f_sent, f_stageCount, f_tasks, a_sourceEnded, a_stageKind, a_stageA, a_stageB, a_stageParts, a_partStage, a_partUser, a_partX, a_partY, a_phase, a_beganAfter, a_due, a_count, a_held, a_heldY, a_hasHeld, a_hasHeldY, a_queueSize, a_queueIsOfX, a_queueValue, a_queueDue, a_subStatus, a_subCode, a_subEnd, a_subDemand, a_subRequests, a_subDelivered, a_subWaiting, a_waitValue, a_history, a_taskWhat, a_taskPart, a_taskValue) u' i (hc 15 b t sd (d, c, h, hy, f, fy, qx, q, ox, oy)).1 (hc 15 b t sd (d, c, h, hy, f, fy, qx, q, ox, oy)).2 R → post u') : wpX_hearComplete post (f_time, f_sent, f_stageCount, f_tasks, a_sourceEnded, a_stageKind, a_stageA, a_stageB, a_stageParts, a_partStage, a_partUser, a_partX, a_partY, a_phase, a_beganAfter, a_due, a_count, a_held, a_heldY, a_hasHeld, a_hasHeldY, a_queueSize, a_queueIsOfX, a_queueValue, a_queueDue, a_subStatus, a_subCode, a_subEnd, a_subDemand, a_subRequests, a_subDelivered, a_subWaiting, a_waitValue, a_history, a_taskWhat, a_taskPart, a_taskValue) (nI i) fr := by
  obtain ⟨h27, ht, ht2, hps, hs, hk, ha, hb, ho⟩ := hx
  have hS0 := hS
  obtain ⟨a1, a2, a3, a4, a5, a6, a7, a8, a9, a10⟩ := hS
  have hcl : (nI i).toNatClampNeg = i := nI_clamp (by omega)
  have hcs : (nI s).toNatClampNeg = s := nI_clamp (by omega)
  have hin : vp_in (nI i) 27 := vp_in_nI h27 (by decide)
  have his : vp_in (nI s) 12 := vp_in_nI hs (by decide)
  have hps' : a_partStage (nI i).toNatClampNeg = nI s := by rw [hcl]; exact hps
  refine ⟨hin, nm_r (e' := nI s) hps' ⟨his, nm_r (e' := nI 15) (by rw [hcs]; exact hk) ?_⟩⟩
  iterate 8 (refine br_f (by decide) ?_)
  refine br_t rfl ?_
  exact xw_push hT (by omega) (H _ (xe_eff hS0 (fun j hj S hS => hS) rfl (xd_rps_push (w := 2) hR)))
theorem xh_c9 {post : SX → Prop} {i t s d c : Nat} {a b fr h hy : Int32} {f fy qx ox oy sd : Bool} {q : List (Int32 × Nat)} {R : List Tk} (hx : HA f_time a_partStage a_stageKind a_stageA a_stageB i t s 9 a b) (hS : RepA a_due a_count a_held a_heldY a_hasHeld a_hasHeldY a_queueSize a_queueIsOfX a_queueValue a_queueDue i (d, c, h, hy, f, fy, qx, q, ox, oy)) (ok : okS 9 b (d, c, h, hy, f, fy, qx, q, ox, oy)) (hT : f_tasks = nI R.length) (hR : rps a_taskWhat a_taskPart a_taskValue R) (hl : R.length + 2 ≤ 128)   (H : ∀ u', Eff (f_time, f_sent, f_stageCount, f_tasks, a_sourceEnded, a_stageKind, a_stageA, a_stageB, a_stageParts, a_partStage, a_partUser, a_partX, a_partY, a_phase, a_beganAfter, a_due, a_count, a_held, a_heldY, a_hasHeld, a_hasHeldY, a_queueSize, a_queueIsOfX, a_queueValue, a_queueDue, a_subStatus, a_subCode, a_subEnd, a_subDemand, a_subRequests, a_subDelivered, a_subWaiting, a_waitValue, a_history, a_taskWhat, a_taskPart, a_taskValue) u' i (hc 9 b t sd (d, c, h, hy, f, fy, qx, q, ox, oy)).1 (hc 9 b t sd (d, c, h, hy, f, fy, qx, q, ox, oy)).2 R → post u') : wpX_hearComplete post (f_time, f_sent, f_stageCount, f_tasks, a_sourceEnded, a_stageKind, a_stageA, a_stageB, a_stageParts, a_partStage, a_partUser, a_partX, a_partY, a_phase, a_beganAfter, a_due, a_count, a_held, a_heldY, a_hasHeld, a_hasHeldY, a_queueSize, a_queueIsOfX, a_queueValue, a_queueDue, a_subStatus, a_subCode, a_subEnd, a_subDemand, a_subRequests, a_subDelivered, a_subWaiting, a_waitValue, a_history, a_taskWhat, a_taskPart, a_taskValue) (nI i) fr := by
  obtain ⟨h27, ht, ht2, hps, hs, hk, ha, hb, ho⟩ := hx
  have hS0 := hS
  obtain ⟨a1, a2, a3, a4, a5, a6, a7, a8, a9, a10⟩ := hS
  have hcl : (nI i).toNatClampNeg = i := nI_clamp (by omega)
  have hcs : (nI s).toNatClampNeg = s := nI_clamp (by omega)
  have hin : vp_in (nI i) 27 := vp_in_nI h27 (by decide)
  have his : vp_in (nI s) 12 := vp_in_nI hs (by decide)
  have hps' : a_partStage (nI i).toNatClampNeg = nI s := by rw [hcl]; exact hps
  refine ⟨hin, nm_r (e' := nI s) hps' ⟨his, nm_r (e' := nI 9) (by rw [hcs]; exact hk) ?_⟩⟩
  refine br_f (by decide) (br_f (by decide) (br_t rfl ⟨hin, ?_⟩))
  have a2' : a_count (nI i).toNatClampNeg = nI c := by rw [hcl]; exact a2
  have a3' : a_held (nI i).toNatClampNeg = h := by rw [hcl]; exact a3
  have hb9 := ho.2.2.2.2.2.1 rfl
  have okc : c < cl b := ok.2.1 (Or.inr rfl)
  have hgo : ∀ g : Bool, (hc 9 b t sd (d, c, h, hy, f, fy, qx, q, ox, oy) = ((d, c, h, hy, f, fy, qx, q, ox, oy), if g = true then [(1, h), (2, 0)] else [(2, 0)])) → wX_hearComplete_88 post (nI i) (bI g) (nI i) f_time f_sent f_stageCount f_tasks a_sourceEnded a_stageKind a_stageA a_stageB a_stageParts a_partStage a_partUser a_partX a_partY a_phase a_beganAfter a_due a_count a_held a_heldY a_hasHeld a_hasHeldY a_queueSize a_queueIsOfX a_queueValue a_queueDue a_subStatus a_subCode a_subEnd a_subDemand a_subRequests a_subDelivered a_subWaiting a_waitValue a_history a_taskWhat a_taskPart a_taskValue := by
    intro g eg
    rw [eg] at H
    refine ⟨hin, ?_⟩
    rw [a3']
    exact xh_cb hT hR hl (fun tk tw tp tv h1 h2 => H _ (xe_eff hS0 (fun j hj S hS => hS) h1 h2))
  by_cases hv : c = 0
  · exact br_t (by rw [a2', hv]; decide) (hgo false (by simp [hc, hv]))
  · exact br_f (by rw [a2']; exact nI_nle (by omega) (by omega)) (hgo true (by simp [hc, hv]))
theorem xh_c10 {post : SX → Prop} {i t s d c : Nat} {a b fr h hy : Int32} {f fy qx ox oy sd : Bool} {q : List (Int32 × Nat)} {R : List Tk} (hx : HA f_time a_partStage a_stageKind a_stageA a_stageB i t s 10 a b) (hS : RepA a_due a_count a_held a_heldY a_hasHeld a_hasHeldY a_queueSize a_queueIsOfX a_queueValue a_queueDue i (d, c, h, hy, f, fy, qx, q, ox, oy)) (ok : okS 10 b (d, c, h, hy, f, fy, qx, q, ox, oy)) (hT : f_tasks = nI R.length) (hR : rps a_taskWhat a_taskPart a_taskValue R) (hl : R.length + 2 ≤ 128)   (H : ∀ u', Eff (f_time, f_sent, f_stageCount, f_tasks, a_sourceEnded, a_stageKind, a_stageA, a_stageB, a_stageParts, a_partStage, a_partUser, a_partX, a_partY, a_phase, a_beganAfter, a_due, a_count, a_held, a_heldY, a_hasHeld, a_hasHeldY, a_queueSize, a_queueIsOfX, a_queueValue, a_queueDue, a_subStatus, a_subCode, a_subEnd, a_subDemand, a_subRequests, a_subDelivered, a_subWaiting, a_waitValue, a_history, a_taskWhat, a_taskPart, a_taskValue) u' i (hc 10 b t sd (d, c, h, hy, f, fy, qx, q, ox, oy)).1 (hc 10 b t sd (d, c, h, hy, f, fy, qx, q, ox, oy)).2 R → post u') : wpX_hearComplete post (f_time, f_sent, f_stageCount, f_tasks, a_sourceEnded, a_stageKind, a_stageA, a_stageB, a_stageParts, a_partStage, a_partUser, a_partX, a_partY, a_phase, a_beganAfter, a_due, a_count, a_held, a_heldY, a_hasHeld, a_hasHeldY, a_queueSize, a_queueIsOfX, a_queueValue, a_queueDue, a_subStatus, a_subCode, a_subEnd, a_subDemand, a_subRequests, a_subDelivered, a_subWaiting, a_waitValue, a_history, a_taskWhat, a_taskPart, a_taskValue) (nI i) fr := by
  obtain ⟨h27, ht, ht2, hps, hs, hk, ha, hb, ho⟩ := hx
  have hS0 := hS
  obtain ⟨a1, a2, a3, a4, a5, a6, a7, a8, a9, a10⟩ := hS
  have hcl : (nI i).toNatClampNeg = i := nI_clamp (by omega)
  have hcs : (nI s).toNatClampNeg = s := nI_clamp (by omega)
  have hin : vp_in (nI i) 27 := vp_in_nI h27 (by decide)
  have his : vp_in (nI s) 12 := vp_in_nI hs (by decide)
  have hps' : a_partStage (nI i).toNatClampNeg = nI s := by rw [hcl]; exact hps
  refine ⟨hin, nm_r (e' := nI s) hps' ⟨his, nm_r (e' := nI 10) (by rw [hcs]; exact hk) ?_⟩⟩
  refine br_f (by decide) (br_f (by decide) (br_f (by decide) (br_t rfl ⟨hin, ?_⟩)))
  have a2' : a_count (nI i).toNatClampNeg = nI c := by rw [hcl]; exact a2
  rw [a2']
  exact xh_cb (g := true) hT hR hl (fun tk tw tp tv h1 h2 => H _ (xe_eff hS0 (fun j hj S hS => hS) h1 h2))
theorem xh_c11 {post : SX → Prop} {i t s d c : Nat} {a b fr h hy : Int32} {f fy qx ox oy sd : Bool} {q : List (Int32 × Nat)} {R : List Tk} (hx : HA f_time a_partStage a_stageKind a_stageA a_stageB i t s 11 a b) (hS : RepA a_due a_count a_held a_heldY a_hasHeld a_hasHeldY a_queueSize a_queueIsOfX a_queueValue a_queueDue i (d, c, h, hy, f, fy, qx, q, ox, oy)) (ok : okS 11 b (d, c, h, hy, f, fy, qx, q, ox, oy)) (hT : f_tasks = nI R.length) (hR : rps a_taskWhat a_taskPart a_taskValue R) (hl : R.length + 2 ≤ 128)   (H : ∀ u', Eff (f_time, f_sent, f_stageCount, f_tasks, a_sourceEnded, a_stageKind, a_stageA, a_stageB, a_stageParts, a_partStage, a_partUser, a_partX, a_partY, a_phase, a_beganAfter, a_due, a_count, a_held, a_heldY, a_hasHeld, a_hasHeldY, a_queueSize, a_queueIsOfX, a_queueValue, a_queueDue, a_subStatus, a_subCode, a_subEnd, a_subDemand, a_subRequests, a_subDelivered, a_subWaiting, a_waitValue, a_history, a_taskWhat, a_taskPart, a_taskValue) u' i (hc 11 b t sd (d, c, h, hy, f, fy, qx, q, ox, oy)).1 (hc 11 b t sd (d, c, h, hy, f, fy, qx, q, ox, oy)).2 R → post u') : wpX_hearComplete post (f_time, f_sent, f_stageCount, f_tasks, a_sourceEnded, a_stageKind, a_stageA, a_stageB, a_stageParts, a_partStage, a_partUser, a_partX, a_partY, a_phase, a_beganAfter, a_due, a_count, a_held, a_heldY, a_hasHeld, a_hasHeldY, a_queueSize, a_queueIsOfX, a_queueValue, a_queueDue, a_subStatus, a_subCode, a_subEnd, a_subDemand, a_subRequests, a_subDelivered, a_subWaiting, a_waitValue, a_history, a_taskWhat, a_taskPart, a_taskValue) (nI i) fr := by
  obtain ⟨h27, ht, ht2, hps, hs, hk, ha, hb, ho⟩ := hx
  have hS0 := hS
  obtain ⟨a1, a2, a3, a4, a5, a6, a7, a8, a9, a10⟩ := hS
  have hcl : (nI i).toNatClampNeg = i := nI_clamp (by omega)
  have hcs : (nI s).toNatClampNeg = s := nI_clamp (by omega)
  have hin : vp_in (nI i) 27 := vp_in_nI h27 (by decide)
  have his : vp_in (nI s) 12 := vp_in_nI hs (by decide)
  have hps' : a_partStage (nI i).toNatClampNeg = nI s := by rw [hcl]; exact hps
  refine ⟨hin, nm_r (e' := nI s) hps' ⟨his, nm_r (e' := nI 11) (by rw [hcs]; exact hk) ?_⟩⟩
  iterate 4 (refine br_f (by decide) ?_)
  have hb11 := ho.2.2.2.2.2.2 (by decide) (by decide)
  have ht' : f_time = nI t := ht
  have ed : f_time + a_stageB (nI s).toNatClampNeg = dI (t + cl b) := by rw [ht', hcs, xd_dIp (by omega), ← nI_add, ← hb11.2.2]; exact congrArg _ hb
  refine br_t rfl ⟨his, hin, nm_r (e' := upd a_due i (dI (t + cl b))) (by rw [ed, hcl]) ?_⟩
  exact H _ (xe_eff ⟨pk_us, a2, a3, a4, a5, a6, a7, a8, a9, a10⟩ (fun j hj S hS => xd_frame hS (pk_un hj) rfl rfl rfl rfl rfl rfl rfl (fun r hr => ⟨rfl, rfl⟩)) hT hR)
theorem xh_c12 {post : SX → Prop} {i t s d c : Nat} {a b fr h hy : Int32} {f fy qx ox oy sd : Bool} {q : List (Int32 × Nat)} {R : List Tk} (hx : HA f_time a_partStage a_stageKind a_stageA a_stageB i t s 12 a b) (hS : RepA a_due a_count a_held a_heldY a_hasHeld a_hasHeldY a_queueSize a_queueIsOfX a_queueValue a_queueDue i (d, c, h, hy, f, fy, qx, q, ox, oy)) (ok : okS 12 b (d, c, h, hy, f, fy, qx, q, ox, oy)) (hT : f_tasks = nI R.length) (hR : rps a_taskWhat a_taskPart a_taskValue R) (hl : R.length + 2 ≤ 128)   (H : ∀ u', Eff (f_time, f_sent, f_stageCount, f_tasks, a_sourceEnded, a_stageKind, a_stageA, a_stageB, a_stageParts, a_partStage, a_partUser, a_partX, a_partY, a_phase, a_beganAfter, a_due, a_count, a_held, a_heldY, a_hasHeld, a_hasHeldY, a_queueSize, a_queueIsOfX, a_queueValue, a_queueDue, a_subStatus, a_subCode, a_subEnd, a_subDemand, a_subRequests, a_subDelivered, a_subWaiting, a_waitValue, a_history, a_taskWhat, a_taskPart, a_taskValue) u' i (hc 12 b t sd (d, c, h, hy, f, fy, qx, q, ox, oy)).1 (hc 12 b t sd (d, c, h, hy, f, fy, qx, q, ox, oy)).2 R → post u') : wpX_hearComplete post (f_time, f_sent, f_stageCount, f_tasks, a_sourceEnded, a_stageKind, a_stageA, a_stageB, a_stageParts, a_partStage, a_partUser, a_partX, a_partY, a_phase, a_beganAfter, a_due, a_count, a_held, a_heldY, a_hasHeld, a_hasHeldY, a_queueSize, a_queueIsOfX, a_queueValue, a_queueDue, a_subStatus, a_subCode, a_subEnd, a_subDemand, a_subRequests, a_subDelivered, a_subWaiting, a_waitValue, a_history, a_taskWhat, a_taskPart, a_taskValue) (nI i) fr := by
  obtain ⟨h27, ht, ht2, hps, hs, hk, ha, hb, ho⟩ := hx
  have hS0 := hS
  obtain ⟨a1, a2, a3, a4, a5, a6, a7, a8, a9, a10⟩ := hS
  have hcl : (nI i).toNatClampNeg = i := nI_clamp (by omega)
  have hcs : (nI s).toNatClampNeg = s := nI_clamp (by omega)
  have hin : vp_in (nI i) 27 := vp_in_nI h27 (by decide)
  have his : vp_in (nI s) 12 := vp_in_nI hs (by decide)
  have hps' : a_partStage (nI i).toNatClampNeg = nI s := by rw [hcl]; exact hps
  refine ⟨hin, nm_r (e' := nI s) hps' ⟨his, nm_r (e' := nI 12) (by rw [hcs]; exact hk) ?_⟩⟩
  iterate 5 (refine br_f (by decide) ?_)
  refine br_t rfl ⟨hin, ?_⟩
  have a1' : a_due (nI i).toNatClampNeg = dI d := by rw [hcl]; exact a1
  have a3' : a_held (nI i).toNatClampNeg = h := by rw [hcl]; exact a3
  have hd : d < 1000 := ok.1
  have hgo : ∀ g : Bool, (hc 12 b t sd (d, c, h, hy, f, fy, qx, q, ox, oy) = ((d, c, h, hy, f, fy, qx, q, ox, oy), if g = true then [(1, h), (2, 0)] else [(2, 0)])) → wX_hearComplete_152 post (nI i) (bI g) (nI i) f_time f_sent f_stageCount f_tasks a_sourceEnded a_stageKind a_stageA a_stageB a_stageParts a_partStage a_partUser a_partX a_partY a_phase a_beganAfter a_due a_count a_held a_heldY a_hasHeld a_hasHeldY a_queueSize a_queueIsOfX a_queueValue a_queueDue a_subStatus a_subCode a_subEnd a_subDemand a_subRequests a_subDelivered a_subWaiting a_waitValue a_history a_taskWhat a_taskPart a_taskValue := by
    intro g eg
    rw [eg] at H
    refine ⟨hin, ?_⟩
    rw [a3']
    exact xh_cb hT hR hl (fun tk tw tp tv h1 h2 => H _ (xe_eff hS0 (fun j hj S hS => hS) h1 h2))
  by_cases hv : d = 0
  · exact br_t (by rw [a1', xd_dIm hd]; exact hv) (hgo false (by simp [hc, hv]))
  · exact br_f (by rw [a1', xd_dIm hd]; exact hv) (hgo true (by simp [hc, hv]))
theorem xh_c16 {post : SX → Prop} {i t s d c xi yi fr : Nat} {a b h hy : Int32} {f fy qx ox oy sd : Bool} {q : List (Int32 × Nat)} {R : List Tk} (hx : HA f_time a_partStage a_stageKind a_stageA a_stageB i t s 16 a b) (hS : RepA a_due a_count a_held a_heldY a_hasHeld a_hasHeldY a_queueSize a_queueIsOfX a_queueValue a_queueDue i (d, c, h, hy, f, fy, qx, q, ox, oy)) (ok : okS 16 b (d, c, h, hy, f, fy, qx, q, ox, oy)) (hT : f_tasks = nI R.length) (hR : rps a_taskWhat a_taskPart a_taskValue R) (hl : R.length + 2 ≤ 128) (hX : a_partX i = nI xi) (hY : a_partY i = nI yi) (hx27 : xi < 27) (hy27 : yi < 27) (hne : xi ≠ yi) (hfr : fr = if sd = true then xi else yi) (hph : a_phase (if sd = true then yi else xi) = 2 ↔ (if sd = true then oy else ox) = true) (H : ∀ u', Eff (f_time, f_sent, f_stageCount, f_tasks, a_sourceEnded, a_stageKind, a_stageA, a_stageB, a_stageParts, a_partStage, a_partUser, a_partX, a_partY, a_phase, a_beganAfter, a_due, a_count, a_held, a_heldY, a_hasHeld, a_hasHeldY, a_queueSize, a_queueIsOfX, a_queueValue, a_queueDue, a_subStatus, a_subCode, a_subEnd, a_subDemand, a_subRequests, a_subDelivered, a_subWaiting, a_waitValue, a_history, a_taskWhat, a_taskPart, a_taskValue) u' i (hc 16 b t sd (d, c, h, hy, f, fy, qx, q, ox, oy)).1 (hc 16 b t sd (d, c, h, hy, f, fy, qx, q, ox, oy)).2 R → post u') : wpX_hearComplete post (f_time, f_sent, f_stageCount, f_tasks, a_sourceEnded, a_stageKind, a_stageA, a_stageB, a_stageParts, a_partStage, a_partUser, a_partX, a_partY, a_phase, a_beganAfter, a_due, a_count, a_held, a_heldY, a_hasHeld, a_hasHeldY, a_queueSize, a_queueIsOfX, a_queueValue, a_queueDue, a_subStatus, a_subCode, a_subEnd, a_subDemand, a_subRequests, a_subDelivered, a_subWaiting, a_waitValue, a_history, a_taskWhat, a_taskPart, a_taskValue) (nI i) (nI fr) := by
  obtain ⟨h27, ht, ht2, hps, hs, hk, ha, hb, ho⟩ := hx
  have hS0 := hS
  obtain ⟨a1, a2, a3, a4, a5, a6, a7, a8, a9, a10⟩ := hS
  have hcl : (nI i).toNatClampNeg = i := nI_clamp (by omega)
  have hcs : (nI s).toNatClampNeg = s := nI_clamp (by omega)
  have hin : vp_in (nI i) 27 := vp_in_nI h27 (by decide)
  have his : vp_in (nI s) 12 := vp_in_nI hs (by decide)
  have hps' : a_partStage (nI i).toNatClampNeg = nI s := by rw [hcl]; exact hps
  have hX' : a_partX (nI i).toNatClampNeg = nI xi := by rw [hcl]; exact hX
  have hY' : a_partY (nI i).toNatClampNeg = nI yi := by rw [hcl]; exact hY
  have hsd := xh_side (i := i) hx27 hy27 hne hfr
  refine ⟨hin, nm_r (e' := nI s) hps' ⟨his, nm_r (e' := nI 16) (by rw [hcs]; exact hk) ?_⟩⟩
  iterate 9 (refine br_f (by decide) ?_)
  refine br_t rfl ?_
  have ho27 : (if sd = true then yi else xi) < 27 := by split <;> omega
  have hco : (nI (if sd = true then yi else xi)).toNatClampNeg = (if sd = true then yi else xi) := nI_clamp (by omega)
  have hoi : vp_in (nI (if sd = true then yi else xi)) 27 := vp_in_nI ho27 (by decide)
  have e1 : vp_in (a_partStage (nI i).toNatClampNeg) 12 := by rw [hps']; exact his
  have a8' : a_queueSize (nI i).toNatClampNeg = nI q.length := by rw [hcl]; exact a8
  have a5' : a_hasHeld (nI i).toNatClampNeg = bI f := by rw [hcl]; exact a5
  have a6' : a_hasHeldY (nI i).toNatClampNeg = bI fy := by rw [hcl]; exact a6
  have hrep : RepA a_due a_count a_held a_heldY a_hasHeld a_hasHeldY a_queueSize a_queueIsOfX a_queueValue a_queueDue i (hc 16 b t sd (d, c, h, hy, f, fy, qx, q, ox, oy)).1 := by cases sd <;> exact hS0
  have yes : (hc 16 b t sd (d, c, h, hy, f, fy, qx, q, ox, oy)).2 = [(2, 0)] → ((((1 : Int32) = 0 → (post (f_time, f_sent, f_stageCount, f_tasks, a_sourceEnded, a_stageKind, a_stageA, a_stageB, a_stageParts, a_partStage, a_partUser, a_partX, a_partY, a_phase, a_beganAfter, a_due, a_count, a_held, a_heldY, a_hasHeld, a_hasHeldY, a_queueSize, a_queueIsOfX, a_queueValue, a_queueDue, a_subStatus, a_subCode, a_subEnd, a_subDemand, a_subRequests, a_subDelivered, a_subWaiting, a_waitValue, a_history, a_taskWhat, a_taskPart, a_taskValue))) ∧ (¬ (1 : Int32) = 0 → (wpX_push (fun u => post u) (f_time, f_sent, f_stageCount, f_tasks, a_sourceEnded, a_stageKind, a_stageA, a_stageB, a_stageParts, a_partStage, a_partUser, a_partX, a_partY, a_phase, a_beganAfter, a_due, a_count, a_held, a_heldY, a_hasHeld, a_hasHeldY, a_queueSize, a_queueIsOfX, a_queueValue, a_queueDue, a_subStatus, a_subCode, a_subEnd, a_subDemand, a_subRequests, a_subDelivered, a_subWaiting, a_waitValue, a_history, a_taskWhat, a_taskPart, a_taskValue) 2 (nI i) 0)))) := by
    intro e
    rw [e] at H
    exact br_f (by decide) (xw_push hT (by omega) (H _ (xe_eff hrep (fun j hj S hS => hS) rfl (xd_rps_push (w := 2) hR))))
  have no : (hc 16 b t sd (d, c, h, hy, f, fy, qx, q, ox, oy)).2 = [] → ((((0 : Int32) = 0 → (post (f_time, f_sent, f_stageCount, f_tasks, a_sourceEnded, a_stageKind, a_stageA, a_stageB, a_stageParts, a_partStage, a_partUser, a_partX, a_partY, a_phase, a_beganAfter, a_due, a_count, a_held, a_heldY, a_hasHeld, a_hasHeldY, a_queueSize, a_queueIsOfX, a_queueValue, a_queueDue, a_subStatus, a_subCode, a_subEnd, a_subDemand, a_subRequests, a_subDelivered, a_subWaiting, a_waitValue, a_history, a_taskWhat, a_taskPart, a_taskValue))) ∧ (¬ (0 : Int32) = 0 → (wpX_push (fun u => post u) (f_time, f_sent, f_stageCount, f_tasks, a_sourceEnded, a_stageKind, a_stageA, a_stageB, a_stageParts, a_partStage, a_partUser, a_partX, a_partY, a_phase, a_beganAfter, a_due, a_count, a_held, a_heldY, a_hasHeld, a_hasHeldY, a_queueSize, a_queueIsOfX, a_queueValue, a_queueDue, a_subStatus, a_subCode, a_subEnd, a_subDemand, a_subRequests, a_subDelivered, a_subWaiting, a_waitValue, a_history, a_taskWhat, a_taskPart, a_taskValue) 2 (nI i) 0)))) := by
    intro e
    rw [e] at H
    exact br_t rfl (H _ (xe_eff hrep (fun j hj S hS => hS) hT hR))
  refine ⟨hin, ?_⟩
  have step : wX_endsWithSide_15 (fun r_177 => (((r_177 = 0 → (post (f_time, f_sent, f_stageCount, f_tasks, a_sourceEnded, a_stageKind, a_stageA, a_stageB, a_stageParts, a_partStage, a_partUser, a_partX, a_partY, a_phase, a_beganAfter, a_due, a_count, a_held, a_heldY, a_hasHeld, a_hasHeldY, a_queueSize, a_queueIsOfX, a_queueValue, a_queueDue, a_subStatus, a_subCode, a_subEnd, a_subDemand, a_subRequests, a_subDelivered, a_subWaiting, a_waitValue, a_history, a_taskWhat, a_taskPart, a_taskValue))) ∧ (¬ r_177 = 0 → (wpX_push (fun u => post u) (f_time, f_sent, f_stageCount, f_tasks, a_sourceEnded, a_stageKind, a_stageA, a_stageB, a_stageParts, a_partStage, a_partUser, a_partX, a_partY, a_phase, a_beganAfter, a_due, a_count, a_held, a_heldY, a_hasHeld, a_hasHeldY, a_queueSize, a_queueIsOfX, a_queueValue, a_queueDue, a_subStatus, a_subCode, a_subEnd, a_subDemand, a_subRequests, a_subDelivered, a_subWaiting, a_waitValue, a_history, a_taskWhat, a_taskPart, a_taskValue) 2 (nI i) 0))))) (nI i) (nI fr) (bI sd) f_time f_sent f_stageCount f_tasks a_sourceEnded a_stageKind a_stageA a_stageB a_stageParts a_partStage a_partUser a_partX a_partY a_phase a_beganAfter a_due a_count a_held a_heldY a_hasHeld a_hasHeldY a_queueSize a_queueIsOfX a_queueValue a_queueDue a_subStatus a_subCode a_subEnd a_subDemand a_subRequests a_subDelivered a_subWaiting a_waitValue a_history a_taskWhat a_taskPart a_taskValue := by
    refine xh_other h27 hX hY hx27 hy27 hne hfr ⟨hin, e1, nm_r (e' := nI 16) (by rw [hps', hcs]; exact hk) ?_⟩
    refine br_f (by decide) (br_f (by decide) ⟨hoi, ?_⟩)
    by_cases hv : (if sd = true then oy else ox) = true
    · exact br_t (by rw [hco, hph]; exact hv) (yes (by cases sd <;> simp_all [hc]))
    · exact br_f (by rw [hco, hph]; exact hv) (no (by cases sd <;> simp_all [hc]))
  by_cases hs2 : sd = true
  · subst hs2
    exact br_t (by rw [hX', hsd]) step
  · have hs3 : sd = false := by simpa using hs2
    subst hs3
    exact br_f (by rw [hX', hsd]; decide) step
theorem xh_c17 {post : SX → Prop} {i t s d c xi yi fr : Nat} {a b h hy : Int32} {f fy qx ox oy sd : Bool} {q : List (Int32 × Nat)} {R : List Tk} (hx : HA f_time a_partStage a_stageKind a_stageA a_stageB i t s 17 a b) (hS : RepA a_due a_count a_held a_heldY a_hasHeld a_hasHeldY a_queueSize a_queueIsOfX a_queueValue a_queueDue i (d, c, h, hy, f, fy, qx, q, ox, oy)) (ok : okS 17 b (d, c, h, hy, f, fy, qx, q, ox, oy)) (hT : f_tasks = nI R.length) (hR : rps a_taskWhat a_taskPart a_taskValue R) (hl : R.length + 2 ≤ 128) (hX : a_partX i = nI xi) (hY : a_partY i = nI yi) (hx27 : xi < 27) (hy27 : yi < 27) (hne : xi ≠ yi) (hfr : fr = if sd = true then xi else yi) (hph : a_phase (if sd = true then yi else xi) = 2 ↔ (if sd = true then oy else ox) = true) (H : ∀ u', Eff (f_time, f_sent, f_stageCount, f_tasks, a_sourceEnded, a_stageKind, a_stageA, a_stageB, a_stageParts, a_partStage, a_partUser, a_partX, a_partY, a_phase, a_beganAfter, a_due, a_count, a_held, a_heldY, a_hasHeld, a_hasHeldY, a_queueSize, a_queueIsOfX, a_queueValue, a_queueDue, a_subStatus, a_subCode, a_subEnd, a_subDemand, a_subRequests, a_subDelivered, a_subWaiting, a_waitValue, a_history, a_taskWhat, a_taskPart, a_taskValue) u' i (hc 17 b t sd (d, c, h, hy, f, fy, qx, q, ox, oy)).1 (hc 17 b t sd (d, c, h, hy, f, fy, qx, q, ox, oy)).2 R → post u') : wpX_hearComplete post (f_time, f_sent, f_stageCount, f_tasks, a_sourceEnded, a_stageKind, a_stageA, a_stageB, a_stageParts, a_partStage, a_partUser, a_partX, a_partY, a_phase, a_beganAfter, a_due, a_count, a_held, a_heldY, a_hasHeld, a_hasHeldY, a_queueSize, a_queueIsOfX, a_queueValue, a_queueDue, a_subStatus, a_subCode, a_subEnd, a_subDemand, a_subRequests, a_subDelivered, a_subWaiting, a_waitValue, a_history, a_taskWhat, a_taskPart, a_taskValue) (nI i) (nI fr) := by
  obtain ⟨h27, ht, ht2, hps, hs, hk, ha, hb, ho⟩ := hx
  have hS0 := hS
  obtain ⟨a1, a2, a3, a4, a5, a6, a7, a8, a9, a10⟩ := hS
  have hcl : (nI i).toNatClampNeg = i := nI_clamp (by omega)
  have hcs : (nI s).toNatClampNeg = s := nI_clamp (by omega)
  have hin : vp_in (nI i) 27 := vp_in_nI h27 (by decide)
  have his : vp_in (nI s) 12 := vp_in_nI hs (by decide)
  have hps' : a_partStage (nI i).toNatClampNeg = nI s := by rw [hcl]; exact hps
  have hX' : a_partX (nI i).toNatClampNeg = nI xi := by rw [hcl]; exact hX
  have hY' : a_partY (nI i).toNatClampNeg = nI yi := by rw [hcl]; exact hY
  have hsd := xh_side (i := i) hx27 hy27 hne hfr
  refine ⟨hin, nm_r (e' := nI s) hps' ⟨his, nm_r (e' := nI 17) (by rw [hcs]; exact hk) ?_⟩⟩
  iterate 10 (refine br_f (by decide) ?_)
  refine br_t rfl ?_
  have ho27 : (if sd = true then yi else xi) < 27 := by split <;> omega
  have hco : (nI (if sd = true then yi else xi)).toNatClampNeg = (if sd = true then yi else xi) := nI_clamp (by omega)
  have hoi : vp_in (nI (if sd = true then yi else xi)) 27 := vp_in_nI ho27 (by decide)
  have e1 : vp_in (a_partStage (nI i).toNatClampNeg) 12 := by rw [hps']; exact his
  have a8' : a_queueSize (nI i).toNatClampNeg = nI q.length := by rw [hcl]; exact a8
  have a5' : a_hasHeld (nI i).toNatClampNeg = bI f := by rw [hcl]; exact a5
  have a6' : a_hasHeldY (nI i).toNatClampNeg = bI fy := by rw [hcl]; exact a6
  have hrep : RepA a_due a_count a_held a_heldY a_hasHeld a_hasHeldY a_queueSize a_queueIsOfX a_queueValue a_queueDue i (hc 17 b t sd (d, c, h, hy, f, fy, qx, q, ox, oy)).1 := by cases sd <;> exact hS0
  have yes : (hc 17 b t sd (d, c, h, hy, f, fy, qx, q, ox, oy)).2 = [(2, 0)] → ((((1 : Int32) = 0 → (post (f_time, f_sent, f_stageCount, f_tasks, a_sourceEnded, a_stageKind, a_stageA, a_stageB, a_stageParts, a_partStage, a_partUser, a_partX, a_partY, a_phase, a_beganAfter, a_due, a_count, a_held, a_heldY, a_hasHeld, a_hasHeldY, a_queueSize, a_queueIsOfX, a_queueValue, a_queueDue, a_subStatus, a_subCode, a_subEnd, a_subDemand, a_subRequests, a_subDelivered, a_subWaiting, a_waitValue, a_history, a_taskWhat, a_taskPart, a_taskValue))) ∧ (¬ (1 : Int32) = 0 → (wpX_push (fun u => post u) (f_time, f_sent, f_stageCount, f_tasks, a_sourceEnded, a_stageKind, a_stageA, a_stageB, a_stageParts, a_partStage, a_partUser, a_partX, a_partY, a_phase, a_beganAfter, a_due, a_count, a_held, a_heldY, a_hasHeld, a_hasHeldY, a_queueSize, a_queueIsOfX, a_queueValue, a_queueDue, a_subStatus, a_subCode, a_subEnd, a_subDemand, a_subRequests, a_subDelivered, a_subWaiting, a_waitValue, a_history, a_taskWhat, a_taskPart, a_taskValue) 2 (nI i) 0)))) := by
    intro e
    rw [e] at H
    exact br_f (by decide) (xw_push hT (by omega) (H _ (xe_eff hrep (fun j hj S hS => hS) rfl (xd_rps_push (w := 2) hR))))
  have no : (hc 17 b t sd (d, c, h, hy, f, fy, qx, q, ox, oy)).2 = [] → ((((0 : Int32) = 0 → (post (f_time, f_sent, f_stageCount, f_tasks, a_sourceEnded, a_stageKind, a_stageA, a_stageB, a_stageParts, a_partStage, a_partUser, a_partX, a_partY, a_phase, a_beganAfter, a_due, a_count, a_held, a_heldY, a_hasHeld, a_hasHeldY, a_queueSize, a_queueIsOfX, a_queueValue, a_queueDue, a_subStatus, a_subCode, a_subEnd, a_subDemand, a_subRequests, a_subDelivered, a_subWaiting, a_waitValue, a_history, a_taskWhat, a_taskPart, a_taskValue))) ∧ (¬ (0 : Int32) = 0 → (wpX_push (fun u => post u) (f_time, f_sent, f_stageCount, f_tasks, a_sourceEnded, a_stageKind, a_stageA, a_stageB, a_stageParts, a_partStage, a_partUser, a_partX, a_partY, a_phase, a_beganAfter, a_due, a_count, a_held, a_heldY, a_hasHeld, a_hasHeldY, a_queueSize, a_queueIsOfX, a_queueValue, a_queueDue, a_subStatus, a_subCode, a_subEnd, a_subDemand, a_subRequests, a_subDelivered, a_subWaiting, a_waitValue, a_history, a_taskWhat, a_taskPart, a_taskValue) 2 (nI i) 0)))) := by
    intro e
    rw [e] at H
    exact br_t rfl (H _ (xe_eff hrep (fun j hj S hS => hS) hT hR))
  refine ⟨hin, ?_⟩
  have step : wX_endsWithSide_15 (fun r_177 => (((r_177 = 0 → (post (f_time, f_sent, f_stageCount, f_tasks, a_sourceEnded, a_stageKind, a_stageA, a_stageB, a_stageParts, a_partStage, a_partUser, a_partX, a_partY, a_phase, a_beganAfter, a_due, a_count, a_held, a_heldY, a_hasHeld, a_hasHeldY, a_queueSize, a_queueIsOfX, a_queueValue, a_queueDue, a_subStatus, a_subCode, a_subEnd, a_subDemand, a_subRequests, a_subDelivered, a_subWaiting, a_waitValue, a_history, a_taskWhat, a_taskPart, a_taskValue))) ∧ (¬ r_177 = 0 → (wpX_push (fun u => post u) (f_time, f_sent, f_stageCount, f_tasks, a_sourceEnded, a_stageKind, a_stageA, a_stageB, a_stageParts, a_partStage, a_partUser, a_partX, a_partY, a_phase, a_beganAfter, a_due, a_count, a_held, a_heldY, a_hasHeld, a_hasHeldY, a_queueSize, a_queueIsOfX, a_queueValue, a_queueDue, a_subStatus, a_subCode, a_subEnd, a_subDemand, a_subRequests, a_subDelivered, a_subWaiting, a_waitValue, a_history, a_taskWhat, a_taskPart, a_taskValue) 2 (nI i) 0))))) (nI i) (nI fr) (bI sd) f_time f_sent f_stageCount f_tasks a_sourceEnded a_stageKind a_stageA a_stageB a_stageParts a_partStage a_partUser a_partX a_partY a_phase a_beganAfter a_due a_count a_held a_heldY a_hasHeld a_hasHeldY a_queueSize a_queueIsOfX a_queueValue a_queueDue a_subStatus a_subCode a_subEnd a_subDemand a_subRequests a_subDelivered a_subWaiting a_waitValue a_history a_taskWhat a_taskPart a_taskValue := by
    refine xh_other h27 hX hY hx27 hy27 hne hfr ⟨hin, e1, nm_r (e' := nI 17) (by rw [hps', hcs]; exact hk) ?_⟩
    refine br_t rfl ⟨hin, ?_⟩
    have o7 := ok.2.2.2.2.2.2 rfl
    cases q with
    | nil => exact br_t (by rw [a8']; rfl) (yes (by simp [hc]))
    | cons x r =>
      have a7' : a_queueIsOfX (nI i).toNatClampNeg = bI qx := by rw [hcl]; exact a7 ⟨x, by simp, o7 x (by simp)⟩
      refine br_f (by rw [a8']; exact nI_ne0 (by simp) (by have : (x :: r).length ≤ 8 := a9; omega)) ⟨hin, ?_⟩
      by_cases hq : qx = sd
      · exact br_t (by rw [a7', hq]) (no (by simp [hc, hq]))
      · exact br_f (by rw [a7', xd_bI]; exact hq) (yes (by simp [hc, hq]))
  by_cases hs2 : sd = true
  · subst hs2
    exact br_t (by rw [hX', hsd]) step
  · have hs3 : sd = false := by simpa using hs2
    subst hs3
    exact br_f (by rw [hX', hsd]; decide) step
theorem xh_c18 {post : SX → Prop} {i t s d c xi yi fr : Nat} {a b h hy : Int32} {f fy qx ox oy sd : Bool} {q : List (Int32 × Nat)} {R : List Tk} (hx : HA f_time a_partStage a_stageKind a_stageA a_stageB i t s 18 a b) (hS : RepA a_due a_count a_held a_heldY a_hasHeld a_hasHeldY a_queueSize a_queueIsOfX a_queueValue a_queueDue i (d, c, h, hy, f, fy, qx, q, ox, oy)) (ok : okS 18 b (d, c, h, hy, f, fy, qx, q, ox, oy)) (hT : f_tasks = nI R.length) (hR : rps a_taskWhat a_taskPart a_taskValue R) (hl : R.length + 2 ≤ 128) (hX : a_partX i = nI xi) (hY : a_partY i = nI yi) (hx27 : xi < 27) (hy27 : yi < 27) (hne : xi ≠ yi) (hfr : fr = if sd = true then xi else yi) (hph : a_phase (if sd = true then yi else xi) = 2 ↔ (if sd = true then oy else ox) = true) (H : ∀ u', Eff (f_time, f_sent, f_stageCount, f_tasks, a_sourceEnded, a_stageKind, a_stageA, a_stageB, a_stageParts, a_partStage, a_partUser, a_partX, a_partY, a_phase, a_beganAfter, a_due, a_count, a_held, a_heldY, a_hasHeld, a_hasHeldY, a_queueSize, a_queueIsOfX, a_queueValue, a_queueDue, a_subStatus, a_subCode, a_subEnd, a_subDemand, a_subRequests, a_subDelivered, a_subWaiting, a_waitValue, a_history, a_taskWhat, a_taskPart, a_taskValue) u' i (hc 18 b t sd (d, c, h, hy, f, fy, qx, q, ox, oy)).1 (hc 18 b t sd (d, c, h, hy, f, fy, qx, q, ox, oy)).2 R → post u') : wpX_hearComplete post (f_time, f_sent, f_stageCount, f_tasks, a_sourceEnded, a_stageKind, a_stageA, a_stageB, a_stageParts, a_partStage, a_partUser, a_partX, a_partY, a_phase, a_beganAfter, a_due, a_count, a_held, a_heldY, a_hasHeld, a_hasHeldY, a_queueSize, a_queueIsOfX, a_queueValue, a_queueDue, a_subStatus, a_subCode, a_subEnd, a_subDemand, a_subRequests, a_subDelivered, a_subWaiting, a_waitValue, a_history, a_taskWhat, a_taskPart, a_taskValue) (nI i) (nI fr) := by
  obtain ⟨h27, ht, ht2, hps, hs, hk, ha, hb, ho⟩ := hx
  have hS0 := hS
  obtain ⟨a1, a2, a3, a4, a5, a6, a7, a8, a9, a10⟩ := hS
  have hcl : (nI i).toNatClampNeg = i := nI_clamp (by omega)
  have hcs : (nI s).toNatClampNeg = s := nI_clamp (by omega)
  have hin : vp_in (nI i) 27 := vp_in_nI h27 (by decide)
  have his : vp_in (nI s) 12 := vp_in_nI hs (by decide)
  have hps' : a_partStage (nI i).toNatClampNeg = nI s := by rw [hcl]; exact hps
  have hX' : a_partX (nI i).toNatClampNeg = nI xi := by rw [hcl]; exact hX
  have hY' : a_partY (nI i).toNatClampNeg = nI yi := by rw [hcl]; exact hY
  have hsd := xh_side (i := i) hx27 hy27 hne hfr
  refine ⟨hin, nm_r (e' := nI s) hps' ⟨his, nm_r (e' := nI 18) (by rw [hcs]; exact hk) ?_⟩⟩
  iterate 11 (refine br_f (by decide) ?_)
  refine br_t rfl ?_
  have ho27 : (if sd = true then yi else xi) < 27 := by split <;> omega
  have hco : (nI (if sd = true then yi else xi)).toNatClampNeg = (if sd = true then yi else xi) := nI_clamp (by omega)
  have hoi : vp_in (nI (if sd = true then yi else xi)) 27 := vp_in_nI ho27 (by decide)
  have e1 : vp_in (a_partStage (nI i).toNatClampNeg) 12 := by rw [hps']; exact his
  have a8' : a_queueSize (nI i).toNatClampNeg = nI q.length := by rw [hcl]; exact a8
  have a5' : a_hasHeld (nI i).toNatClampNeg = bI f := by rw [hcl]; exact a5
  have a6' : a_hasHeldY (nI i).toNatClampNeg = bI fy := by rw [hcl]; exact a6
  have hrep : RepA a_due a_count a_held a_heldY a_hasHeld a_hasHeldY a_queueSize a_queueIsOfX a_queueValue a_queueDue i (hc 18 b t sd (d, c, h, hy, f, fy, qx, q, ox, oy)).1 := by cases sd <;> exact hS0
  have yes : (hc 18 b t sd (d, c, h, hy, f, fy, qx, q, ox, oy)).2 = [(2, 0)] → ((((1 : Int32) = 0 → (post (f_time, f_sent, f_stageCount, f_tasks, a_sourceEnded, a_stageKind, a_stageA, a_stageB, a_stageParts, a_partStage, a_partUser, a_partX, a_partY, a_phase, a_beganAfter, a_due, a_count, a_held, a_heldY, a_hasHeld, a_hasHeldY, a_queueSize, a_queueIsOfX, a_queueValue, a_queueDue, a_subStatus, a_subCode, a_subEnd, a_subDemand, a_subRequests, a_subDelivered, a_subWaiting, a_waitValue, a_history, a_taskWhat, a_taskPart, a_taskValue))) ∧ (¬ (1 : Int32) = 0 → (wpX_push (fun u => post u) (f_time, f_sent, f_stageCount, f_tasks, a_sourceEnded, a_stageKind, a_stageA, a_stageB, a_stageParts, a_partStage, a_partUser, a_partX, a_partY, a_phase, a_beganAfter, a_due, a_count, a_held, a_heldY, a_hasHeld, a_hasHeldY, a_queueSize, a_queueIsOfX, a_queueValue, a_queueDue, a_subStatus, a_subCode, a_subEnd, a_subDemand, a_subRequests, a_subDelivered, a_subWaiting, a_waitValue, a_history, a_taskWhat, a_taskPart, a_taskValue) 2 (nI i) 0)))) := by
    intro e
    rw [e] at H
    exact br_f (by decide) (xw_push hT (by omega) (H _ (xe_eff hrep (fun j hj S hS => hS) rfl (xd_rps_push (w := 2) hR))))
  have no : (hc 18 b t sd (d, c, h, hy, f, fy, qx, q, ox, oy)).2 = [] → ((((0 : Int32) = 0 → (post (f_time, f_sent, f_stageCount, f_tasks, a_sourceEnded, a_stageKind, a_stageA, a_stageB, a_stageParts, a_partStage, a_partUser, a_partX, a_partY, a_phase, a_beganAfter, a_due, a_count, a_held, a_heldY, a_hasHeld, a_hasHeldY, a_queueSize, a_queueIsOfX, a_queueValue, a_queueDue, a_subStatus, a_subCode, a_subEnd, a_subDemand, a_subRequests, a_subDelivered, a_subWaiting, a_waitValue, a_history, a_taskWhat, a_taskPart, a_taskValue))) ∧ (¬ (0 : Int32) = 0 → (wpX_push (fun u => post u) (f_time, f_sent, f_stageCount, f_tasks, a_sourceEnded, a_stageKind, a_stageA, a_stageB, a_stageParts, a_partStage, a_partUser, a_partX, a_partY, a_phase, a_beganAfter, a_due, a_count, a_held, a_heldY, a_hasHeld, a_hasHeldY, a_queueSize, a_queueIsOfX, a_queueValue, a_queueDue, a_subStatus, a_subCode, a_subEnd, a_subDemand, a_subRequests, a_subDelivered, a_subWaiting, a_waitValue, a_history, a_taskWhat, a_taskPart, a_taskValue) 2 (nI i) 0)))) := by
    intro e
    rw [e] at H
    exact br_t rfl (H _ (xe_eff hrep (fun j hj S hS => hS) hT hR))
  refine ⟨hin, ?_⟩
  have step : wX_endsWithSide_15 (fun r_177 => (((r_177 = 0 → (post (f_time, f_sent, f_stageCount, f_tasks, a_sourceEnded, a_stageKind, a_stageA, a_stageB, a_stageParts, a_partStage, a_partUser, a_partX, a_partY, a_phase, a_beganAfter, a_due, a_count, a_held, a_heldY, a_hasHeld, a_hasHeldY, a_queueSize, a_queueIsOfX, a_queueValue, a_queueDue, a_subStatus, a_subCode, a_subEnd, a_subDemand, a_subRequests, a_subDelivered, a_subWaiting, a_waitValue, a_history, a_taskWhat, a_taskPart, a_taskValue))) ∧ (¬ r_177 = 0 → (wpX_push (fun u => post u) (f_time, f_sent, f_stageCount, f_tasks, a_sourceEnded, a_stageKind, a_stageA, a_stageB, a_stageParts, a_partStage, a_partUser, a_partX, a_partY, a_phase, a_beganAfter, a_due, a_count, a_held, a_heldY, a_hasHeld, a_hasHeldY, a_queueSize, a_queueIsOfX, a_queueValue, a_queueDue, a_subStatus, a_subCode, a_subEnd, a_subDemand, a_subRequests, a_subDelivered, a_subWaiting, a_waitValue, a_history, a_taskWhat, a_taskPart, a_taskValue) 2 (nI i) 0))))) (nI i) (nI fr) (bI sd) f_time f_sent f_stageCount f_tasks a_sourceEnded a_stageKind a_stageA a_stageB a_stageParts a_partStage a_partUser a_partX a_partY a_phase a_beganAfter a_due a_count a_held a_heldY a_hasHeld a_hasHeldY a_queueSize a_queueIsOfX a_queueValue a_queueDue a_subStatus a_subCode a_subEnd a_subDemand a_subRequests a_subDelivered a_subWaiting a_waitValue a_history a_taskWhat a_taskPart a_taskValue := by
    refine xh_other h27 hX hY hx27 hy27 hne hfr ⟨hin, e1, nm_r (e' := nI 18) (by rw [hps', hcs]; exact hk) ?_⟩
    refine br_f (by decide) (br_t rfl ⟨hoi, ?_⟩)
    by_cases hv : (if sd = true then oy else ox) = true
    · exact br_t (by rw [hco, hph]; exact hv) (yes (by cases sd <;> simp_all [hc]))
    · refine br_f (by rw [hco, hph]; exact hv) ?_
      cases sd
      · refine br_t rfl ⟨hin, ?_⟩
        by_cases hg : fy = false
        · exact br_t (by rw [a6', hg]; rfl) (yes (by simp [hc, hg]))
        · exact br_f (by rw [a6', xd_bI0]; exact hg) (no (by simp_all [hc]))
      · refine br_f (by decide) ⟨hin, ?_⟩
        by_cases hg : f = false
        · exact br_t (by rw [a5', hg]; rfl) (yes (by simp [hc, hg]))
        · exact br_f (by rw [a5', xd_bI0]; exact hg) (no (by simp_all [hc]))
  by_cases hs2 : sd = true
  · subst hs2
    exact br_t (by rw [hX', hsd]) step
  · have hs3 : sd = false := by simpa using hs2
    subst hs3
    exact br_f (by rw [hX', hsd]; decide) step
theorem xh_c19y {post : SX → Prop} {i t s d c xi yi fr : Nat} {a b h hy : Int32} {f fy qx ox oy : Bool} {q : List (Int32 × Nat)} {R : List Tk} (hx : HA f_time a_partStage a_stageKind a_stageA a_stageB i t s 19 a b) (hS : RepA a_due a_count a_held a_heldY a_hasHeld a_hasHeldY a_queueSize a_queueIsOfX a_queueValue a_queueDue i (d, c, h, hy, f, fy, qx, q, ox, oy)) (ok : okS 19 b (d, c, h, hy, f, fy, qx, q, ox, oy)) (hT : f_tasks = nI R.length) (hR : rps a_taskWhat a_taskPart a_taskValue R) (hl : R.length + 2 ≤ 128) (hX : a_partX i = nI xi) (hY : a_partY i = nI yi) (hx27 : xi < 27) (hy27 : yi < 27) (hne : xi ≠ yi) (hfr : fr = yi)  (H : ∀ u', Eff (f_time, f_sent, f_stageCount, f_tasks, a_sourceEnded, a_stageKind, a_stageA, a_stageB, a_stageParts, a_partStage, a_partUser, a_partX, a_partY, a_phase, a_beganAfter, a_due, a_count, a_held, a_heldY, a_hasHeld, a_hasHeldY, a_queueSize, a_queueIsOfX, a_queueValue, a_queueDue, a_subStatus, a_subCode, a_subEnd, a_subDemand, a_subRequests, a_subDelivered, a_subWaiting, a_waitValue, a_history, a_taskWhat, a_taskPart, a_taskValue) u' i (hc 19 b t false (d, c, h, hy, f, fy, qx, q, ox, oy)).1 (hc 19 b t false (d, c, h, hy, f, fy, qx, q, ox, oy)).2 R → post u') : wpX_hearComplete post (f_time, f_sent, f_stageCount, f_tasks, a_sourceEnded, a_stageKind, a_stageA, a_stageB, a_stageParts, a_partStage, a_partUser, a_partX, a_partY, a_phase, a_beganAfter, a_due, a_count, a_held, a_heldY, a_hasHeld, a_hasHeldY, a_queueSize, a_queueIsOfX, a_queueValue, a_queueDue, a_subStatus, a_subCode, a_subEnd, a_subDemand, a_subRequests, a_subDelivered, a_subWaiting, a_waitValue, a_history, a_taskWhat, a_taskPart, a_taskValue) (nI i) (nI fr) := by
  obtain ⟨h27, ht, ht2, hps, hs, hk, ha, hb, ho⟩ := hx
  have hS0 := hS
  obtain ⟨a1, a2, a3, a4, a5, a6, a7, a8, a9, a10⟩ := hS
  have hcl : (nI i).toNatClampNeg = i := nI_clamp (by omega)
  have hcs : (nI s).toNatClampNeg = s := nI_clamp (by omega)
  have hin : vp_in (nI i) 27 := vp_in_nI h27 (by decide)
  have his : vp_in (nI s) 12 := vp_in_nI hs (by decide)
  have hps' : a_partStage (nI i).toNatClampNeg = nI s := by rw [hcl]; exact hps
  have hX' : a_partX (nI i).toNatClampNeg = nI xi := by rw [hcl]; exact hX
  refine ⟨hin, nm_r (e' := nI s) hps' ⟨his, nm_r (e' := nI 19) (by rw [hcs]; exact hk) ?_⟩⟩
  iterate 12 (refine br_f (by decide) ?_)
  refine br_t rfl ⟨hin, br_f (by rw [hX', hfr, nI_eq (by omega) (by omega)]; omega) ?_⟩
  exact xw_push hT (by omega) (H _ (xe_eff hS0 (fun j hj S hS => hS) rfl (xd_rps_push (w := 2) hR)))
theorem xh_c19x {post : SX → Prop} {i t s d c xi yi fr : Nat} {a b h hy : Int32} {f fy qx ox oy : Bool} {q : List (Int32 × Nat)} {R : List Tk} (hx : HA f_time a_partStage a_stageKind a_stageA a_stageB i t s 19 a b) (hS : RepA a_due a_count a_held a_heldY a_hasHeld a_hasHeldY a_queueSize a_queueIsOfX a_queueValue a_queueDue i (d, c, h, hy, f, fy, qx, q, ox, oy)) (ok : okS 19 b (d, c, h, hy, f, fy, qx, q, ox, oy)) (hT : f_tasks = nI R.length) (hR : rps a_taskWhat a_taskPart a_taskValue R) (hl : R.length + 2 ≤ 128) (hX : a_partX i = nI xi) (hY : a_partY i = nI yi) (hx27 : xi < 27) (hy27 : yi < 27) (hne : xi ≠ yi) (hfr : fr = xi)  (H : ∀ u', Eff (f_time, f_sent, f_stageCount, f_tasks, a_sourceEnded, a_stageKind, a_stageA, a_stageB, a_stageParts, a_partStage, a_partUser, a_partX, a_partY, a_phase, a_beganAfter, a_due, a_count, a_held, a_heldY, a_hasHeld, a_hasHeldY, a_queueSize, a_queueIsOfX, a_queueValue, a_queueDue, a_subStatus, a_subCode, a_subEnd, a_subDemand, a_subRequests, a_subDelivered, a_subWaiting, a_waitValue, a_history, a_taskWhat, a_taskPart, a_taskValue) u' i (hc 19 b t true (d, c, h, hy, f, fy, qx, q, ox, oy)).1 [] ((0, yi, 0) :: R) → post u') : wpX_hearComplete post (f_time, f_sent, f_stageCount, f_tasks, a_sourceEnded, a_stageKind, a_stageA, a_stageB, a_stageParts, a_partStage, a_partUser, a_partX, a_partY, a_phase, a_beganAfter, a_due, a_count, a_held, a_heldY, a_hasHeld, a_hasHeldY, a_queueSize, a_queueIsOfX, a_queueValue, a_queueDue, a_subStatus, a_subCode, a_subEnd, a_subDemand, a_subRequests, a_subDelivered, a_subWaiting, a_waitValue, a_history, a_taskWhat, a_taskPart, a_taskValue) (nI i) (nI fr) := by
  obtain ⟨h27, ht, ht2, hps, hs, hk, ha, hb, ho⟩ := hx
  have hS0 := hS
  obtain ⟨a1, a2, a3, a4, a5, a6, a7, a8, a9, a10⟩ := hS
  have hcl : (nI i).toNatClampNeg = i := nI_clamp (by omega)
  have hcs : (nI s).toNatClampNeg = s := nI_clamp (by omega)
  have hin : vp_in (nI i) 27 := vp_in_nI h27 (by decide)
  have his : vp_in (nI s) 12 := vp_in_nI hs (by decide)
  have hps' : a_partStage (nI i).toNatClampNeg = nI s := by rw [hcl]; exact hps
  have hX' : a_partX (nI i).toNatClampNeg = nI xi := by rw [hcl]; exact hX
  have hY' : a_partY (nI i).toNatClampNeg = nI yi := by rw [hcl]; exact hY
  refine ⟨hin, nm_r (e' := nI s) hps' ⟨his, nm_r (e' := nI 19) (by rw [hcs]; exact hk) ?_⟩⟩
  iterate 12 (refine br_f (by decide) ?_)
  refine br_t rfl ⟨hin, br_t (by rw [hX', hfr]) ⟨hin, ?_⟩⟩
  rw [hY']
  exact xw_push hT (by omega) (H _ (xe_eff hS0 (fun j hj S hS => hS) rfl (xd_rps_push (w := 0) hR)))
theorem xh_e {post : SX → Prop} {i t s d c : Nat} {a b v fr h hy : Int32} {f fy qx ox oy sd : Bool} {q : List (Int32 × Nat)} {R : List Tk} {k : Nat} (hx : HA f_time a_partStage a_stageKind a_stageA a_stageB i t s k a b) (hk20 : k ≠ 20) (hS : RepA a_due a_count a_held a_heldY a_hasHeld a_hasHeldY a_queueSize a_queueIsOfX a_queueValue a_queueDue i (d, c, h, hy, f, fy, qx, q, ox, oy)) (hT : f_tasks = nI R.length) (hR : rps a_taskWhat a_taskPart a_taskValue R) (hl : R.length + 2 ≤ 128) (H : ∀ u', Eff (f_time, f_sent, f_stageCount, f_tasks, a_sourceEnded, a_stageKind, a_stageA, a_stageB, a_stageParts, a_partStage, a_partUser, a_partX, a_partY, a_phase, a_beganAfter, a_due, a_count, a_held, a_heldY, a_hasHeld, a_hasHeldY, a_queueSize, a_queueIsOfX, a_queueValue, a_queueDue, a_subStatus, a_subCode, a_subEnd, a_subDemand, a_subRequests, a_subDelivered, a_subWaiting, a_waitValue, a_history, a_taskWhat, a_taskPart, a_taskValue) u' i (he k sd v (d, c, h, hy, f, fy, qx, q, ox, oy)).1 (he k sd v (d, c, h, hy, f, fy, qx, q, ox, oy)).2 R → post u') : wpX_hearError post (f_time, f_sent, f_stageCount, f_tasks, a_sourceEnded, a_stageKind, a_stageA, a_stageB, a_stageParts, a_partStage, a_partUser, a_partX, a_partY, a_phase, a_beganAfter, a_due, a_count, a_held, a_heldY, a_hasHeld, a_hasHeldY, a_queueSize, a_queueIsOfX, a_queueValue, a_queueDue, a_subStatus, a_subCode, a_subEnd, a_subDemand, a_subRequests, a_subDelivered, a_subWaiting, a_waitValue, a_history, a_taskWhat, a_taskPart, a_taskValue) (nI i) fr v := by
  obtain ⟨h27, ht, ht2, hps, hs, hk, ha, hb, ho⟩ := hx
  have hS0 := hS
  obtain ⟨a1, a2, a3, a4, a5, a6, a7, a8, a9, a10⟩ := hS
  have hcl : (nI i).toNatClampNeg = i := nI_clamp (by omega)
  have hcs : (nI s).toNatClampNeg = s := nI_clamp (by omega)
  have hin : vp_in (nI i) 27 := vp_in_nI h27 (by decide)
  have his : vp_in (nI s) 12 := vp_in_nI hs (by decide)
  have hps' : a_partStage (nI i).toNatClampNeg = nI s := by rw [hcl]; exact hps
  have e1 : vp_in (a_partStage (nI i).toNatClampNeg) 12 := by rw [hps']; exact his
  have eh : he k sd v (d, c, h, hy, f, fy, qx, q, ox, oy) = ((d, c, h, hy, f, fy, qx, q, ox, oy), [(3, v)]) := by simp [he, hk20]
  rw [eh] at H
  refine ⟨hin, e1, br_f (by rw [hps', hcs]; intro z; have z2 := hk.symm.trans z; rw [show (20 : Int32) = nI 20 from rfl, nI_eq (by have := ho.1; omega) (by decide)] at z2; exact hk20 z2) ?_⟩
  exact xw_push hT (by omega) (H _ (xe_eff hS0 (fun j hj S hS => hS) rfl (xd_rps_push (w := 3) hR)))
theorem xh_e20y {post : SX → Prop} {i t s d c xi yi fr : Nat} {a b v h hy : Int32} {f fy qx ox oy : Bool} {q : List (Int32 × Nat)} {R : List Tk} (hx : HA f_time a_partStage a_stageKind a_stageA a_stageB i t s 20 a b) (hS : RepA a_due a_count a_held a_heldY a_hasHeld a_hasHeldY a_queueSize a_queueIsOfX a_queueValue a_queueDue i (d, c, h, hy, f, fy, qx, q, ox, oy)) (hT : f_tasks = nI R.length) (hR : rps a_taskWhat a_taskPart a_taskValue R) (hl : R.length + 2 ≤ 128) (hX : a_partX i = nI xi) (hY : a_partY i = nI yi) (hx27 : xi < 27) (hy27 : yi < 27) (hne : xi ≠ yi) (hfr : fr = yi) (H : ∀ u', Eff (f_time, f_sent, f_stageCount, f_tasks, a_sourceEnded, a_stageKind, a_stageA, a_stageB, a_stageParts, a_partStage, a_partUser, a_partX, a_partY, a_phase, a_beganAfter, a_due, a_count, a_held, a_heldY, a_hasHeld, a_hasHeldY, a_queueSize, a_queueIsOfX, a_queueValue, a_queueDue, a_subStatus, a_subCode, a_subEnd, a_subDemand, a_subRequests, a_subDelivered, a_subWaiting, a_waitValue, a_history, a_taskWhat, a_taskPart, a_taskValue) u' i (he 20 false v (d, c, h, hy, f, fy, qx, q, ox, oy)).1 (he 20 false v (d, c, h, hy, f, fy, qx, q, ox, oy)).2 R → post u') : wpX_hearError post (f_time, f_sent, f_stageCount, f_tasks, a_sourceEnded, a_stageKind, a_stageA, a_stageB, a_stageParts, a_partStage, a_partUser, a_partX, a_partY, a_phase, a_beganAfter, a_due, a_count, a_held, a_heldY, a_hasHeld, a_hasHeldY, a_queueSize, a_queueIsOfX, a_queueValue, a_queueDue, a_subStatus, a_subCode, a_subEnd, a_subDemand, a_subRequests, a_subDelivered, a_subWaiting, a_waitValue, a_history, a_taskWhat, a_taskPart, a_taskValue) (nI i) (nI fr) v := by
  obtain ⟨h27, ht, ht2, hps, hs, hk, ha, hb, ho⟩ := hx
  have hS0 := hS
  obtain ⟨a1, a2, a3, a4, a5, a6, a7, a8, a9, a10⟩ := hS
  have hcl : (nI i).toNatClampNeg = i := nI_clamp (by omega)
  have hcs : (nI s).toNatClampNeg = s := nI_clamp (by omega)
  have hin : vp_in (nI i) 27 := vp_in_nI h27 (by decide)
  have his : vp_in (nI s) 12 := vp_in_nI hs (by decide)
  have hps' : a_partStage (nI i).toNatClampNeg = nI s := by rw [hcl]; exact hps
  have hX' : a_partX (nI i).toNatClampNeg = nI xi := by rw [hcl]; exact hX
  have e1 : vp_in (a_partStage (nI i).toNatClampNeg) 12 := by rw [hps']; exact his
  refine ⟨hin, e1, br_t (by rw [hps', hcs]; exact hk) ⟨hin, br_f (by rw [hX', hfr, nI_eq (by omega) (by omega)]; omega) ?_⟩⟩
  exact xw_push hT (by omega) (H _ (xe_eff hS0 (fun j hj S hS => hS) rfl (xd_rps_push (w := 3) hR)))
theorem xh_e20x {post : SX → Prop} {i t s d c xi yi fr : Nat} {a b v h hy : Int32} {f fy qx ox oy : Bool} {q : List (Int32 × Nat)} {R : List Tk} (hx : HA f_time a_partStage a_stageKind a_stageA a_stageB i t s 20 a b) (hS : RepA a_due a_count a_held a_heldY a_hasHeld a_hasHeldY a_queueSize a_queueIsOfX a_queueValue a_queueDue i (d, c, h, hy, f, fy, qx, q, ox, oy)) (hT : f_tasks = nI R.length) (hR : rps a_taskWhat a_taskPart a_taskValue R) (hl : R.length + 2 ≤ 128) (hX : a_partX i = nI xi) (hY : a_partY i = nI yi) (hx27 : xi < 27) (hy27 : yi < 27) (hne : xi ≠ yi) (hfr : fr = xi) (H : ∀ u', Eff (f_time, f_sent, f_stageCount, f_tasks, a_sourceEnded, a_stageKind, a_stageA, a_stageB, a_stageParts, a_partStage, a_partUser, a_partX, a_partY, a_phase, a_beganAfter, a_due, a_count, a_held, a_heldY, a_hasHeld, a_hasHeldY, a_queueSize, a_queueIsOfX, a_queueValue, a_queueDue, a_subStatus, a_subCode, a_subEnd, a_subDemand, a_subRequests, a_subDelivered, a_subWaiting, a_waitValue, a_history, a_taskWhat, a_taskPart, a_taskValue) u' i (he 20 true v (d, c, h, hy, f, fy, qx, q, ox, oy)).1 [] ((0, yi, 0) :: R) → post u') : wpX_hearError post (f_time, f_sent, f_stageCount, f_tasks, a_sourceEnded, a_stageKind, a_stageA, a_stageB, a_stageParts, a_partStage, a_partUser, a_partX, a_partY, a_phase, a_beganAfter, a_due, a_count, a_held, a_heldY, a_hasHeld, a_hasHeldY, a_queueSize, a_queueIsOfX, a_queueValue, a_queueDue, a_subStatus, a_subCode, a_subEnd, a_subDemand, a_subRequests, a_subDelivered, a_subWaiting, a_waitValue, a_history, a_taskWhat, a_taskPart, a_taskValue) (nI i) (nI fr) v := by
  obtain ⟨h27, ht, ht2, hps, hs, hk, ha, hb, ho⟩ := hx
  have hS0 := hS
  obtain ⟨a1, a2, a3, a4, a5, a6, a7, a8, a9, a10⟩ := hS
  have hcl : (nI i).toNatClampNeg = i := nI_clamp (by omega)
  have hcs : (nI s).toNatClampNeg = s := nI_clamp (by omega)
  have hin : vp_in (nI i) 27 := vp_in_nI h27 (by decide)
  have his : vp_in (nI s) 12 := vp_in_nI hs (by decide)
  have hps' : a_partStage (nI i).toNatClampNeg = nI s := by rw [hcl]; exact hps
  have hX' : a_partX (nI i).toNatClampNeg = nI xi := by rw [hcl]; exact hX
  have hY' : a_partY (nI i).toNatClampNeg = nI yi := by rw [hcl]; exact hY
  have e1 : vp_in (a_partStage (nI i).toNatClampNeg) 12 := by rw [hps']; exact his
  refine ⟨hin, e1, br_t (by rw [hps', hcs]; exact hk) ⟨hin, br_t (by rw [hX', hfr]) ⟨hin, ?_⟩⟩⟩
  rw [hY']
  exact xw_push hT (by omega) (H _ (xe_eff hS0 (fun j hj S hS => hS) rfl (xd_rps_push (w := 0) hR)))
end
end
section
/-! ===== beginPart, fireTimer ===== -/
def begs (k i xi yi : Nat) (a : Int32) : List Tk := if k < 2 then [] else if k = 2 then [(1, i, a), (2, i, 0)] else if 16 ≤ k ∧ k < 19 then [(0, xi, 0), (0, yi, 0)] else [(0, xi, 0)]
def EffB (u u' : SX) (i : Nat) (S' : PSt) (L R : List Tk) : Prop :=
  x_st2 u' = x_st2 u ∧ x_sub u' = x_sub u ∧ x_phase u' = upd (x_phase u) i 1 ∧ x_beganAfter u' = upd (x_beganAfter u) i (x_sent u) ∧ RepP u' i S' ∧ (∀ j, j ≠ i → ∀ S, RepP u j S → RepP u' j S) ∧ RepS u' (L ++ R)
def clr : PSt := (0, 0, 0, 0, false, false, false, [], false, false)
section
variable {f_time : Int32} {f_sent : Int32} {f_stageCount : Int32} {f_tasks : Int32} {a_sourceEnded : (Nat → Int32)} {a_stageKind : (Nat → Int32)} {a_stageA : (Nat → Int32)} {a_stageB : (Nat → Int32)} {a_stageParts : (Nat → Int32)} {a_partStage : (Nat → Int32)} {a_partUser : (Nat → Int32)} {a_partX : (Nat → Int32)} {a_partY : (Nat → Int32)} {a_phase : (Nat → Int32)} {a_beganAfter : (Nat → Int32)} {a_due : (Nat → Int32)} {a_count : (Nat → Int32)} {a_held : (Nat → Int32)} {a_heldY : (Nat → Int32)} {a_hasHeld : (Nat → Int32)} {a_hasHeldY : (Nat → Int32)} {a_queueSize : (Nat → Int32)} {a_queueIsOfX : (Nat → Int32)} {a_queueValue : (Nat → Int32)} {a_queueDue : (Nat → Int32)} {a_subStatus : (Nat → Int32)} {a_subCode : (Nat → Int32)} {a_subEnd : (Nat → Int32)} {a_subDemand : (Nat → Int64)} {a_subRequests : (Nat → Int32)} {a_subDelivered : (Nat → Int32)} {a_subWaiting : (Nat → Int32)} {a_waitValue : (Nat → Int32)} {a_history : (Nat → Int64)} {a_taskWhat : (Nat → Int32)} {a_taskPart : (Nat → Int32)} {a_taskValue : (Nat → Int32)}
theorem xe_effB {i : Nat} {S' : PSt} {L R : List Tk} {tk' : Int32} {ph' ba' du' co' he' hY' hH' hHY' qs' qo' qv' qd' tw' tp' tv' : Nat → Int32} (hp : ph' = upd a_phase i 1) (hb : ba' = upd a_beganAfter i f_sent) (h1 : RepA du' co' he' hY' hH' hHY' qs' qo' qv' qd' i S') (h2 : ∀ j, j ≠ i → ∀ S, RepA a_due a_count a_held a_heldY a_hasHeld a_hasHeldY a_queueSize a_queueIsOfX a_queueValue a_queueDue j S → RepA du' co' he' hY' hH' hHY' qs' qo' qv' qd' j S) (h3 : tk' = nI (L ++ R).length) (h4 : rps tw' tp' tv' (L ++ R)) :
    EffB (f_time, f_sent, f_stageCount, f_tasks, a_sourceEnded, a_stageKind, a_stageA, a_stageB, a_stageParts, a_partStage, a_partUser, a_partX, a_partY, a_phase, a_beganAfter, a_due, a_count, a_held, a_heldY, a_hasHeld, a_hasHeldY, a_queueSize, a_queueIsOfX, a_queueValue, a_queueDue, a_subStatus, a_subCode, a_subEnd, a_subDemand, a_subRequests, a_subDelivered, a_subWaiting, a_waitValue, a_history, a_taskWhat, a_taskPart, a_taskValue) (f_time, f_sent, f_stageCount, tk', a_sourceEnded, a_stageKind, a_stageA, a_stageB, a_stageParts, a_partStage, a_partUser, a_partX, a_partY, ph', ba', du', co', he', hY', hH', hHY', qs', qo', qv', qd', a_subStatus, a_subCode, a_subEnd, a_subDemand, a_subRequests, a_subDelivered, a_subWaiting, a_waitValue, a_history, tw', tp', tv') i S' L R := ⟨xe_st2.trans xe_st2.symm, xe_sub.trans xe_sub.symm, hp, hb, h1, h2, h3, h4⟩
theorem xb_0 {post : SX → Prop} {i t s xi yi : Nat} {a b : Int32} {R : List Tk} (hx : HA f_time a_partStage a_stageKind a_stageA a_stageB i t s 0 a b) (hS : RepA a_due a_count a_held a_heldY a_hasHeld a_hasHeldY a_queueSize a_queueIsOfX a_queueValue a_queueDue i clr) (hT : f_tasks = nI R.length) (hR : rps a_taskWhat a_taskPart a_taskValue R) (hl : R.length + 2 ≤ 128) (hX : 3 ≤ 0 → a_partX i = nI xi) (hY : 16 ≤ 0 → a_partY i = nI yi) (H : ∀ u', EffB (f_time, f_sent, f_stageCount, f_tasks, a_sourceEnded, a_stageKind, a_stageA, a_stageB, a_stageParts, a_partStage, a_partUser, a_partX, a_partY, a_phase, a_beganAfter, a_due, a_count, a_held, a_heldY, a_hasHeld, a_hasHeldY, a_queueSize, a_queueIsOfX, a_queueValue, a_queueDue, a_subStatus, a_subCode, a_subEnd, a_subDemand, a_subRequests, a_subDelivered, a_subWaiting, a_waitValue, a_history, a_taskWhat, a_taskPart, a_taskValue) u' i (ini 0 a b t) (begs 0 i xi yi a) R → post u') : wpX_beginPart post (f_time, f_sent, f_stageCount, f_tasks, a_sourceEnded, a_stageKind, a_stageA, a_stageB, a_stageParts, a_partStage, a_partUser, a_partX, a_partY, a_phase, a_beganAfter, a_due, a_count, a_held, a_heldY, a_hasHeld, a_hasHeldY, a_queueSize, a_queueIsOfX, a_queueValue, a_queueDue, a_subStatus, a_subCode, a_subEnd, a_subDemand, a_subRequests, a_subDelivered, a_subWaiting, a_waitValue, a_history, a_taskWhat, a_taskPart, a_taskValue) (nI i) := by
  obtain ⟨h27, ht, ht2, hps, hs, hk, ha, hb, ho⟩ := hx
  have hS0 := hS
  obtain ⟨a1, a2, a3, a4, a5, a6, a7, a8, a9, a10⟩ := hS
  have hcl : (nI i).toNatClampNeg = i := nI_clamp (by omega)
  have hcs : (nI s).toNatClampNeg = s := nI_clamp (by omega)
  have hin : vp_in (nI i) 27 := vp_in_nI h27 (by decide)
  have his : vp_in (nI s) 12 := vp_in_nI hs (by decide)
  have hps' : a_partStage (nI i).toNatClampNeg = nI s := by rw [hcl]; exact hps
  refine ⟨hin, nm_r (e' := nI s) hps' ⟨hin, nm_r (e' := upd a_phase i 1) (by rw [hcl]) ⟨hin, nm_r (e' := upd a_beganAfter i f_sent) (by rw [hcl]) ⟨his, nm_r (e' := nI 0) (by rw [hcs]; exact hk) (br_f (by decide) ?_)⟩⟩⟩⟩
  refine br_f (by decide) ?_
  refine br_t rfl ?_
  exact H _ (xe_effB rfl rfl hS0 (fun j hj S hS => hS) hT hR)
theorem xb_1 {post : SX → Prop} {i t s xi yi : Nat} {a b : Int32} {R : List Tk} (hx : HA f_time a_partStage a_stageKind a_stageA a_stageB i t s 1 a b) (hS : RepA a_due a_count a_held a_heldY a_hasHeld a_hasHeldY a_queueSize a_queueIsOfX a_queueValue a_queueDue i clr) (hT : f_tasks = nI R.length) (hR : rps a_taskWhat a_taskPart a_taskValue R) (hl : R.length + 2 ≤ 128) (hX : 3 ≤ 1 → a_partX i = nI xi) (hY : 16 ≤ 1 → a_partY i = nI yi) (H : ∀ u', EffB (f_time, f_sent, f_stageCount, f_tasks, a_sourceEnded, a_stageKind, a_stageA, a_stageB, a_stageParts, a_partStage, a_partUser, a_partX, a_partY, a_phase, a_beganAfter, a_due, a_count, a_held, a_heldY, a_hasHeld, a_hasHeldY, a_queueSize, a_queueIsOfX, a_queueValue, a_queueDue, a_subStatus, a_subCode, a_subEnd, a_subDemand, a_subRequests, a_subDelivered, a_subWaiting, a_waitValue, a_history, a_taskWhat, a_taskPart, a_taskValue) u' i (ini 1 a b t) (begs 1 i xi yi a) R → post u') : wpX_beginPart post (f_time, f_sent, f_stageCount, f_tasks, a_sourceEnded, a_stageKind, a_stageA, a_stageB, a_stageParts, a_partStage, a_partUser, a_partX, a_partY, a_phase, a_beganAfter, a_due, a_count, a_held, a_heldY, a_hasHeld, a_hasHeldY, a_queueSize, a_queueIsOfX, a_queueValue, a_queueDue, a_subStatus, a_subCode, a_subEnd, a_subDemand, a_subRequests, a_subDelivered, a_subWaiting, a_waitValue, a_history, a_taskWhat, a_taskPart, a_taskValue) (nI i) := by
  obtain ⟨h27, ht, ht2, hps, hs, hk, ha, hb, ho⟩ := hx
  have hS0 := hS
  obtain ⟨a1, a2, a3, a4, a5, a6, a7, a8, a9, a10⟩ := hS
  have hcl : (nI i).toNatClampNeg = i := nI_clamp (by omega)
  have hcs : (nI s).toNatClampNeg = s := nI_clamp (by omega)
  have hin : vp_in (nI i) 27 := vp_in_nI h27 (by decide)
  have his : vp_in (nI s) 12 := vp_in_nI hs (by decide)
  have hps' : a_partStage (nI i).toNatClampNeg = nI s := by rw [hcl]; exact hps
  refine ⟨hin, nm_r (e' := nI s) hps' ⟨hin, nm_r (e' := upd a_phase i 1) (by rw [hcl]) ⟨hin, nm_r (e' := upd a_beganAfter i f_sent) (by rw [hcl]) ⟨his, nm_r (e' := nI 1) (by rw [hcs]; exact hk) (br_f (by decide) ?_)⟩⟩⟩⟩
  refine br_f (by decide) ?_
  iterate 1 (refine br_f (by decide) ?_)
  refine br_t rfl ?_
  have ho1 := ho.2.2.1 rfl
  have ht' : f_time = nI t := ht
  have ed : f_time + a_stageA (nI s).toNatClampNeg = dI (t + cl a) := by rw [ht', hcs, xd_dIp (by omega), ← nI_add, ← ho1.2.2]; exact congrArg _ ha
  refine ⟨his, hin, nm_r (e' := upd a_due i (dI (t + cl a))) (by rw [ed, hcl]) ?_⟩
  exact H _ (xe_effB rfl rfl ⟨pk_us, a2, a3, a4, a5, a6, a7, a8, a9, a10⟩ (fun j hj S hS => xd_frame hS (pk_un hj) rfl rfl rfl rfl rfl rfl rfl (fun r hr => ⟨rfl, rfl⟩)) hT hR)
theorem xb_2 {post : SX → Prop} {i t s xi yi : Nat} {a b : Int32} {R : List Tk} (hx : HA f_time a_partStage a_stageKind a_stageA a_stageB i t s 2 a b) (hS : RepA a_due a_count a_held a_heldY a_hasHeld a_hasHeldY a_queueSize a_queueIsOfX a_queueValue a_queueDue i clr) (hT : f_tasks = nI R.length) (hR : rps a_taskWhat a_taskPart a_taskValue R) (hl : R.length + 2 ≤ 128) (hX : 3 ≤ 2 → a_partX i = nI xi) (hY : 16 ≤ 2 → a_partY i = nI yi) (H : ∀ u', EffB (f_time, f_sent, f_stageCount, f_tasks, a_sourceEnded, a_stageKind, a_stageA, a_stageB, a_stageParts, a_partStage, a_partUser, a_partX, a_partY, a_phase, a_beganAfter, a_due, a_count, a_held, a_heldY, a_hasHeld, a_hasHeldY, a_queueSize, a_queueIsOfX, a_queueValue, a_queueDue, a_subStatus, a_subCode, a_subEnd, a_subDemand, a_subRequests, a_subDelivered, a_subWaiting, a_waitValue, a_history, a_taskWhat, a_taskPart, a_taskValue) u' i (ini 2 a b t) (begs 2 i xi yi a) R → post u') : wpX_beginPart post (f_time, f_sent, f_stageCount, f_tasks, a_sourceEnded, a_stageKind, a_stageA, a_stageB, a_stageParts, a_partStage, a_partUser, a_partX, a_partY, a_phase, a_beganAfter, a_due, a_count, a_held, a_heldY, a_hasHeld, a_hasHeldY, a_queueSize, a_queueIsOfX, a_queueValue, a_queueDue, a_subStatus, a_subCode, a_subEnd, a_subDemand, a_subRequests, a_subDelivered, a_subWaiting, a_waitValue, a_history, a_taskWhat, a_taskPart, a_taskValue) (nI i) := by
  obtain ⟨h27, ht, ht2, hps, hs, hk, ha, hb, ho⟩ := hx
  have hS0 := hS
  obtain ⟨a1, a2, a3, a4, a5, a6, a7, a8, a9, a10⟩ := hS
  have hcl : (nI i).toNatClampNeg = i := nI_clamp (by omega)
  have hcs : (nI s).toNatClampNeg = s := nI_clamp (by omega)
  have hin : vp_in (nI i) 27 := vp_in_nI h27 (by decide)
  have his : vp_in (nI s) 12 := vp_in_nI hs (by decide)
  have hps' : a_partStage (nI i).toNatClampNeg = nI s := by rw [hcl]; exact hps
  refine ⟨hin, nm_r (e' := nI s) hps' ⟨hin, nm_r (e' := upd a_phase i 1) (by rw [hcl]) ⟨hin, nm_r (e' := upd a_beganAfter i f_sent) (by rw [hcl]) ⟨his, nm_r (e' := nI 2) (by rw [hcs]; exact hk) (br_f (by decide) ?_)⟩⟩⟩⟩
  refine br_f (by decide) ?_
  iterate 2 (refine br_f (by decide) ?_)
  refine br_t rfl ?_
  refine xw_push hT (by omega) ⟨his, ?_⟩
  rw [show a_stageA (nI s).toNatClampNeg = a from by rw [hcs]; exact ha]
  exact xw_push rfl (by omega) (H _ (xe_effB rfl rfl hS0 (fun j hj S hS => hS) rfl (xd_rps_push (w := 1) (R := (2, i, 0) :: R) (xd_rps_push (w := 2) hR))))
theorem xb_3 {post : SX → Prop} {i t s xi yi : Nat} {a b : Int32} {R : List Tk} (hx : HA f_time a_partStage a_stageKind a_stageA a_stageB i t s 3 a b) (hS : RepA a_due a_count a_held a_heldY a_hasHeld a_hasHeldY a_queueSize a_queueIsOfX a_queueValue a_queueDue i clr) (hT : f_tasks = nI R.length) (hR : rps a_taskWhat a_taskPart a_taskValue R) (hl : R.length + 2 ≤ 128) (hX : 3 ≤ 3 → a_partX i = nI xi) (hY : 16 ≤ 3 → a_partY i = nI yi) (H : ∀ u', EffB (f_time, f_sent, f_stageCount, f_tasks, a_sourceEnded, a_stageKind, a_stageA, a_stageB, a_stageParts, a_partStage, a_partUser, a_partX, a_partY, a_phase, a_beganAfter, a_due, a_count, a_held, a_heldY, a_hasHeld, a_hasHeldY, a_queueSize, a_queueIsOfX, a_queueValue, a_queueDue, a_subStatus, a_subCode, a_subEnd, a_subDemand, a_subRequests, a_subDelivered, a_subWaiting, a_waitValue, a_history, a_taskWhat, a_taskPart, a_taskValue) u' i (ini 3 a b t) (begs 3 i xi yi a) R → post u') : wpX_beginPart post (f_time, f_sent, f_stageCount, f_tasks, a_sourceEnded, a_stageKind, a_stageA, a_stageB, a_stageParts, a_partStage, a_partUser, a_partX, a_partY, a_phase, a_beganAfter, a_due, a_count, a_held, a_heldY, a_hasHeld, a_hasHeldY, a_queueSize, a_queueIsOfX, a_queueValue, a_queueDue, a_subStatus, a_subCode, a_subEnd, a_subDemand, a_subRequests, a_subDelivered, a_subWaiting, a_waitValue, a_history, a_taskWhat, a_taskPart, a_taskValue) (nI i) := by
  obtain ⟨h27, ht, ht2, hps, hs, hk, ha, hb, ho⟩ := hx
  have hS0 := hS
  obtain ⟨a1, a2, a3, a4, a5, a6, a7, a8, a9, a10⟩ := hS
  have hcl : (nI i).toNatClampNeg = i := nI_clamp (by omega)
  have hcs : (nI s).toNatClampNeg = s := nI_clamp (by omega)
  have hin : vp_in (nI i) 27 := vp_in_nI h27 (by decide)
  have his : vp_in (nI s) 12 := vp_in_nI hs (by decide)
  have hps' : a_partStage (nI i).toNatClampNeg = nI s := by rw [hcl]; exact hps
  refine ⟨hin, nm_r (e' := nI s) hps' ⟨hin, nm_r (e' := upd a_phase i 1) (by rw [hcl]) ⟨hin, nm_r (e' := upd a_beganAfter i f_sent) (by rw [hcl]) ⟨his, nm_r (e' := nI 3) (by rw [hcs]; exact hk) (br_f (by decide) ?_)⟩⟩⟩⟩
  refine br_f (by decide) ?_
  iterate 3 (refine br_f (by decide) ?_)
  refine br_t rfl ?_
  have hX' : a_partX (nI i).toNatClampNeg = nI xi := by rw [hcl]; exact hX (by decide)
  refine ⟨hin, ?_⟩
  rw [hX']
  exact xw_push hT (by omega) (H _ (xe_effB rfl rfl hS0 (fun j hj S hS => hS) rfl (xd_rps_push (w := 0) hR)))
theorem xb_4 {post : SX → Prop} {i t s xi yi : Nat} {a b : Int32} {R : List Tk} (hx : HA f_time a_partStage a_stageKind a_stageA a_stageB i t s 4 a b) (hS : RepA a_due a_count a_held a_heldY a_hasHeld a_hasHeldY a_queueSize a_queueIsOfX a_queueValue a_queueDue i clr) (hT : f_tasks = nI R.length) (hR : rps a_taskWhat a_taskPart a_taskValue R) (hl : R.length + 2 ≤ 128) (hX : 3 ≤ 4 → a_partX i = nI xi) (hY : 16 ≤ 4 → a_partY i = nI yi) (H : ∀ u', EffB (f_time, f_sent, f_stageCount, f_tasks, a_sourceEnded, a_stageKind, a_stageA, a_stageB, a_stageParts, a_partStage, a_partUser, a_partX, a_partY, a_phase, a_beganAfter, a_due, a_count, a_held, a_heldY, a_hasHeld, a_hasHeldY, a_queueSize, a_queueIsOfX, a_queueValue, a_queueDue, a_subStatus, a_subCode, a_subEnd, a_subDemand, a_subRequests, a_subDelivered, a_subWaiting, a_waitValue, a_history, a_taskWhat, a_taskPart, a_taskValue) u' i (ini 4 a b t) (begs 4 i xi yi a) R → post u') : wpX_beginPart post (f_time, f_sent, f_stageCount, f_tasks, a_sourceEnded, a_stageKind, a_stageA, a_stageB, a_stageParts, a_partStage, a_partUser, a_partX, a_partY, a_phase, a_beganAfter, a_due, a_count, a_held, a_heldY, a_hasHeld, a_hasHeldY, a_queueSize, a_queueIsOfX, a_queueValue, a_queueDue, a_subStatus, a_subCode, a_subEnd, a_subDemand, a_subRequests, a_subDelivered, a_subWaiting, a_waitValue, a_history, a_taskWhat, a_taskPart, a_taskValue) (nI i) := by
  obtain ⟨h27, ht, ht2, hps, hs, hk, ha, hb, ho⟩ := hx
  have hS0 := hS
  obtain ⟨a1, a2, a3, a4, a5, a6, a7, a8, a9, a10⟩ := hS
  have hcl : (nI i).toNatClampNeg = i := nI_clamp (by omega)
  have hcs : (nI s).toNatClampNeg = s := nI_clamp (by omega)
  have hin : vp_in (nI i) 27 := vp_in_nI h27 (by decide)
  have his : vp_in (nI s) 12 := vp_in_nI hs (by decide)
  have hps' : a_partStage (nI i).toNatClampNeg = nI s := by rw [hcl]; exact hps
  refine ⟨hin, nm_r (e' := nI s) hps' ⟨hin, nm_r (e' := upd a_phase i 1) (by rw [hcl]) ⟨hin, nm_r (e' := upd a_beganAfter i f_sent) (by rw [hcl]) ⟨his, nm_r (e' := nI 4) (by rw [hcs]; exact hk) (br_f (by decide) ?_)⟩⟩⟩⟩
  refine br_f (by decide) ?_
  iterate 4 (refine br_f (by decide) ?_)
  refine br_t rfl ?_
  have hX' : a_partX (nI i).toNatClampNeg = nI xi := by rw [hcl]; exact hX (by decide)
  refine ⟨hin, ?_⟩
  rw [hX']
  exact xw_push hT (by omega) (H _ (xe_effB rfl rfl hS0 (fun j hj S hS => hS) rfl (xd_rps_push (w := 0) hR)))
theorem xb_5 {post : SX → Prop} {i t s xi yi : Nat} {a b : Int32} {R : List Tk} (hx : HA f_time a_partStage a_stageKind a_stageA a_stageB i t s 5 a b) (hS : RepA a_due a_count a_held a_heldY a_hasHeld a_hasHeldY a_queueSize a_queueIsOfX a_queueValue a_queueDue i clr) (hT : f_tasks = nI R.length) (hR : rps a_taskWhat a_taskPart a_taskValue R) (hl : R.length + 2 ≤ 128) (hX : 3 ≤ 5 → a_partX i = nI xi) (hY : 16 ≤ 5 → a_partY i = nI yi) (H : ∀ u', EffB (f_time, f_sent, f_stageCount, f_tasks, a_sourceEnded, a_stageKind, a_stageA, a_stageB, a_stageParts, a_partStage, a_partUser, a_partX, a_partY, a_phase, a_beganAfter, a_due, a_count, a_held, a_heldY, a_hasHeld, a_hasHeldY, a_queueSize, a_queueIsOfX, a_queueValue, a_queueDue, a_subStatus, a_subCode, a_subEnd, a_subDemand, a_subRequests, a_subDelivered, a_subWaiting, a_waitValue, a_history, a_taskWhat, a_taskPart, a_taskValue) u' i (ini 5 a b t) (begs 5 i xi yi a) R → post u') : wpX_beginPart post (f_time, f_sent, f_stageCount, f_tasks, a_sourceEnded, a_stageKind, a_stageA, a_stageB, a_stageParts, a_partStage, a_partUser, a_partX, a_partY, a_phase, a_beganAfter, a_due, a_count, a_held, a_heldY, a_hasHeld, a_hasHeldY, a_queueSize, a_queueIsOfX, a_queueValue, a_queueDue, a_subStatus, a_subCode, a_subEnd, a_subDemand, a_subRequests, a_subDelivered, a_subWaiting, a_waitValue, a_history, a_taskWhat, a_taskPart, a_taskValue) (nI i) := by
  obtain ⟨h27, ht, ht2, hps, hs, hk, ha, hb, ho⟩ := hx
  have hS0 := hS
  obtain ⟨a1, a2, a3, a4, a5, a6, a7, a8, a9, a10⟩ := hS
  have hcl : (nI i).toNatClampNeg = i := nI_clamp (by omega)
  have hcs : (nI s).toNatClampNeg = s := nI_clamp (by omega)
  have hin : vp_in (nI i) 27 := vp_in_nI h27 (by decide)
  have his : vp_in (nI s) 12 := vp_in_nI hs (by decide)
  have hps' : a_partStage (nI i).toNatClampNeg = nI s := by rw [hcl]; exact hps
  refine ⟨hin, nm_r (e' := nI s) hps' ⟨hin, nm_r (e' := upd a_phase i 1) (by rw [hcl]) ⟨hin, nm_r (e' := upd a_beganAfter i f_sent) (by rw [hcl]) ⟨his, nm_r (e' := nI 5) (by rw [hcs]; exact hk) (br_f (by decide) ?_)⟩⟩⟩⟩
  refine br_f (by decide) ?_
  iterate 5 (refine br_f (by decide) ?_)
  refine br_t rfl ?_
  have hX' : a_partX (nI i).toNatClampNeg = nI xi := by rw [hcl]; exact hX (by decide)
  refine ⟨his, hin, nm_r (e' := upd a_held i b) (by rw [hcs, hcl]; exact congrArg _ hb) ⟨hin, ?_⟩⟩
  rw [hX']
  exact xw_push hT (by omega) (H _ (xe_effB rfl rfl ⟨a1, a2, pk_us, a4, a5, a6, a7, a8, a9, a10⟩ (fun j hj S hS => xd_frame hS rfl rfl (pk_un hj) rfl rfl rfl rfl rfl (fun r hr => ⟨rfl, rfl⟩)) rfl (xd_rps_push (w := 0) hR)))
theorem xb_6 {post : SX → Prop} {i t s xi yi : Nat} {a b : Int32} {R : List Tk} (hx : HA f_time a_partStage a_stageKind a_stageA a_stageB i t s 6 a b) (hS : RepA a_due a_count a_held a_heldY a_hasHeld a_hasHeldY a_queueSize a_queueIsOfX a_queueValue a_queueDue i clr) (hT : f_tasks = nI R.length) (hR : rps a_taskWhat a_taskPart a_taskValue R) (hl : R.length + 2 ≤ 128) (hX : 3 ≤ 6 → a_partX i = nI xi) (hY : 16 ≤ 6 → a_partY i = nI yi) (H : ∀ u', EffB (f_time, f_sent, f_stageCount, f_tasks, a_sourceEnded, a_stageKind, a_stageA, a_stageB, a_stageParts, a_partStage, a_partUser, a_partX, a_partY, a_phase, a_beganAfter, a_due, a_count, a_held, a_heldY, a_hasHeld, a_hasHeldY, a_queueSize, a_queueIsOfX, a_queueValue, a_queueDue, a_subStatus, a_subCode, a_subEnd, a_subDemand, a_subRequests, a_subDelivered, a_subWaiting, a_waitValue, a_history, a_taskWhat, a_taskPart, a_taskValue) u' i (ini 6 a b t) (begs 6 i xi yi a) R → post u') : wpX_beginPart post (f_time, f_sent, f_stageCount, f_tasks, a_sourceEnded, a_stageKind, a_stageA, a_stageB, a_stageParts, a_partStage, a_partUser, a_partX, a_partY, a_phase, a_beganAfter, a_due, a_count, a_held, a_heldY, a_hasHeld, a_hasHeldY, a_queueSize, a_queueIsOfX, a_queueValue, a_queueDue, a_subStatus, a_subCode, a_subEnd, a_subDemand, a_subRequests, a_subDelivered, a_subWaiting, a_waitValue, a_history, a_taskWhat, a_taskPart, a_taskValue) (nI i) := by
  obtain ⟨h27, ht, ht2, hps, hs, hk, ha, hb, ho⟩ := hx
  have hS0 := hS
  obtain ⟨a1, a2, a3, a4, a5, a6, a7, a8, a9, a10⟩ := hS
  have hcl : (nI i).toNatClampNeg = i := nI_clamp (by omega)
  have hcs : (nI s).toNatClampNeg = s := nI_clamp (by omega)
  have hin : vp_in (nI i) 27 := vp_in_nI h27 (by decide)
  have his : vp_in (nI s) 12 := vp_in_nI hs (by decide)
  have hps' : a_partStage (nI i).toNatClampNeg = nI s := by rw [hcl]; exact hps
  refine ⟨hin, nm_r (e' := nI s) hps' ⟨hin, nm_r (e' := upd a_phase i 1) (by rw [hcl]) ⟨hin, nm_r (e' := upd a_beganAfter i f_sent) (by rw [hcl]) ⟨his, nm_r (e' := nI 6) (by rw [hcs]; exact hk) (br_f (by decide) ?_)⟩⟩⟩⟩
  refine br_f (by decide) ?_
  iterate 6 (refine br_f (by decide) ?_)
  refine br_t rfl ?_
  have hX' : a_partX (nI i).toNatClampNeg = nI xi := by rw [hcl]; exact hX (by decide)
  refine ⟨hin, ?_⟩
  rw [hX']
  exact xw_push hT (by omega) (H _ (xe_effB rfl rfl hS0 (fun j hj S hS => hS) rfl (xd_rps_push (w := 0) hR)))
theorem xb_7 {post : SX → Prop} {i t s xi yi : Nat} {a b : Int32} {R : List Tk} (hx : HA f_time a_partStage a_stageKind a_stageA a_stageB i t s 7 a b) (hS : RepA a_due a_count a_held a_heldY a_hasHeld a_hasHeldY a_queueSize a_queueIsOfX a_queueValue a_queueDue i clr) (hT : f_tasks = nI R.length) (hR : rps a_taskWhat a_taskPart a_taskValue R) (hl : R.length + 2 ≤ 128) (hX : 3 ≤ 7 → a_partX i = nI xi) (hY : 16 ≤ 7 → a_partY i = nI yi) (H : ∀ u', EffB (f_time, f_sent, f_stageCount, f_tasks, a_sourceEnded, a_stageKind, a_stageA, a_stageB, a_stageParts, a_partStage, a_partUser, a_partX, a_partY, a_phase, a_beganAfter, a_due, a_count, a_held, a_heldY, a_hasHeld, a_hasHeldY, a_queueSize, a_queueIsOfX, a_queueValue, a_queueDue, a_subStatus, a_subCode, a_subEnd, a_subDemand, a_subRequests, a_subDelivered, a_subWaiting, a_waitValue, a_history, a_taskWhat, a_taskPart, a_taskValue) u' i (ini 7 a b t) (begs 7 i xi yi a) R → post u') : wpX_beginPart post (f_time, f_sent, f_stageCount, f_tasks, a_sourceEnded, a_stageKind, a_stageA, a_stageB, a_stageParts, a_partStage, a_partUser, a_partX, a_partY, a_phase, a_beganAfter, a_due, a_count, a_held, a_heldY, a_hasHeld, a_hasHeldY, a_queueSize, a_queueIsOfX, a_queueValue, a_queueDue, a_subStatus, a_subCode, a_subEnd, a_subDemand, a_subRequests, a_subDelivered, a_subWaiting, a_waitValue, a_history, a_taskWhat, a_taskPart, a_taskValue) (nI i) := by
  obtain ⟨h27, ht, ht2, hps, hs, hk, ha, hb, ho⟩ := hx
  have hS0 := hS
  obtain ⟨a1, a2, a3, a4, a5, a6, a7, a8, a9, a10⟩ := hS
  have hcl : (nI i).toNatClampNeg = i := nI_clamp (by omega)
  have hcs : (nI s).toNatClampNeg = s := nI_clamp (by omega)
  have hin : vp_in (nI i) 27 := vp_in_nI h27 (by decide)
  have his : vp_in (nI s) 12 := vp_in_nI hs (by decide)
  have hps' : a_partStage (nI i).toNatClampNeg = nI s := by rw [hcl]; exact hps
  refine ⟨hin, nm_r (e' := nI s) hps' ⟨hin, nm_r (e' := upd a_phase i 1) (by rw [hcl]) ⟨hin, nm_r (e' := upd a_beganAfter i f_sent) (by rw [hcl]) ⟨his, nm_r (e' := nI 7) (by rw [hcs]; exact hk) (br_f (by decide) ?_)⟩⟩⟩⟩
  refine br_f (by decide) ?_
  iterate 7 (refine br_f (by decide) ?_)
  refine br_t rfl ?_
  have hX' : a_partX (nI i).toNatClampNeg = nI xi := by rw [hcl]; exact hX (by decide)
  refine ⟨hin, ?_⟩
  rw [hX']
  exact xw_push hT (by omega) (H _ (xe_effB rfl rfl hS0 (fun j hj S hS => hS) rfl (xd_rps_push (w := 0) hR)))
theorem xb_8 {post : SX → Prop} {i t s xi yi : Nat} {a b : Int32} {R : List Tk} (hx : HA f_time a_partStage a_stageKind a_stageA a_stageB i t s 8 a b) (hS : RepA a_due a_count a_held a_heldY a_hasHeld a_hasHeldY a_queueSize a_queueIsOfX a_queueValue a_queueDue i clr) (hT : f_tasks = nI R.length) (hR : rps a_taskWhat a_taskPart a_taskValue R) (hl : R.length + 2 ≤ 128) (hX : 3 ≤ 8 → a_partX i = nI xi) (hY : 16 ≤ 8 → a_partY i = nI yi) (H : ∀ u', EffB (f_time, f_sent, f_stageCount, f_tasks, a_sourceEnded, a_stageKind, a_stageA, a_stageB, a_stageParts, a_partStage, a_partUser, a_partX, a_partY, a_phase, a_beganAfter, a_due, a_count, a_held, a_heldY, a_hasHeld, a_hasHeldY, a_queueSize, a_queueIsOfX, a_queueValue, a_queueDue, a_subStatus, a_subCode, a_subEnd, a_subDemand, a_subRequests, a_subDelivered, a_subWaiting, a_waitValue, a_history, a_taskWhat, a_taskPart, a_taskValue) u' i (ini 8 a b t) (begs 8 i xi yi a) R → post u') : wpX_beginPart post (f_time, f_sent, f_stageCount, f_tasks, a_sourceEnded, a_stageKind, a_stageA, a_stageB, a_stageParts, a_partStage, a_partUser, a_partX, a_partY, a_phase, a_beganAfter, a_due, a_count, a_held, a_heldY, a_hasHeld, a_hasHeldY, a_queueSize, a_queueIsOfX, a_queueValue, a_queueDue, a_subStatus, a_subCode, a_subEnd, a_subDemand, a_subRequests, a_subDelivered, a_subWaiting, a_waitValue, a_history, a_taskWhat, a_taskPart, a_taskValue) (nI i) := by
  obtain ⟨h27, ht, ht2, hps, hs, hk, ha, hb, ho⟩ := hx
  have hS0 := hS
  obtain ⟨a1, a2, a3, a4, a5, a6, a7, a8, a9, a10⟩ := hS
  have hcl : (nI i).toNatClampNeg = i := nI_clamp (by omega)
  have hcs : (nI s).toNatClampNeg = s := nI_clamp (by omega)
  have hin : vp_in (nI i) 27 := vp_in_nI h27 (by decide)
  have his : vp_in (nI s) 12 := vp_in_nI hs (by decide)
  have hps' : a_partStage (nI i).toNatClampNeg = nI s := by rw [hcl]; exact hps
  refine ⟨hin, nm_r (e' := nI s) hps' ⟨hin, nm_r (e' := upd a_phase i 1) (by rw [hcl]) ⟨hin, nm_r (e' := upd a_beganAfter i f_sent) (by rw [hcl]) ⟨his, nm_r (e' := nI 8) (by rw [hcs]; exact hk) (br_f (by decide) ?_)⟩⟩⟩⟩
  refine br_f (by decide) ?_
  iterate 8 (refine br_f (by decide) ?_)
  refine br_t rfl ?_
  have hX' : a_partX (nI i).toNatClampNeg = nI xi := by rw [hcl]; exact hX (by decide)
  refine ⟨hin, ?_⟩
  rw [hX']
  exact xw_push hT (by omega) (H _ (xe_effB rfl rfl hS0 (fun j hj S hS => hS) rfl (xd_rps_push (w := 0) hR)))
theorem xb_9 {post : SX → Prop} {i t s xi yi : Nat} {a b : Int32} {R : List Tk} (hx : HA f_time a_partStage a_stageKind a_stageA a_stageB i t s 9 a b) (hS : RepA a_due a_count a_held a_heldY a_hasHeld a_hasHeldY a_queueSize a_queueIsOfX a_queueValue a_queueDue i clr) (hT : f_tasks = nI R.length) (hR : rps a_taskWhat a_taskPart a_taskValue R) (hl : R.length + 2 ≤ 128) (hX : 3 ≤ 9 → a_partX i = nI xi) (hY : 16 ≤ 9 → a_partY i = nI yi) (H : ∀ u', EffB (f_time, f_sent, f_stageCount, f_tasks, a_sourceEnded, a_stageKind, a_stageA, a_stageB, a_stageParts, a_partStage, a_partUser, a_partX, a_partY, a_phase, a_beganAfter, a_due, a_count, a_held, a_heldY, a_hasHeld, a_hasHeldY, a_queueSize, a_queueIsOfX, a_queueValue, a_queueDue, a_subStatus, a_subCode, a_subEnd, a_subDemand, a_subRequests, a_subDelivered, a_subWaiting, a_waitValue, a_history, a_taskWhat, a_taskPart, a_taskValue) u' i (ini 9 a b t) (begs 9 i xi yi a) R → post u') : wpX_beginPart post (f_time, f_sent, f_stageCount, f_tasks, a_sourceEnded, a_stageKind, a_stageA, a_stageB, a_stageParts, a_partStage, a_partUser, a_partX, a_partY, a_phase, a_beganAfter, a_due, a_count, a_held, a_heldY, a_hasHeld, a_hasHeldY, a_queueSize, a_queueIsOfX, a_queueValue, a_queueDue, a_subStatus, a_subCode, a_subEnd, a_subDemand, a_subRequests, a_subDelivered, a_subWaiting, a_waitValue, a_history, a_taskWhat, a_taskPart, a_taskValue) (nI i) := by
  obtain ⟨h27, ht, ht2, hps, hs, hk, ha, hb, ho⟩ := hx
  have hS0 := hS
  obtain ⟨a1, a2, a3, a4, a5, a6, a7, a8, a9, a10⟩ := hS
  have hcl : (nI i).toNatClampNeg = i := nI_clamp (by omega)
  have hcs : (nI s).toNatClampNeg = s := nI_clamp (by omega)
  have hin : vp_in (nI i) 27 := vp_in_nI h27 (by decide)
  have his : vp_in (nI s) 12 := vp_in_nI hs (by decide)
  have hps' : a_partStage (nI i).toNatClampNeg = nI s := by rw [hcl]; exact hps
  refine ⟨hin, nm_r (e' := nI s) hps' ⟨hin, nm_r (e' := upd a_phase i 1) (by rw [hcl]) ⟨hin, nm_r (e' := upd a_beganAfter i f_sent) (by rw [hcl]) ⟨his, nm_r (e' := nI 9) (by rw [hcs]; exact hk) (br_f (by decide) ?_)⟩⟩⟩⟩
  refine br_f (by decide) ?_
  iterate 9 (refine br_f (by decide) ?_)
  refine br_t rfl ?_
  have hX' : a_partX (nI i).toNatClampNeg = nI xi := by rw [hcl]; exact hX (by decide)
  refine ⟨hin, ?_⟩
  rw [hX']
  exact xw_push hT (by omega) (H _ (xe_effB rfl rfl hS0 (fun j hj S hS => hS) rfl (xd_rps_push (w := 0) hR)))
theorem xb_10 {post : SX → Prop} {i t s xi yi : Nat} {a b : Int32} {R : List Tk} (hx : HA f_time a_partStage a_stageKind a_stageA a_stageB i t s 10 a b) (hS : RepA a_due a_count a_held a_heldY a_hasHeld a_hasHeldY a_queueSize a_queueIsOfX a_queueValue a_queueDue i clr) (hT : f_tasks = nI R.length) (hR : rps a_taskWhat a_taskPart a_taskValue R) (hl : R.length + 2 ≤ 128) (hX : 3 ≤ 10 → a_partX i = nI xi) (hY : 16 ≤ 10 → a_partY i = nI yi) (H : ∀ u', EffB (f_time, f_sent, f_stageCount, f_tasks, a_sourceEnded, a_stageKind, a_stageA, a_stageB, a_stageParts, a_partStage, a_partUser, a_partX, a_partY, a_phase, a_beganAfter, a_due, a_count, a_held, a_heldY, a_hasHeld, a_hasHeldY, a_queueSize, a_queueIsOfX, a_queueValue, a_queueDue, a_subStatus, a_subCode, a_subEnd, a_subDemand, a_subRequests, a_subDelivered, a_subWaiting, a_waitValue, a_history, a_taskWhat, a_taskPart, a_taskValue) u' i (ini 10 a b t) (begs 10 i xi yi a) R → post u') : wpX_beginPart post (f_time, f_sent, f_stageCount, f_tasks, a_sourceEnded, a_stageKind, a_stageA, a_stageB, a_stageParts, a_partStage, a_partUser, a_partX, a_partY, a_phase, a_beganAfter, a_due, a_count, a_held, a_heldY, a_hasHeld, a_hasHeldY, a_queueSize, a_queueIsOfX, a_queueValue, a_queueDue, a_subStatus, a_subCode, a_subEnd, a_subDemand, a_subRequests, a_subDelivered, a_subWaiting, a_waitValue, a_history, a_taskWhat, a_taskPart, a_taskValue) (nI i) := by
  obtain ⟨h27, ht, ht2, hps, hs, hk, ha, hb, ho⟩ := hx
  have hS0 := hS
  obtain ⟨a1, a2, a3, a4, a5, a6, a7, a8, a9, a10⟩ := hS
  have hcl : (nI i).toNatClampNeg = i := nI_clamp (by omega)
  have hcs : (nI s).toNatClampNeg = s := nI_clamp (by omega)
  have hin : vp_in (nI i) 27 := vp_in_nI h27 (by decide)
  have his : vp_in (nI s) 12 := vp_in_nI hs (by decide)
  have hps' : a_partStage (nI i).toNatClampNeg = nI s := by rw [hcl]; exact hps
  refine ⟨hin, nm_r (e' := nI s) hps' ⟨hin, nm_r (e' := upd a_phase i 1) (by rw [hcl]) ⟨hin, nm_r (e' := upd a_beganAfter i f_sent) (by rw [hcl]) ⟨his, nm_r (e' := nI 10) (by rw [hcs]; exact hk) (br_f (by decide) ?_)⟩⟩⟩⟩
  refine br_f (by decide) ?_
  iterate 10 (refine br_f (by decide) ?_)
  refine br_t rfl ?_
  have hX' : a_partX (nI i).toNatClampNeg = nI xi := by rw [hcl]; exact hX (by decide)
  refine ⟨hin, ?_⟩
  rw [hX']
  exact xw_push hT (by omega) (H _ (xe_effB rfl rfl hS0 (fun j hj S hS => hS) rfl (xd_rps_push (w := 0) hR)))
theorem xb_11 {post : SX → Prop} {i t s xi yi : Nat} {a b : Int32} {R : List Tk} (hx : HA f_time a_partStage a_stageKind a_stageA a_stageB i t s 11 a b) (hS : RepA a_due a_count a_held a_heldY a_hasHeld a_hasHeldY a_queueSize a_queueIsOfX a_queueValue a_queueDue i clr) (hT : f_tasks = nI R.length) (hR : rps a_taskWhat a_taskPart a_taskValue R) (hl : R.length + 2 ≤ 128) (hX : 3 ≤ 11 → a_partX i = nI xi) (hY : 16 ≤ 11 → a_partY i = nI yi) (H : ∀ u', EffB (f_time, f_sent, f_stageCount, f_tasks, a_sourceEnded, a_stageKind, a_stageA, a_stageB, a_stageParts, a_partStage, a_partUser, a_partX, a_partY, a_phase, a_beganAfter, a_due, a_count, a_held, a_heldY, a_hasHeld, a_hasHeldY, a_queueSize, a_queueIsOfX, a_queueValue, a_queueDue, a_subStatus, a_subCode, a_subEnd, a_subDemand, a_subRequests, a_subDelivered, a_subWaiting, a_waitValue, a_history, a_taskWhat, a_taskPart, a_taskValue) u' i (ini 11 a b t) (begs 11 i xi yi a) R → post u') : wpX_beginPart post (f_time, f_sent, f_stageCount, f_tasks, a_sourceEnded, a_stageKind, a_stageA, a_stageB, a_stageParts, a_partStage, a_partUser, a_partX, a_partY, a_phase, a_beganAfter, a_due, a_count, a_held, a_heldY, a_hasHeld, a_hasHeldY, a_queueSize, a_queueIsOfX, a_queueValue, a_queueDue, a_subStatus, a_subCode, a_subEnd, a_subDemand, a_subRequests, a_subDelivered, a_subWaiting, a_waitValue, a_history, a_taskWhat, a_taskPart, a_taskValue) (nI i) := by
  obtain ⟨h27, ht, ht2, hps, hs, hk, ha, hb, ho⟩ := hx
  have hS0 := hS
  obtain ⟨a1, a2, a3, a4, a5, a6, a7, a8, a9, a10⟩ := hS
  have hcl : (nI i).toNatClampNeg = i := nI_clamp (by omega)
  have hcs : (nI s).toNatClampNeg = s := nI_clamp (by omega)
  have hin : vp_in (nI i) 27 := vp_in_nI h27 (by decide)
  have his : vp_in (nI s) 12 := vp_in_nI hs (by decide)
  have hps' : a_partStage (nI i).toNatClampNeg = nI s := by rw [hcl]; exact hps
  refine ⟨hin, nm_r (e' := nI s) hps' ⟨hin, nm_r (e' := upd a_phase i 1) (by rw [hcl]) ⟨hin, nm_r (e' := upd a_beganAfter i f_sent) (by rw [hcl]) ⟨his, nm_r (e' := nI 11) (by rw [hcs]; exact hk) (br_f (by decide) ?_)⟩⟩⟩⟩
  refine br_f (by decide) ?_
  iterate 11 (refine br_f (by decide) ?_)
  refine br_t rfl ?_
  have hX' : a_partX (nI i).toNatClampNeg = nI xi := by rw [hcl]; exact hX (by decide)
  refine ⟨hin, ?_⟩
  rw [hX']
  exact xw_push hT (by omega) (H _ (xe_effB rfl rfl hS0 (fun j hj S hS => hS) rfl (xd_rps_push (w := 0) hR)))
theorem xb_12 {post : SX → Prop} {i t s xi yi : Nat} {a b : Int32} {R : List Tk} (hx : HA f_time a_partStage a_stageKind a_stageA a_stageB i t s 12 a b) (hS : RepA a_due a_count a_held a_heldY a_hasHeld a_hasHeldY a_queueSize a_queueIsOfX a_queueValue a_queueDue i clr) (hT : f_tasks = nI R.length) (hR : rps a_taskWhat a_taskPart a_taskValue R) (hl : R.length + 2 ≤ 128) (hX : 3 ≤ 12 → a_partX i = nI xi) (hY : 16 ≤ 12 → a_partY i = nI yi) (H : ∀ u', EffB (f_time, f_sent, f_stageCount, f_tasks, a_sourceEnded, a_stageKind, a_stageA, a_stageB, a_stageParts, a_partStage, a_partUser, a_partX, a_partY, a_phase, a_beganAfter, a_due, a_count, a_held, a_heldY, a_hasHeld, a_hasHeldY, a_queueSize, a_queueIsOfX, a_queueValue, a_queueDue, a_subStatus, a_subCode, a_subEnd, a_subDemand, a_subRequests, a_subDelivered, a_subWaiting, a_waitValue, a_history, a_taskWhat, a_taskPart, a_taskValue) u' i (ini 12 a b t) (begs 12 i xi yi a) R → post u') : wpX_beginPart post (f_time, f_sent, f_stageCount, f_tasks, a_sourceEnded, a_stageKind, a_stageA, a_stageB, a_stageParts, a_partStage, a_partUser, a_partX, a_partY, a_phase, a_beganAfter, a_due, a_count, a_held, a_heldY, a_hasHeld, a_hasHeldY, a_queueSize, a_queueIsOfX, a_queueValue, a_queueDue, a_subStatus, a_subCode, a_subEnd, a_subDemand, a_subRequests, a_subDelivered, a_subWaiting, a_waitValue, a_history, a_taskWhat, a_taskPart, a_taskValue) (nI i) := by
  obtain ⟨h27, ht, ht2, hps, hs, hk, ha, hb, ho⟩ := hx
  have hS0 := hS
  obtain ⟨a1, a2, a3, a4, a5, a6, a7, a8, a9, a10⟩ := hS
  have hcl : (nI i).toNatClampNeg = i := nI_clamp (by omega)
  have hcs : (nI s).toNatClampNeg = s := nI_clamp (by omega)
  have hin : vp_in (nI i) 27 := vp_in_nI h27 (by decide)
  have his : vp_in (nI s) 12 := vp_in_nI hs (by decide)
  have hps' : a_partStage (nI i).toNatClampNeg = nI s := by rw [hcl]; exact hps
  refine ⟨hin, nm_r (e' := nI s) hps' ⟨hin, nm_r (e' := upd a_phase i 1) (by rw [hcl]) ⟨hin, nm_r (e' := upd a_beganAfter i f_sent) (by rw [hcl]) ⟨his, nm_r (e' := nI 12) (by rw [hcs]; exact hk) (br_f (by decide) ?_)⟩⟩⟩⟩
  refine br_f (by decide) ?_
  iterate 12 (refine br_f (by decide) ?_)
  refine br_t rfl ?_
  have hX' : a_partX (nI i).toNatClampNeg = nI xi := by rw [hcl]; exact hX (by decide)
  refine ⟨hin, ?_⟩
  rw [hX']
  exact xw_push hT (by omega) (H _ (xe_effB rfl rfl hS0 (fun j hj S hS => hS) rfl (xd_rps_push (w := 0) hR)))
theorem xb_13 {post : SX → Prop} {i t s xi yi : Nat} {a b : Int32} {R : List Tk} (hx : HA f_time a_partStage a_stageKind a_stageA a_stageB i t s 13 a b) (hS : RepA a_due a_count a_held a_heldY a_hasHeld a_hasHeldY a_queueSize a_queueIsOfX a_queueValue a_queueDue i clr) (hT : f_tasks = nI R.length) (hR : rps a_taskWhat a_taskPart a_taskValue R) (hl : R.length + 2 ≤ 128) (hX : 3 ≤ 13 → a_partX i = nI xi) (hY : 16 ≤ 13 → a_partY i = nI yi) (H : ∀ u', EffB (f_time, f_sent, f_stageCount, f_tasks, a_sourceEnded, a_stageKind, a_stageA, a_stageB, a_stageParts, a_partStage, a_partUser, a_partX, a_partY, a_phase, a_beganAfter, a_due, a_count, a_held, a_heldY, a_hasHeld, a_hasHeldY, a_queueSize, a_queueIsOfX, a_queueValue, a_queueDue, a_subStatus, a_subCode, a_subEnd, a_subDemand, a_subRequests, a_subDelivered, a_subWaiting, a_waitValue, a_history, a_taskWhat, a_taskPart, a_taskValue) u' i (ini 13 a b t) (begs 13 i xi yi a) R → post u') : wpX_beginPart post (f_time, f_sent, f_stageCount, f_tasks, a_sourceEnded, a_stageKind, a_stageA, a_stageB, a_stageParts, a_partStage, a_partUser, a_partX, a_partY, a_phase, a_beganAfter, a_due, a_count, a_held, a_heldY, a_hasHeld, a_hasHeldY, a_queueSize, a_queueIsOfX, a_queueValue, a_queueDue, a_subStatus, a_subCode, a_subEnd, a_subDemand, a_subRequests, a_subDelivered, a_subWaiting, a_waitValue, a_history, a_taskWhat, a_taskPart, a_taskValue) (nI i) := by
  obtain ⟨h27, ht, ht2, hps, hs, hk, ha, hb, ho⟩ := hx
  have hS0 := hS
  obtain ⟨a1, a2, a3, a4, a5, a6, a7, a8, a9, a10⟩ := hS
  have hcl : (nI i).toNatClampNeg = i := nI_clamp (by omega)
  have hcs : (nI s).toNatClampNeg = s := nI_clamp (by omega)
  have hin : vp_in (nI i) 27 := vp_in_nI h27 (by decide)
  have his : vp_in (nI s) 12 := vp_in_nI hs (by decide)
  have hps' : a_partStage (nI i).toNatClampNeg = nI s := by rw [hcl]; exact hps
  refine ⟨hin, nm_r (e' := nI s) hps' ⟨hin, nm_r (e' := upd a_phase i 1) (by rw [hcl]) ⟨hin, nm_r (e' := upd a_beganAfter i f_sent) (by rw [hcl]) ⟨his, nm_r (e' := nI 13) (by rw [hcs]; exact hk) (br_f (by decide) ?_)⟩⟩⟩⟩
  refine br_f (by decide) ?_
  iterate 13 (refine br_f (by decide) ?_)
  refine br_t rfl ?_
  have hX' : a_partX (nI i).toNatClampNeg = nI xi := by rw [hcl]; exact hX (by decide)
  refine ⟨hin, ?_⟩
  rw [hX']
  exact xw_push hT (by omega) (H _ (xe_effB rfl rfl hS0 (fun j hj S hS => hS) rfl (xd_rps_push (w := 0) hR)))
theorem xb_14 {post : SX → Prop} {i t s xi yi : Nat} {a b : Int32} {R : List Tk} (hx : HA f_time a_partStage a_stageKind a_stageA a_stageB i t s 14 a b) (hS : RepA a_due a_count a_held a_heldY a_hasHeld a_hasHeldY a_queueSize a_queueIsOfX a_queueValue a_queueDue i clr) (hT : f_tasks = nI R.length) (hR : rps a_taskWhat a_taskPart a_taskValue R) (hl : R.length + 2 ≤ 128) (hX : 3 ≤ 14 → a_partX i = nI xi) (hY : 16 ≤ 14 → a_partY i = nI yi) (H : ∀ u', EffB (f_time, f_sent, f_stageCount, f_tasks, a_sourceEnded, a_stageKind, a_stageA, a_stageB, a_stageParts, a_partStage, a_partUser, a_partX, a_partY, a_phase, a_beganAfter, a_due, a_count, a_held, a_heldY, a_hasHeld, a_hasHeldY, a_queueSize, a_queueIsOfX, a_queueValue, a_queueDue, a_subStatus, a_subCode, a_subEnd, a_subDemand, a_subRequests, a_subDelivered, a_subWaiting, a_waitValue, a_history, a_taskWhat, a_taskPart, a_taskValue) u' i (ini 14 a b t) (begs 14 i xi yi a) R → post u') : wpX_beginPart post (f_time, f_sent, f_stageCount, f_tasks, a_sourceEnded, a_stageKind, a_stageA, a_stageB, a_stageParts, a_partStage, a_partUser, a_partX, a_partY, a_phase, a_beganAfter, a_due, a_count, a_held, a_heldY, a_hasHeld, a_hasHeldY, a_queueSize, a_queueIsOfX, a_queueValue, a_queueDue, a_subStatus, a_subCode, a_subEnd, a_subDemand, a_subRequests, a_subDelivered, a_subWaiting, a_waitValue, a_history, a_taskWhat, a_taskPart, a_taskValue) (nI i) := by
  obtain ⟨h27, ht, ht2, hps, hs, hk, ha, hb, ho⟩ := hx
  have hS0 := hS
  obtain ⟨a1, a2, a3, a4, a5, a6, a7, a8, a9, a10⟩ := hS
  have hcl : (nI i).toNatClampNeg = i := nI_clamp (by omega)
  have hcs : (nI s).toNatClampNeg = s := nI_clamp (by omega)
  have hin : vp_in (nI i) 27 := vp_in_nI h27 (by decide)
  have his : vp_in (nI s) 12 := vp_in_nI hs (by decide)
  have hps' : a_partStage (nI i).toNatClampNeg = nI s := by rw [hcl]; exact hps
  refine ⟨hin, nm_r (e' := nI s) hps' ⟨hin, nm_r (e' := upd a_phase i 1) (by rw [hcl]) ⟨hin, nm_r (e' := upd a_beganAfter i f_sent) (by rw [hcl]) ⟨his, nm_r (e' := nI 14) (by rw [hcs]; exact hk) (br_f (by decide) ?_)⟩⟩⟩⟩
  refine br_f (by decide) ?_
  iterate 14 (refine br_f (by decide) ?_)
  refine br_t rfl ?_
  have hX' : a_partX (nI i).toNatClampNeg = nI xi := by rw [hcl]; exact hX (by decide)
  have ho1 := ho.2.2.2.2.2.2 (by decide) (by decide)
  have ht' : f_time = nI t := ht
  have ed : f_time + a_stageB (nI s).toNatClampNeg = dI (t + cl b) := by rw [ht', hcs, xd_dIp (by omega), ← nI_add, ← ho1.2.2]; exact congrArg _ hb
  refine ⟨his, hin, nm_r (e' := upd a_due i (dI (t + cl b))) (by rw [ed, hcl]) ⟨hin, ?_⟩⟩
  rw [hX']
  exact xw_push hT (by omega) (H _ (xe_effB rfl rfl ⟨pk_us, a2, a3, a4, a5, a6, a7, a8, a9, a10⟩ (fun j hj S hS => xd_frame hS (pk_un hj) rfl rfl rfl rfl rfl rfl rfl (fun r hr => ⟨rfl, rfl⟩)) rfl (xd_rps_push (w := 0) hR)))
theorem xb_15 {post : SX → Prop} {i t s xi yi : Nat} {a b : Int32} {R : List Tk} (hx : HA f_time a_partStage a_stageKind a_stageA a_stageB i t s 15 a b) (hS : RepA a_due a_count a_held a_heldY a_hasHeld a_hasHeldY a_queueSize a_queueIsOfX a_queueValue a_queueDue i clr) (hT : f_tasks = nI R.length) (hR : rps a_taskWhat a_taskPart a_taskValue R) (hl : R.length + 2 ≤ 128) (hX : 3 ≤ 15 → a_partX i = nI xi) (hY : 16 ≤ 15 → a_partY i = nI yi) (H : ∀ u', EffB (f_time, f_sent, f_stageCount, f_tasks, a_sourceEnded, a_stageKind, a_stageA, a_stageB, a_stageParts, a_partStage, a_partUser, a_partX, a_partY, a_phase, a_beganAfter, a_due, a_count, a_held, a_heldY, a_hasHeld, a_hasHeldY, a_queueSize, a_queueIsOfX, a_queueValue, a_queueDue, a_subStatus, a_subCode, a_subEnd, a_subDemand, a_subRequests, a_subDelivered, a_subWaiting, a_waitValue, a_history, a_taskWhat, a_taskPart, a_taskValue) u' i (ini 15 a b t) (begs 15 i xi yi a) R → post u') : wpX_beginPart post (f_time, f_sent, f_stageCount, f_tasks, a_sourceEnded, a_stageKind, a_stageA, a_stageB, a_stageParts, a_partStage, a_partUser, a_partX, a_partY, a_phase, a_beganAfter, a_due, a_count, a_held, a_heldY, a_hasHeld, a_hasHeldY, a_queueSize, a_queueIsOfX, a_queueValue, a_queueDue, a_subStatus, a_subCode, a_subEnd, a_subDemand, a_subRequests, a_subDelivered, a_subWaiting, a_waitValue, a_history, a_taskWhat, a_taskPart, a_taskValue) (nI i) := by
  obtain ⟨h27, ht, ht2, hps, hs, hk, ha, hb, ho⟩ := hx
  have hS0 := hS
  obtain ⟨a1, a2, a3, a4, a5, a6, a7, a8, a9, a10⟩ := hS
  have hcl : (nI i).toNatClampNeg = i := nI_clamp (by omega)
  have hcs : (nI s).toNatClampNeg = s := nI_clamp (by omega)
  have hin : vp_in (nI i) 27 := vp_in_nI h27 (by decide)
  have his : vp_in (nI s) 12 := vp_in_nI hs (by decide)
  have hps' : a_partStage (nI i).toNatClampNeg = nI s := by rw [hcl]; exact hps
  refine ⟨hin, nm_r (e' := nI s) hps' ⟨hin, nm_r (e' := upd a_phase i 1) (by rw [hcl]) ⟨hin, nm_r (e' := upd a_beganAfter i f_sent) (by rw [hcl]) ⟨his, nm_r (e' := nI 15) (by rw [hcs]; exact hk) (br_f (by decide) ?_)⟩⟩⟩⟩
  refine br_f (by decide) ?_
  iterate 15 (refine br_f (by decide) ?_)
  refine br_t rfl ?_
  have hX' : a_partX (nI i).toNatClampNeg = nI xi := by rw [hcl]; exact hX (by decide)
  have ho1 := ho.2.2.2.2.2.2 (by decide) (by decide)
  have ht' : f_time = nI t := ht
  have ed : f_time + a_stageB (nI s).toNatClampNeg = dI (t + cl b) := by rw [ht', hcs, xd_dIp (by omega), ← nI_add, ← ho1.2.2]; exact congrArg _ hb
  refine ⟨his, hin, nm_r (e' := upd a_due i (dI (t + cl b))) (by rw [ed, hcl]) ⟨hin, ?_⟩⟩
  rw [hX']
  exact xw_push hT (by omega) (H _ (xe_effB rfl rfl ⟨pk_us, a2, a3, a4, a5, a6, a7, a8, a9, a10⟩ (fun j hj S hS => xd_frame hS (pk_un hj) rfl rfl rfl rfl rfl rfl rfl (fun r hr => ⟨rfl, rfl⟩)) rfl (xd_rps_push (w := 0) hR)))
theorem xb_16 {post : SX → Prop} {i t s xi yi : Nat} {a b : Int32} {R : List Tk} (hx : HA f_time a_partStage a_stageKind a_stageA a_stageB i t s 16 a b) (hS : RepA a_due a_count a_held a_heldY a_hasHeld a_hasHeldY a_queueSize a_queueIsOfX a_queueValue a_queueDue i clr) (hT : f_tasks = nI R.length) (hR : rps a_taskWhat a_taskPart a_taskValue R) (hl : R.length + 2 ≤ 128) (hX : 3 ≤ 16 → a_partX i = nI xi) (hY : 16 ≤ 16 → a_partY i = nI yi) (H : ∀ u', EffB (f_time, f_sent, f_stageCount, f_tasks, a_sourceEnded, a_stageKind, a_stageA, a_stageB, a_stageParts, a_partStage, a_partUser, a_partX, a_partY, a_phase, a_beganAfter, a_due, a_count, a_held, a_heldY, a_hasHeld, a_hasHeldY, a_queueSize, a_queueIsOfX, a_queueValue, a_queueDue, a_subStatus, a_subCode, a_subEnd, a_subDemand, a_subRequests, a_subDelivered, a_subWaiting, a_waitValue, a_history, a_taskWhat, a_taskPart, a_taskValue) u' i (ini 16 a b t) (begs 16 i xi yi a) R → post u') : wpX_beginPart post (f_time, f_sent, f_stageCount, f_tasks, a_sourceEnded, a_stageKind, a_stageA, a_stageB, a_stageParts, a_partStage, a_partUser, a_partX, a_partY, a_phase, a_beganAfter, a_due, a_count, a_held, a_heldY, a_hasHeld, a_hasHeldY, a_queueSize, a_queueIsOfX, a_queueValue, a_queueDue, a_subStatus, a_subCode, a_subEnd, a_subDemand, a_subRequests, a_subDelivered, a_subWaiting, a_waitValue, a_history, a_taskWhat, a_taskPart, a_taskValue) (nI i) := by
  obtain ⟨h27, ht, ht2, hps, hs, hk, ha, hb, ho⟩ := hx
  have hS0 := hS
  obtain ⟨a1, a2, a3, a4, a5, a6, a7, a8, a9, a10⟩ := hS
  have hcl : (nI i).toNatClampNeg = i := nI_clamp (by omega)
  have hcs : (nI s).toNatClampNeg = s := nI_clamp (by omega)
  have hin : vp_in (nI i) 27 := vp_in_nI h27 (by decide)
  have his : vp_in (nI s) 12 := vp_in_nI hs (by decide)
  have hps' : a_partStage (nI i).toNatClampNeg = nI s := by rw [hcl]; exact hps
  refine ⟨hin, nm_r (e' := nI s) hps' ⟨hin, nm_r (e' := upd a_phase i 1) (by rw [hcl]) ⟨hin, nm_r (e' := upd a_beganAfter i f_sent) (by rw [hcl]) ⟨his, nm_r (e' := nI 16) (by rw [hcs]; exact hk) (br_f (by decide) ?_)⟩⟩⟩⟩
  refine br_f (by decide) ?_
  iterate 16 (refine br_f (by decide) ?_)
  refine br_t rfl ?_
  have hX' : a_partX (nI i).toNatClampNeg = nI xi := by rw [hcl]; exact hX (by decide)
  have hY' : a_partY (nI i).toNatClampNeg = nI yi := by rw [hcl]; exact hY (by decide)
  refine ⟨hin, ?_⟩
  rw [hY']
  refine xw_push hT (by omega) ⟨hin, ?_⟩
  rw [hX']
  exact xw_push rfl (by omega) (H _ (xe_effB rfl rfl hS0 (fun j hj S hS => hS) rfl (xd_rps_push (w := 0) (R := (0, yi, 0) :: R) (xd_rps_push (w := 0) hR))))
theorem xb_17 {post : SX → Prop} {i t s xi yi : Nat} {a b : Int32} {R : List Tk} (hx : HA f_time a_partStage a_stageKind a_stageA a_stageB i t s 17 a b) (hS : RepA a_due a_count a_held a_heldY a_hasHeld a_hasHeldY a_queueSize a_queueIsOfX a_queueValue a_queueDue i clr) (hT : f_tasks = nI R.length) (hR : rps a_taskWhat a_taskPart a_taskValue R) (hl : R.length + 2 ≤ 128) (hX : 3 ≤ 17 → a_partX i = nI xi) (hY : 16 ≤ 17 → a_partY i = nI yi) (H : ∀ u', EffB (f_time, f_sent, f_stageCount, f_tasks, a_sourceEnded, a_stageKind, a_stageA, a_stageB, a_stageParts, a_partStage, a_partUser, a_partX, a_partY, a_phase, a_beganAfter, a_due, a_count, a_held, a_heldY, a_hasHeld, a_hasHeldY, a_queueSize, a_queueIsOfX, a_queueValue, a_queueDue, a_subStatus, a_subCode, a_subEnd, a_subDemand, a_subRequests, a_subDelivered, a_subWaiting, a_waitValue, a_history, a_taskWhat, a_taskPart, a_taskValue) u' i (ini 17 a b t) (begs 17 i xi yi a) R → post u') : wpX_beginPart post (f_time, f_sent, f_stageCount, f_tasks, a_sourceEnded, a_stageKind, a_stageA, a_stageB, a_stageParts, a_partStage, a_partUser, a_partX, a_partY, a_phase, a_beganAfter, a_due, a_count, a_held, a_heldY, a_hasHeld, a_hasHeldY, a_queueSize, a_queueIsOfX, a_queueValue, a_queueDue, a_subStatus, a_subCode, a_subEnd, a_subDemand, a_subRequests, a_subDelivered, a_subWaiting, a_waitValue, a_history, a_taskWhat, a_taskPart, a_taskValue) (nI i) := by
  obtain ⟨h27, ht, ht2, hps, hs, hk, ha, hb, ho⟩ := hx
  have hS0 := hS
  obtain ⟨a1, a2, a3, a4, a5, a6, a7, a8, a9, a10⟩ := hS
  have hcl : (nI i).toNatClampNeg = i := nI_clamp (by omega)
  have hcs : (nI s).toNatClampNeg = s := nI_clamp (by omega)
  have hin : vp_in (nI i) 27 := vp_in_nI h27 (by decide)
  have his : vp_in (nI s) 12 := vp_in_nI hs (by decide)
  have hps' : a_partStage (nI i).toNatClampNeg = nI s := by rw [hcl]; exact hps
  refine ⟨hin, nm_r (e' := nI s) hps' ⟨hin, nm_r (e' := upd a_phase i 1) (by rw [hcl]) ⟨hin, nm_r (e' := upd a_beganAfter i f_sent) (by rw [hcl]) ⟨his, nm_r (e' := nI 17) (by rw [hcs]; exact hk) (br_f (by decide) ?_)⟩⟩⟩⟩
  refine br_f (by decide) ?_
  iterate 17 (refine br_f (by decide) ?_)
  refine br_t rfl ?_
  have hX' : a_partX (nI i).toNatClampNeg = nI xi := by rw [hcl]; exact hX (by decide)
  have hY' : a_partY (nI i).toNatClampNeg = nI yi := by rw [hcl]; exact hY (by decide)
  refine ⟨hin, ?_⟩
  rw [hY']
  refine xw_push hT (by omega) ⟨hin, ?_⟩
  rw [hX']
  exact xw_push rfl (by omega) (H _ (xe_effB rfl rfl hS0 (fun j hj S hS => hS) rfl (xd_rps_push (w := 0) (R := (0, yi, 0) :: R) (xd_rps_push (w := 0) hR))))
theorem xb_18 {post : SX → Prop} {i t s xi yi : Nat} {a b : Int32} {R : List Tk} (hx : HA f_time a_partStage a_stageKind a_stageA a_stageB i t s 18 a b) (hS : RepA a_due a_count a_held a_heldY a_hasHeld a_hasHeldY a_queueSize a_queueIsOfX a_queueValue a_queueDue i clr) (hT : f_tasks = nI R.length) (hR : rps a_taskWhat a_taskPart a_taskValue R) (hl : R.length + 2 ≤ 128) (hX : 3 ≤ 18 → a_partX i = nI xi) (hY : 16 ≤ 18 → a_partY i = nI yi) (H : ∀ u', EffB (f_time, f_sent, f_stageCount, f_tasks, a_sourceEnded, a_stageKind, a_stageA, a_stageB, a_stageParts, a_partStage, a_partUser, a_partX, a_partY, a_phase, a_beganAfter, a_due, a_count, a_held, a_heldY, a_hasHeld, a_hasHeldY, a_queueSize, a_queueIsOfX, a_queueValue, a_queueDue, a_subStatus, a_subCode, a_subEnd, a_subDemand, a_subRequests, a_subDelivered, a_subWaiting, a_waitValue, a_history, a_taskWhat, a_taskPart, a_taskValue) u' i (ini 18 a b t) (begs 18 i xi yi a) R → post u') : wpX_beginPart post (f_time, f_sent, f_stageCount, f_tasks, a_sourceEnded, a_stageKind, a_stageA, a_stageB, a_stageParts, a_partStage, a_partUser, a_partX, a_partY, a_phase, a_beganAfter, a_due, a_count, a_held, a_heldY, a_hasHeld, a_hasHeldY, a_queueSize, a_queueIsOfX, a_queueValue, a_queueDue, a_subStatus, a_subCode, a_subEnd, a_subDemand, a_subRequests, a_subDelivered, a_subWaiting, a_waitValue, a_history, a_taskWhat, a_taskPart, a_taskValue) (nI i) := by
  obtain ⟨h27, ht, ht2, hps, hs, hk, ha, hb, ho⟩ := hx
  have hS0 := hS
  obtain ⟨a1, a2, a3, a4, a5, a6, a7, a8, a9, a10⟩ := hS
  have hcl : (nI i).toNatClampNeg = i := nI_clamp (by omega)
  have hcs : (nI s).toNatClampNeg = s := nI_clamp (by omega)
  have hin : vp_in (nI i) 27 := vp_in_nI h27 (by decide)
  have his : vp_in (nI s) 12 := vp_in_nI hs (by decide)
  have hps' : a_partStage (nI i).toNatClampNeg = nI s := by rw [hcl]; exact hps
  refine ⟨hin, nm_r (e' := nI s) hps' ⟨hin, nm_r (e' := upd a_phase i 1) (by rw [hcl]) ⟨hin, nm_r (e' := upd a_beganAfter i f_sent) (by rw [hcl]) ⟨his, nm_r (e' := nI 18) (by rw [hcs]; exact hk) (br_f (by decide) ?_)⟩⟩⟩⟩
  refine br_f (by decide) ?_
  iterate 18 (refine br_f (by decide) ?_)
  refine br_t rfl ?_
  have hX' : a_partX (nI i).toNatClampNeg = nI xi := by rw [hcl]; exact hX (by decide)
  have hY' : a_partY (nI i).toNatClampNeg = nI yi := by rw [hcl]; exact hY (by decide)
  refine ⟨hin, ?_⟩
  rw [hY']
  refine xw_push hT (by omega) ⟨hin, ?_⟩
  rw [hX']
  exact xw_push rfl (by omega) (H _ (xe_effB rfl rfl hS0 (fun j hj S hS => hS) rfl (xd_rps_push (w := 0) (R := (0, yi, 0) :: R) (xd_rps_push (w := 0) hR))))
theorem xb_19 {post : SX → Prop} {i t s xi yi : Nat} {a b : Int32} {R : List Tk} (hx : HA f_time a_partStage a_stageKind a_stageA a_stageB i t s 19 a b) (hS : RepA a_due a_count a_held a_heldY a_hasHeld a_hasHeldY a_queueSize a_queueIsOfX a_queueValue a_queueDue i clr) (hT : f_tasks = nI R.length) (hR : rps a_taskWhat a_taskPart a_taskValue R) (hl : R.length + 2 ≤ 128) (hX : 3 ≤ 19 → a_partX i = nI xi) (hY : 16 ≤ 19 → a_partY i = nI yi) (H : ∀ u', EffB (f_time, f_sent, f_stageCount, f_tasks, a_sourceEnded, a_stageKind, a_stageA, a_stageB, a_stageParts, a_partStage, a_partUser, a_partX, a_partY, a_phase, a_beganAfter, a_due, a_count, a_held, a_heldY, a_hasHeld, a_hasHeldY, a_queueSize, a_queueIsOfX, a_queueValue, a_queueDue, a_subStatus, a_subCode, a_subEnd, a_subDemand, a_subRequests, a_subDelivered, a_subWaiting, a_waitValue, a_history, a_taskWhat, a_taskPart, a_taskValue) u' i (ini 19 a b t) (begs 19 i xi yi a) R → post u') : wpX_beginPart post (f_time, f_sent, f_stageCount, f_tasks, a_sourceEnded, a_stageKind, a_stageA, a_stageB, a_stageParts, a_partStage, a_partUser, a_partX, a_partY, a_phase, a_beganAfter, a_due, a_count, a_held, a_heldY, a_hasHeld, a_hasHeldY, a_queueSize, a_queueIsOfX, a_queueValue, a_queueDue, a_subStatus, a_subCode, a_subEnd, a_subDemand, a_subRequests, a_subDelivered, a_subWaiting, a_waitValue, a_history, a_taskWhat, a_taskPart, a_taskValue) (nI i) := by
  obtain ⟨h27, ht, ht2, hps, hs, hk, ha, hb, ho⟩ := hx
  have hS0 := hS
  obtain ⟨a1, a2, a3, a4, a5, a6, a7, a8, a9, a10⟩ := hS
  have hcl : (nI i).toNatClampNeg = i := nI_clamp (by omega)
  have hcs : (nI s).toNatClampNeg = s := nI_clamp (by omega)
  have hin : vp_in (nI i) 27 := vp_in_nI h27 (by decide)
  have his : vp_in (nI s) 12 := vp_in_nI hs (by decide)
  have hps' : a_partStage (nI i).toNatClampNeg = nI s := by rw [hcl]; exact hps
  refine ⟨hin, nm_r (e' := nI s) hps' ⟨hin, nm_r (e' := upd a_phase i 1) (by rw [hcl]) ⟨hin, nm_r (e' := upd a_beganAfter i f_sent) (by rw [hcl]) ⟨his, nm_r (e' := nI 19) (by rw [hcs]; exact hk) (br_f (by decide) ?_)⟩⟩⟩⟩
  refine br_t (by decide) ?_
  have hX' : a_partX (nI i).toNatClampNeg = nI xi := by rw [hcl]; exact hX (by decide)
  refine ⟨hin, ?_⟩
  rw [hX']
  exact xw_push hT (by omega) (H _ (xe_effB rfl rfl hS0 (fun j hj S hS => hS) rfl (xd_rps_push (w := 0) hR)))
theorem xb_20 {post : SX → Prop} {i t s xi yi : Nat} {a b : Int32} {R : List Tk} (hx : HA f_time a_partStage a_stageKind a_stageA a_stageB i t s 20 a b) (hS : RepA a_due a_count a_held a_heldY a_hasHeld a_hasHeldY a_queueSize a_queueIsOfX a_queueValue a_queueDue i clr) (hT : f_tasks = nI R.length) (hR : rps a_taskWhat a_taskPart a_taskValue R) (hl : R.length + 2 ≤ 128) (hX : 3 ≤ 20 → a_partX i = nI xi) (hY : 16 ≤ 20 → a_partY i = nI yi) (H : ∀ u', EffB (f_time, f_sent, f_stageCount, f_tasks, a_sourceEnded, a_stageKind, a_stageA, a_stageB, a_stageParts, a_partStage, a_partUser, a_partX, a_partY, a_phase, a_beganAfter, a_due, a_count, a_held, a_heldY, a_hasHeld, a_hasHeldY, a_queueSize, a_queueIsOfX, a_queueValue, a_queueDue, a_subStatus, a_subCode, a_subEnd, a_subDemand, a_subRequests, a_subDelivered, a_subWaiting, a_waitValue, a_history, a_taskWhat, a_taskPart, a_taskValue) u' i (ini 20 a b t) (begs 20 i xi yi a) R → post u') : wpX_beginPart post (f_time, f_sent, f_stageCount, f_tasks, a_sourceEnded, a_stageKind, a_stageA, a_stageB, a_stageParts, a_partStage, a_partUser, a_partX, a_partY, a_phase, a_beganAfter, a_due, a_count, a_held, a_heldY, a_hasHeld, a_hasHeldY, a_queueSize, a_queueIsOfX, a_queueValue, a_queueDue, a_subStatus, a_subCode, a_subEnd, a_subDemand, a_subRequests, a_subDelivered, a_subWaiting, a_waitValue, a_history, a_taskWhat, a_taskPart, a_taskValue) (nI i) := by
  obtain ⟨h27, ht, ht2, hps, hs, hk, ha, hb, ho⟩ := hx
  have hS0 := hS
  obtain ⟨a1, a2, a3, a4, a5, a6, a7, a8, a9, a10⟩ := hS
  have hcl : (nI i).toNatClampNeg = i := nI_clamp (by omega)
  have hcs : (nI s).toNatClampNeg = s := nI_clamp (by omega)
  have hin : vp_in (nI i) 27 := vp_in_nI h27 (by decide)
  have his : vp_in (nI s) 12 := vp_in_nI hs (by decide)
  have hps' : a_partStage (nI i).toNatClampNeg = nI s := by rw [hcl]; exact hps
  refine ⟨hin, nm_r (e' := nI s) hps' ⟨hin, nm_r (e' := upd a_phase i 1) (by rw [hcl]) ⟨hin, nm_r (e' := upd a_beganAfter i f_sent) (by rw [hcl]) ⟨his, nm_r (e' := nI 20) (by rw [hcs]; exact hk) (br_f (by decide) ?_)⟩⟩⟩⟩
  refine br_t (by decide) ?_
  have hX' : a_partX (nI i).toNatClampNeg = nI xi := by rw [hcl]; exact hX (by decide)
  refine ⟨hin, ?_⟩
  rw [hX']
  exact xw_push hT (by omega) (H _ (xe_effB rfl rfl hS0 (fun j hj S hS => hS) rfl (xd_rps_push (w := 0) hR)))
end
end
section
/-! ===== fireTimer ===== -/
section
variable {f_time : Int32} {f_sent : Int32} {f_stageCount : Int32} {f_tasks : Int32} {a_sourceEnded : (Nat → Int32)} {a_stageKind : (Nat → Int32)} {a_stageA : (Nat → Int32)} {a_stageB : (Nat → Int32)} {a_stageParts : (Nat → Int32)} {a_partStage : (Nat → Int32)} {a_partUser : (Nat → Int32)} {a_partX : (Nat → Int32)} {a_partY : (Nat → Int32)} {a_phase : (Nat → Int32)} {a_beganAfter : (Nat → Int32)} {a_due : (Nat → Int32)} {a_count : (Nat → Int32)} {a_held : (Nat → Int32)} {a_heldY : (Nat → Int32)} {a_hasHeld : (Nat → Int32)} {a_hasHeldY : (Nat → Int32)} {a_queueSize : (Nat → Int32)} {a_queueIsOfX : (Nat → Int32)} {a_queueValue : (Nat → Int32)} {a_queueDue : (Nat → Int32)} {a_subStatus : (Nat → Int32)} {a_subCode : (Nat → Int32)} {a_subEnd : (Nat → Int32)} {a_subDemand : (Nat → Int64)} {a_subRequests : (Nat → Int32)} {a_subDelivered : (Nat → Int32)} {a_subWaiting : (Nat → Int32)} {a_waitValue : (Nat → Int32)} {a_history : (Nat → Int64)} {a_taskWhat : (Nat → Int32)} {a_taskPart : (Nat → Int32)} {a_taskValue : (Nat → Int32)}
theorem xf_none {k t d c : Nat} {a b h hy : Int32} {f fy qx ox oy : Bool} {q : List (Int32 × Nat)} (hk : k ≤ 20) (h11 : k ≠ 11) (hd : d ≠ t) : fi k a b t (d, c, h, hy, f, fy, qx, q, ox, oy) = ((d, c, h, hy, f, fy, qx, q, ox, oy), []) := by
  rcases rn_k hk with e | e | e | e | e | e | e | e | e | e | e | e | e | e | e | e | e | e | e | e | e <;> (first | (exact absurd e h11) | (subst e; simp [fi, hd]))
theorem xf_no {post : SX → Prop} {i t s d c : Nat} {a b h hy : Int32} {f fy qx ox oy : Bool} {q : List (Int32 × Nat)} {R : List Tk} {k : Nat} (hx : HA f_time a_partStage a_stageKind a_stageA a_stageB i t s k a b) (h1t : 1 ≤ t) (hS : RepA a_due a_count a_held a_heldY a_hasHeld a_hasHeldY a_queueSize a_queueIsOfX a_queueValue a_queueDue i (d, c, h, hy, f, fy, qx, q, ox, oy)) (ok : okS k b (d, c, h, hy, f, fy, qx, q, ox, oy)) (hT : f_tasks = nI R.length) (hR : rps a_taskWhat a_taskPart a_taskValue R) (hl : R.length + 9 ≤ 128) (h11 : k ≠ 11) (hne : d ≠ t) (H : ∀ u', Eff (f_time, f_sent, f_stageCount, f_tasks, a_sourceEnded, a_stageKind, a_stageA, a_stageB, a_stageParts, a_partStage, a_partUser, a_partX, a_partY, a_phase, a_beganAfter, a_due, a_count, a_held, a_heldY, a_hasHeld, a_hasHeldY, a_queueSize, a_queueIsOfX, a_queueValue, a_queueDue, a_subStatus, a_subCode, a_subEnd, a_subDemand, a_subRequests, a_subDelivered, a_subWaiting, a_waitValue, a_history, a_taskWhat, a_taskPart, a_taskValue) u' i (fi k a b t (d, c, h, hy, f, fy, qx, q, ox, oy)).1 (fi k a b t (d, c, h, hy, f, fy, qx, q, ox, oy)).2 R → post u') : wpX_fireTimer post (f_time, f_sent, f_stageCount, f_tasks, a_sourceEnded, a_stageKind, a_stageA, a_stageB, a_stageParts, a_partStage, a_partUser, a_partX, a_partY, a_phase, a_beganAfter, a_due, a_count, a_held, a_heldY, a_hasHeld, a_hasHeldY, a_queueSize, a_queueIsOfX, a_queueValue, a_queueDue, a_subStatus, a_subCode, a_subEnd, a_subDemand, a_subRequests, a_subDelivered, a_subWaiting, a_waitValue, a_history, a_taskWhat, a_taskPart, a_taskValue) (nI i) := by
  obtain ⟨h27, ht, ht2, hps, hs, hk, ha, hb, ho⟩ := hx
  have hS0 := hS
  obtain ⟨a1, a2, a3, a4, a5, a6, a7, a8, a9, a10⟩ := hS
  have hcl : (nI i).toNatClampNeg = i := nI_clamp (by omega)
  have hcs : (nI s).toNatClampNeg = s := nI_clamp (by omega)
  have hin : vp_in (nI i) 27 := vp_in_nI h27 (by decide)
  have his : vp_in (nI s) 12 := vp_in_nI hs (by decide)
  have hps' : a_partStage (nI i).toNatClampNeg = nI s := by rw [hcl]; exact hps
  have ht' : f_time = nI t := ht
  have a1' : a_due (nI i).toNatClampNeg = dI d := by rw [hcl]; exact a1
  have a2' : a_count (nI i).toNatClampNeg = nI c := by rw [hcl]; exact a2
  have a3' : a_held (nI i).toNatClampNeg = h := by rw [hcl]; exact a3
  have a5' : a_hasHeld (nI i).toNatClampNeg = bI f := by rw [hcl]; exact a5
  have hd : d < 1000 := ok.1
  rw [xf_none ho.1 h11 hne] at H
  refine ⟨hin, nm_r (e' := nI s) hps' ⟨his, br_f (by rw [hcs]; intro z; have z2 := hk.symm.trans z; rw [show (11 : Int32) = nI 11 from rfl, nI_eq (by have := ho.1; omega) (by decide)] at z2; exact h11 z2) ⟨hin, br_f (by rw [a1', ht', xd_dI hd (by omega) h1t]; exact hne) ?_⟩⟩⟩
  exact H _ (xe_eff hS0 (fun j hj S hS => hS) hT hR)
theorem xf_1 {post : SX → Prop} {i t s d c : Nat} {a b h hy : Int32} {f fy qx ox oy : Bool} {q : List (Int32 × Nat)} {R : List Tk} (hx : HA f_time a_partStage a_stageKind a_stageA a_stageB i t s 1 a b) (h1t : 1 ≤ t) (hS : RepA a_due a_count a_held a_heldY a_hasHeld a_hasHeldY a_queueSize a_queueIsOfX a_queueValue a_queueDue i (d, c, h, hy, f, fy, qx, q, ox, oy)) (ok : okS 1 b (d, c, h, hy, f, fy, qx, q, ox, oy)) (hT : f_tasks = nI R.length) (hR : rps a_taskWhat a_taskPart a_taskValue R) (hl : R.length + 9 ≤ 128) (hdt : d = t) (H : ∀ u', Eff (f_time, f_sent, f_stageCount, f_tasks, a_sourceEnded, a_stageKind, a_stageA, a_stageB, a_stageParts, a_partStage, a_partUser, a_partX, a_partY, a_phase, a_beganAfter, a_due, a_count, a_held, a_heldY, a_hasHeld, a_hasHeldY, a_queueSize, a_queueIsOfX, a_queueValue, a_queueDue, a_subStatus, a_subCode, a_subEnd, a_subDemand, a_subRequests, a_subDelivered, a_subWaiting, a_waitValue, a_history, a_taskWhat, a_taskPart, a_taskValue) u' i (fi 1 a b t (d, c, h, hy, f, fy, qx, q, ox, oy)).1 (fi 1 a b t (d, c, h, hy, f, fy, qx, q, ox, oy)).2 R → post u') : wpX_fireTimer post (f_time, f_sent, f_stageCount, f_tasks, a_sourceEnded, a_stageKind, a_stageA, a_stageB, a_stageParts, a_partStage, a_partUser, a_partX, a_partY, a_phase, a_beganAfter, a_due, a_count, a_held, a_heldY, a_hasHeld, a_hasHeldY, a_queueSize, a_queueIsOfX, a_queueValue, a_queueDue, a_subStatus, a_subCode, a_subEnd, a_subDemand, a_subRequests, a_subDelivered, a_subWaiting, a_waitValue, a_history, a_taskWhat, a_taskPart, a_taskValue) (nI i) := by
  obtain ⟨h27, ht, ht2, hps, hs, hk, ha, hb, ho⟩ := hx
  have hS0 := hS
  obtain ⟨a1, a2, a3, a4, a5, a6, a7, a8, a9, a10⟩ := hS
  have hcl : (nI i).toNatClampNeg = i := nI_clamp (by omega)
  have hcs : (nI s).toNatClampNeg = s := nI_clamp (by omega)
  have hin : vp_in (nI i) 27 := vp_in_nI h27 (by decide)
  have his : vp_in (nI s) 12 := vp_in_nI hs (by decide)
  have hps' : a_partStage (nI i).toNatClampNeg = nI s := by rw [hcl]; exact hps
  have ht' : f_time = nI t := ht
  have a1' : a_due (nI i).toNatClampNeg = dI d := by rw [hcl]; exact a1
  have a2' : a_count (nI i).toNatClampNeg = nI c := by rw [hcl]; exact a2
  have a3' : a_held (nI i).toNatClampNeg = h := by rw [hcl]; exact a3
  have a5' : a_hasHeld (nI i).toNatClampNeg = bI f := by rw [hcl]; exact a5
  have hd : d < 1000 := ok.1
  rw [show fi 1 a b t (d, c, h, hy, f, fy, qx, q, ox, oy) = ((t + cl a, c + 1, h, hy, f, fy, qx, q, ox, oy), [(1, nI c)]) from by simp [fi, hdt]] at H
  refine ⟨hin, nm_r (e' := nI s) hps' ⟨his, br_f (by rw [hcs]; intro z; have z2 := hk.symm.trans z; exact absurd z2 (by decide)) ⟨hin, br_t (by rw [a1', ht', xd_dI hd (by omega) h1t]; exact hdt) ⟨hin, nm_r (e' := upd a_due i (-1)) (by rw [hcl]) ⟨his, nm_r (e' := nI 1) (by rw [hcs]; exact hk) ?_⟩⟩⟩⟩⟩
  have ho1 := ho.2.2.1 rfl
  have ed : f_time + a_stageA (nI s).toNatClampNeg = dI (t + cl a) := by rw [ht', hcs, xd_dIp (by omega), ← nI_add, ← ho1.2.2]; exact congrArg _ ha
  refine br_t rfl ⟨his, hin, nm_r (e' := upd (upd a_due i (-1)) i (dI (t + cl a))) (by rw [ed, hcl]) ⟨hin, ?_⟩⟩
  rw [a2']
  refine xw_push hT (by omega) ⟨hin, hin, nm_r (e' := upd a_count i (nI (c + 1))) (by rw [a2', nI_1, hcl]) ?_⟩
  exact H _ (xe_eff ⟨pk_us, pk_us, a3, a4, a5, a6, a7, a8, a9, a10⟩ (fun j hj S hS => xd_frame hS ((pk_un hj).trans (pk_un hj)) (pk_un hj) rfl rfl rfl rfl rfl rfl (fun r hr => ⟨rfl, rfl⟩)) rfl (xd_rps_push (w := 1) hR))
theorem xf_12 {post : SX → Prop} {i t s d c : Nat} {a b h hy : Int32} {f fy qx ox oy : Bool} {q : List (Int32 × Nat)} {R : List Tk} (hx : HA f_time a_partStage a_stageKind a_stageA a_stageB i t s 12 a b) (h1t : 1 ≤ t) (hS : RepA a_due a_count a_held a_heldY a_hasHeld a_hasHeldY a_queueSize a_queueIsOfX a_queueValue a_queueDue i (d, c, h, hy, f, fy, qx, q, ox, oy)) (ok : okS 12 b (d, c, h, hy, f, fy, qx, q, ox, oy)) (hT : f_tasks = nI R.length) (hR : rps a_taskWhat a_taskPart a_taskValue R) (hl : R.length + 9 ≤ 128) (hdt : d = t) (H : ∀ u', Eff (f_time, f_sent, f_stageCount, f_tasks, a_sourceEnded, a_stageKind, a_stageA, a_stageB, a_stageParts, a_partStage, a_partUser, a_partX, a_partY, a_phase, a_beganAfter, a_due, a_count, a_held, a_heldY, a_hasHeld, a_hasHeldY, a_queueSize, a_queueIsOfX, a_queueValue, a_queueDue, a_subStatus, a_subCode, a_subEnd, a_subDemand, a_subRequests, a_subDelivered, a_subWaiting, a_waitValue, a_history, a_taskWhat, a_taskPart, a_taskValue) u' i (fi 12 a b t (d, c, h, hy, f, fy, qx, q, ox, oy)).1 (fi 12 a b t (d, c, h, hy, f, fy, qx, q, ox, oy)).2 R → post u') : wpX_fireTimer post (f_time, f_sent, f_stageCount, f_tasks, a_sourceEnded, a_stageKind, a_stageA, a_stageB, a_stageParts, a_partStage, a_partUser, a_partX, a_partY, a_phase, a_beganAfter, a_due, a_count, a_held, a_heldY, a_hasHeld, a_hasHeldY, a_queueSize, a_queueIsOfX, a_queueValue, a_queueDue, a_subStatus, a_subCode, a_subEnd, a_subDemand, a_subRequests, a_subDelivered, a_subWaiting, a_waitValue, a_history, a_taskWhat, a_taskPart, a_taskValue) (nI i) := by
  obtain ⟨h27, ht, ht2, hps, hs, hk, ha, hb, ho⟩ := hx
  have hS0 := hS
  obtain ⟨a1, a2, a3, a4, a5, a6, a7, a8, a9, a10⟩ := hS
  have hcl : (nI i).toNatClampNeg = i := nI_clamp (by omega)
  have hcs : (nI s).toNatClampNeg = s := nI_clamp (by omega)
  have hin : vp_in (nI i) 27 := vp_in_nI h27 (by decide)
  have his : vp_in (nI s) 12 := vp_in_nI hs (by decide)
  have hps' : a_partStage (nI i).toNatClampNeg = nI s := by rw [hcl]; exact hps
  have ht' : f_time = nI t := ht
  have a1' : a_due (nI i).toNatClampNeg = dI d := by rw [hcl]; exact a1
  have a2' : a_count (nI i).toNatClampNeg = nI c := by rw [hcl]; exact a2
  have a3' : a_held (nI i).toNatClampNeg = h := by rw [hcl]; exact a3
  have a5' : a_hasHeld (nI i).toNatClampNeg = bI f := by rw [hcl]; exact a5
  have hd : d < 1000 := ok.1
  rw [show fi 12 a b t (d, c, h, hy, f, fy, qx, q, ox, oy) = ((0, c, h, hy, f, fy, qx, q, ox, oy), [(1, h)]) from by simp [fi, hdt]] at H
  refine ⟨hin, nm_r (e' := nI s) hps' ⟨his, br_f (by rw [hcs]; intro z; have z2 := hk.symm.trans z; exact absurd z2 (by decide)) ⟨hin, br_t (by rw [a1', ht', xd_dI hd (by omega) h1t]; exact hdt) ⟨hin, nm_r (e' := upd a_due i (-1)) (by rw [hcl]) ⟨his, nm_r (e' := nI 12) (by rw [hcs]; exact hk) ?_⟩⟩⟩⟩⟩
  refine br_f (by decide) (br_t rfl ⟨hin, ?_⟩)
  rw [a3']
  exact xw_push hT (by omega) (H _ (xe_eff ⟨pk_us, a2, a3, a4, a5, a6, a7, a8, a9, a10⟩ (fun j hj S hS => xd_frame hS (pk_un hj) rfl rfl rfl rfl rfl rfl rfl (fun r hr => ⟨rfl, rfl⟩)) rfl (xd_rps_push (w := 1) hR)))
theorem xf_15 {post : SX → Prop} {i t s d c : Nat} {a b h hy : Int32} {f fy qx ox oy : Bool} {q : List (Int32 × Nat)} {R : List Tk} (hx : HA f_time a_partStage a_stageKind a_stageA a_stageB i t s 15 a b) (h1t : 1 ≤ t) (hS : RepA a_due a_count a_held a_heldY a_hasHeld a_hasHeldY a_queueSize a_queueIsOfX a_queueValue a_queueDue i (d, c, h, hy, f, fy, qx, q, ox, oy)) (ok : okS 15 b (d, c, h, hy, f, fy, qx, q, ox, oy)) (hT : f_tasks = nI R.length) (hR : rps a_taskWhat a_taskPart a_taskValue R) (hl : R.length + 9 ≤ 128) (hdt : d = t) (H : ∀ u', Eff (f_time, f_sent, f_stageCount, f_tasks, a_sourceEnded, a_stageKind, a_stageA, a_stageB, a_stageParts, a_partStage, a_partUser, a_partX, a_partY, a_phase, a_beganAfter, a_due, a_count, a_held, a_heldY, a_hasHeld, a_hasHeldY, a_queueSize, a_queueIsOfX, a_queueValue, a_queueDue, a_subStatus, a_subCode, a_subEnd, a_subDemand, a_subRequests, a_subDelivered, a_subWaiting, a_waitValue, a_history, a_taskWhat, a_taskPart, a_taskValue) u' i (fi 15 a b t (d, c, h, hy, f, fy, qx, q, ox, oy)).1 (fi 15 a b t (d, c, h, hy, f, fy, qx, q, ox, oy)).2 R → post u') : wpX_fireTimer post (f_time, f_sent, f_stageCount, f_tasks, a_sourceEnded, a_stageKind, a_stageA, a_stageB, a_stageParts, a_partStage, a_partUser, a_partX, a_partY, a_phase, a_beganAfter, a_due, a_count, a_held, a_heldY, a_hasHeld, a_hasHeldY, a_queueSize, a_queueIsOfX, a_queueValue, a_queueDue, a_subStatus, a_subCode, a_subEnd, a_subDemand, a_subRequests, a_subDelivered, a_subWaiting, a_waitValue, a_history, a_taskWhat, a_taskPart, a_taskValue) (nI i) := by
  obtain ⟨h27, ht, ht2, hps, hs, hk, ha, hb, ho⟩ := hx
  have hS0 := hS
  obtain ⟨a1, a2, a3, a4, a5, a6, a7, a8, a9, a10⟩ := hS
  have hcl : (nI i).toNatClampNeg = i := nI_clamp (by omega)
  have hcs : (nI s).toNatClampNeg = s := nI_clamp (by omega)
  have hin : vp_in (nI i) 27 := vp_in_nI h27 (by decide)
  have his : vp_in (nI s) 12 := vp_in_nI hs (by decide)
  have hps' : a_partStage (nI i).toNatClampNeg = nI s := by rw [hcl]; exact hps
  have ht' : f_time = nI t := ht
  have a1' : a_due (nI i).toNatClampNeg = dI d := by rw [hcl]; exact a1
  have a2' : a_count (nI i).toNatClampNeg = nI c := by rw [hcl]; exact a2
  have a3' : a_held (nI i).toNatClampNeg = h := by rw [hcl]; exact a3
  have a5' : a_hasHeld (nI i).toNatClampNeg = bI f := by rw [hcl]; exact a5
  have hd : d < 1000 := ok.1
  rw [show fi 15 a b t (d, c, h, hy, f, fy, qx, q, ox, oy) = ((0, c, h, hy, f, fy, qx, q, ox, oy), [(3, 9)]) from by simp [fi, hdt]] at H
  refine ⟨hin, nm_r (e' := nI s) hps' ⟨his, br_f (by rw [hcs]; intro z; have z2 := hk.symm.trans z; exact absurd z2 (by decide)) ⟨hin, br_t (by rw [a1', ht', xd_dI hd (by omega) h1t]; exact hdt) ⟨hin, nm_r (e' := upd a_due i (-1)) (by rw [hcl]) ⟨his, nm_r (e' := nI 15) (by rw [hcs]; exact hk) ?_⟩⟩⟩⟩⟩
  refine br_f (by decide) (br_f (by decide) (br_f (by decide) (br_t rfl ?_)))
  exact xw_push hT (by omega) (H _ (xe_eff ⟨pk_us, a2, a3, a4, a5, a6, a7, a8, a9, a10⟩ (fun j hj S hS => xd_frame hS (pk_un hj) rfl rfl rfl rfl rfl rfl rfl (fun r hr => ⟨rfl, rfl⟩)) rfl (xd_rps_push (w := 3) hR)))
theorem xf_14 {post : SX → Prop} {i t s d c : Nat} {a b h hy : Int32} {f fy qx ox oy : Bool} {q : List (Int32 × Nat)} {R : List Tk} (hx : HA f_time a_partStage a_stageKind a_stageA a_stageB i t s 14 a b) (h1t : 1 ≤ t) (hS : RepA a_due a_count a_held a_heldY a_hasHeld a_hasHeldY a_queueSize a_queueIsOfX a_queueValue a_queueDue i (d, c, h, hy, f, fy, qx, q, ox, oy)) (ok : okS 14 b (d, c, h, hy, f, fy, qx, q, ox, oy)) (hT : f_tasks = nI R.length) (hR : rps a_taskWhat a_taskPart a_taskValue R) (hl : R.length + 9 ≤ 128) (hdt : d = t) (H : ∀ u', Eff (f_time, f_sent, f_stageCount, f_tasks, a_sourceEnded, a_stageKind, a_stageA, a_stageB, a_stageParts, a_partStage, a_partUser, a_partX, a_partY, a_phase, a_beganAfter, a_due, a_count, a_held, a_heldY, a_hasHeld, a_hasHeldY, a_queueSize, a_queueIsOfX, a_queueValue, a_queueDue, a_subStatus, a_subCode, a_subEnd, a_subDemand, a_subRequests, a_subDelivered, a_subWaiting, a_waitValue, a_history, a_taskWhat, a_taskPart, a_taskValue) u' i (fi 14 a b t (d, c, h, hy, f, fy, qx, q, ox, oy)).1 (fi 14 a b t (d, c, h, hy, f, fy, qx, q, ox, oy)).2 R → post u') : wpX_fireTimer post (f_time, f_sent, f_stageCount, f_tasks, a_sourceEnded, a_stageKind, a_stageA, a_stageB, a_stageParts, a_partStage, a_partUser, a_partX, a_partY, a_phase, a_beganAfter, a_due, a_count, a_held, a_heldY, a_hasHeld, a_hasHeldY, a_queueSize, a_queueIsOfX, a_queueValue, a_queueDue, a_subStatus, a_subCode, a_subEnd, a_subDemand, a_subRequests, a_subDelivered, a_subWaiting, a_waitValue, a_history, a_taskWhat, a_taskPart, a_taskValue) (nI i) := by
  obtain ⟨h27, ht, ht2, hps, hs, hk, ha, hb, ho⟩ := hx
  have hS0 := hS
  obtain ⟨a1, a2, a3, a4, a5, a6, a7, a8, a9, a10⟩ := hS
  have hcl : (nI i).toNatClampNeg = i := nI_clamp (by omega)
  have hcs : (nI s).toNatClampNeg = s := nI_clamp (by omega)
  have hin : vp_in (nI i) 27 := vp_in_nI h27 (by decide)
  have his : vp_in (nI s) 12 := vp_in_nI hs (by decide)
  have hps' : a_partStage (nI i).toNatClampNeg = nI s := by rw [hcl]; exact hps
  have ht' : f_time = nI t := ht
  have a1' : a_due (nI i).toNatClampNeg = dI d := by rw [hcl]; exact a1
  have a2' : a_count (nI i).toNatClampNeg = nI c := by rw [hcl]; exact a2
  have a3' : a_held (nI i).toNatClampNeg = h := by rw [hcl]; exact a3
  have a5' : a_hasHeld (nI i).toNatClampNeg = bI f := by rw [hcl]; exact a5
  have hd : d < 1000 := ok.1
  rw [show fi 14 a b t (d, c, h, hy, f, fy, qx, q, ox, oy) = ((t + cl b, c, h, hy, false, fy, qx, q, ox, oy), if f = true then [(1, h)] else []) from by simp [fi, hdt]] at H
  refine ⟨hin, nm_r (e' := nI s) hps' ⟨his, br_f (by rw [hcs]; intro z; have z2 := hk.symm.trans z; exact absurd z2 (by decide)) ⟨hin, br_t (by rw [a1', ht', xd_dI hd (by omega) h1t]; exact hdt) ⟨hin, nm_r (e' := upd a_due i (-1)) (by rw [hcl]) ⟨his, nm_r (e' := nI 14) (by rw [hcs]; exact hk) ?_⟩⟩⟩⟩⟩
  have ho1 := ho.2.2.2.2.2.2 (by decide) (by decide)
  have ed : f_time + a_stageB (nI s).toNatClampNeg = dI (t + cl b) := by rw [ht', hcs, xd_dIp (by omega), ← nI_add, ← ho1.2.2]; exact congrArg _ hb
  refine br_f (by decide) (br_f (by decide) (br_t rfl ⟨his, hin, nm_r (e' := upd (upd a_due i (-1)) i (dI (t + cl b))) (by rw [ed, hcl]) ⟨hin, ?_⟩⟩))
  by_cases hf : f = true
  · rw [if_pos hf] at H
    refine br_f (by rw [a5', hf]; decide) ⟨hin, ?_⟩
    rw [a3']
    refine xw_push hT (by omega) ⟨hin, nm_r (e' := upd a_hasHeld i (bI false)) (by rw [hcl]; rfl) ?_⟩
    exact H _ (xe_eff ⟨pk_us, a2, a3, a4, pk_us, a6, a7, a8, a9, a10⟩ (fun j hj S hS => xd_frame hS ((pk_un hj).trans (pk_un hj)) rfl rfl rfl (pk_un hj) rfl rfl rfl (fun r hr => ⟨rfl, rfl⟩)) rfl (xd_rps_push (w := 1) hR))
  · rw [if_neg hf] at H
    refine br_t (by rw [a5', xd_bI0]; simpa using hf) ⟨hin, nm_r (e' := upd a_hasHeld i (bI false)) (by rw [hcl]; rfl) ?_⟩
    exact H _ (xe_eff ⟨pk_us, a2, a3, a4, pk_us, a6, a7, a8, a9, a10⟩ (fun j hj S hS => xd_frame hS ((pk_un hj).trans (pk_un hj)) rfl rfl rfl (pk_un hj) rfl rfl rfl (fun r hr => ⟨rfl, rfl⟩)) hT hR)
theorem xf_rd_s {t : Nat} {q : List (Int32 × Nat)} {j : Nat} {e : Int32 × Nat} (h : q[j]? = some e) : rdy t (q.take (j + 1)) = rdy t (q.take j) + if e.2 = t then 1 else 0 := by
  unfold rdy
  rw [List.take_add_one, h, List.filter_append, List.length_append]
  congr 1
  by_cases hh : e.2 = t
  · simp [hh]
  · simp [hh]
theorem xf_rd_le (t : Nat) (q : List (Int32 × Nat)) : rdy t q ≤ q.length := List.length_filter_le _ _
/-- the counting loop -/
theorem xf_cnt {post : SX → Prop} {i t : Nat} {q : List (Int32 × Nat)} (h27 : i < 27) (ht : f_time = nI t) (ht2 : t ≤ 200) (h1t : 1 ≤ t) (a8 : a_queueSize i = nI q.length) (a9 : q.length ≤ 8) (a10 : ∀ j e, q[j]? = some e → a_queueValue (8 * i + j) = e.1 ∧ a_queueDue (8 * i + j) = dI e.2) (o5 : ∀ e ∈ q, e.2 < 1000)
    (H1 : a_due (nI i).toNatClampNeg = f_time → wpX_push (fun u => match u with | (f_time, f_sent, f_stageCount, f_tasks, a_sourceEnded, a_stageKind, a_stageA, a_stageB, a_stageParts, a_partStage, a_partUser, a_partX, a_partY, a_phase, a_beganAfter, a_due, a_count, a_held, a_heldY, a_hasHeld, a_hasHeldY, a_queueSize, a_queueIsOfX, a_queueValue, a_queueDue, a_subStatus, a_subCode, a_subEnd, a_subDemand, a_subRequests, a_subDelivered, a_subWaiting, a_waitValue, a_history, a_taskWhat, a_taskPart, a_taskValue) => ∀ x4 : Int32, x4 = nI (rdy t q) - 1 → ∃ n71 : Nat, wX_releaseDelayed_71 post (nI i) (nI (8 * i)) (nI (rdy t q)) n71 x4 f_time f_sent f_stageCount f_tasks a_sourceEnded a_stageKind a_stageA a_stageB a_stageParts a_partStage a_partUser a_partX a_partY a_phase a_beganAfter a_due a_count a_held a_heldY a_hasHeld a_hasHeldY a_queueSize a_queueIsOfX a_queueValue a_queueDue a_subStatus a_subCode a_subEnd a_subDemand a_subRequests a_subDelivered a_subWaiting a_waitValue a_history a_taskWhat a_taskPart a_taskValue) (f_time, f_sent, f_stageCount, f_tasks, a_sourceEnded, a_stageKind, a_stageA, a_stageB, a_stageParts, a_partStage, a_partUser, a_partX, a_partY, a_phase, a_beganAfter, a_due, a_count, a_held, a_heldY, a_hasHeld, a_hasHeldY, a_queueSize, a_queueIsOfX, a_queueValue, a_queueDue, a_subStatus, a_subCode, a_subEnd, a_subDemand, a_subRequests, a_subDelivered, a_subWaiting, a_waitValue, a_history, a_taskWhat, a_taskPart, a_taskValue) 2 (nI i) 0)
    (H2 : ¬ a_due (nI i).toNatClampNeg = f_time → ∀ x4 : Int32, x4 = nI (rdy t q) - 1 → ∃ n71 : Nat, wX_releaseDelayed_71 post (nI i) (nI (8 * i)) (nI (rdy t q)) n71 x4 f_time f_sent f_stageCount f_tasks a_sourceEnded a_stageKind a_stageA a_stageB a_stageParts a_partStage a_partUser a_partX a_partY a_phase a_beganAfter a_due a_count a_held a_heldY a_hasHeld a_hasHeldY a_queueSize a_queueIsOfX a_queueValue a_queueDue a_subStatus a_subCode a_subEnd a_subDemand a_subRequests a_subDelivered a_subWaiting a_waitValue a_history a_taskWhat a_taskPart a_taskValue) :
    ∀ (e j : Nat), j + e = q.length → wX_releaseDelayed_10 post (nI i) (nI (8 * i)) f_time f_sent f_stageCount f_tasks a_sourceEnded a_stageKind a_stageA a_stageB a_stageParts a_partStage a_partUser a_partX a_partY a_phase a_beganAfter a_due a_count a_held a_heldY a_hasHeld a_hasHeldY a_queueSize a_queueIsOfX a_queueValue a_queueDue a_subStatus a_subCode a_subEnd a_subDemand a_subRequests a_subDelivered a_subWaiting a_waitValue a_history a_taskWhat a_taskPart a_taskValue (e + 1) (nI (rdy t (q.take j))) (nI j) := by
  have hcl : (nI i).toNatClampNeg = i := nI_clamp (by omega)
  have hin : vp_in (nI i) 27 := vp_in_nI h27 (by decide)
  have a8' : a_queueSize (nI i).toNatClampNeg = nI q.length := by rw [hcl]; exact a8
  intro e
  induction e with
  | zero =>
    intro j hj
    have hj' : j = q.length := by omega
    subst hj'
    rw [List.take_length]
    exact ⟨hin, br_t (by rw [a8']; exact nI_le (by omega) (by omega)) ⟨hin, H1, H2⟩⟩
  | succ e ih =>
    intro j hj
    have hjl : j < q.length := by omega
    obtain ⟨x, hx⟩ : ∃ x, q[j]? = some x := ⟨q[j], List.getElem?_eq_getElem hjl⟩
    have hm : x ∈ q := List.mem_of_getElem? hx
    have e1 : nI (8 * i) + nI j = nI (8 * i + j) := nI_add _ _
    have c1 : (nI (8 * i) + nI j).toNatClampNeg = 8 * i + j := by rw [e1]; exact nI_clamp (by omega)
    have hdv : a_queueDue (nI (8 * i) + nI j).toNatClampNeg = dI x.2 := by rw [c1]; exact (a10 j x hx).2
    refine ⟨hin, br_f (by rw [a8']; exact nI_ge (by omega) (by omega)) ⟨by rw [e1]; exact vp_in_nI (by omega) (by decide), ?_⟩⟩
    have hih := ih (j + 1) (by omega)
    rw [xf_rd_s hx] at hih
    by_cases hh : x.2 = t
    · rw [if_pos hh] at hih
      exact br_t (by rw [hdv, ht, xd_dI (o5 x hm) (by omega) h1t]; exact hh) (nm_r (nI_1 _) (nm_r (nI_1 _) hih))
    · rw [if_neg hh, Nat.add_zero] at hih
      exact br_f (by rw [hdv, ht, xd_dI (o5 x hm) (by omega) h1t]; exact hh) (nm_r (nI_1 _) hih)
/-- the pushing loop -/
theorem xf_psh {post : SX → Prop} {i g : Nat} {q : List (Int32 × Nat)} {R : List Tk} (h27 : i < 27) (a9 : q.length ≤ 8) (hg : g ≤ q.length) (a10 : ∀ j e, q[j]? = some e → a_queueValue (8 * i + j) = e.1 ∧ a_queueDue (8 * i + j) = dI e.2) (hl : R.length + 8 ≤ 128)
    (H : ∀ (tk : Int32) (tw tp tv : Nat → Int32), tk = nI (ots i ((q.take g).map (fun e => (1, e.1))) ++ R).length → rps tw tp tv (ots i ((q.take g).map (fun e => (1, e.1))) ++ R) → wpX_dropFromQueue post (f_time, f_sent, f_stageCount, tk, a_sourceEnded, a_stageKind, a_stageA, a_stageB, a_stageParts, a_partStage, a_partUser, a_partX, a_partY, a_phase, a_beganAfter, a_due, a_count, a_held, a_heldY, a_hasHeld, a_hasHeldY, a_queueSize, a_queueIsOfX, a_queueValue, a_queueDue, a_subStatus, a_subCode, a_subEnd, a_subDemand, a_subRequests, a_subDelivered, a_subWaiting, a_waitValue, a_history, tw, tp, tv) (nI i) (nI g)) :
    ∀ (m : Nat) (tk : Int32) (tw tp tv : Nat → Int32), m ≤ g → tk = nI (ots i (((q.take g).drop m).map (fun e => (1, e.1))) ++ R).length → rps tw tp tv (ots i (((q.take g).drop m).map (fun e => (1, e.1))) ++ R) → wX_releaseDelayed_71 post (nI i) (nI (8 * i)) (nI g) (m + 1) (nI m - 1) f_time f_sent f_stageCount (tk) a_sourceEnded a_stageKind a_stageA a_stageB a_stageParts a_partStage a_partUser a_partX a_partY a_phase a_beganAfter a_due a_count a_held a_heldY a_hasHeld a_hasHeldY a_queueSize a_queueIsOfX a_queueValue a_queueDue a_subStatus a_subCode a_subEnd a_subDemand a_subRequests a_subDelivered a_subWaiting a_waitValue a_history (tw) (tp) (tv) := by
  intro m
  induction m with
  | zero =>
    intro tk tw tp tv hm h1 h2
    refine br_t (by decide) ?_
    exact H tk tw tp tv h1 h2
  | succ m ih =>
    intro tk tw tp tv hm h1 h2
    have hmq : m < q.length := by omega
    obtain ⟨x, hx⟩ : ∃ x, q[m]? = some x := ⟨q[m], List.getElem?_eq_getElem hmq⟩
    have hdr : (q.take g).drop m = x :: (q.take g).drop (m + 1) := by
      have hx2 : (q.take g)[m]? = some x := by rw [List.getElem?_take_of_lt (by omega)]; exact hx
      obtain ⟨hlt, hv⟩ := List.getElem?_eq_some_iff.mp hx2
      rw [List.drop_eq_getElem_cons hlt, hv]
    have e0 : nI (m + 1) - 1 = nI m := nI_pred m
    have e1 : nI (8 * i) + (nI (m + 1) - 1) = nI (8 * i + m) := by rw [e0]; exact nI_add _ _
    have c1 : (nI (8 * i) + (nI (m + 1) - 1)).toNatClampNeg = 8 * i + m := by rw [e1]; exact nI_clamp (by omega)
    have hlen : (ots i (((q.take g).drop (m + 1)).map (fun e => (1, e.1))) ++ R).length < 128 := by
      simp [ots]; omega
    refine br_f (by rw [e0]; exact nI_pos (by omega)) ⟨by rw [e1]; exact vp_in_nI (by omega) (by decide), ?_⟩
    rw [show a_queueValue (nI (8 * i) + (nI (m + 1) - 1)).toNatClampNeg = x.1 from by rw [c1]; exact (a10 m x hx).1]
    refine xw_push h1 hlen (nm_r (e' := nI m - 1) (by rw [e0, Int32.sub_eq_add_neg]) ?_)
    refine ih _ _ _ _ (by omega) ?_ ?_
    · rw [hdr]; rfl
    · rw [hdr]; exact xd_rps_push (w := 1) h2
theorem xf_11 {post : SX → Prop} {i t s d c : Nat} {a b h hy : Int32} {f fy qx ox oy : Bool} {q : List (Int32 × Nat)} {R : List Tk} (hx : HA f_time a_partStage a_stageKind a_stageA a_stageB i t s 11 a b) (h1t : 1 ≤ t) (hS : RepA a_due a_count a_held a_heldY a_hasHeld a_hasHeldY a_queueSize a_queueIsOfX a_queueValue a_queueDue i (d, c, h, hy, f, fy, qx, q, ox, oy)) (ok : okS 11 b (d, c, h, hy, f, fy, qx, q, ox, oy)) (hT : f_tasks = nI R.length) (hR : rps a_taskWhat a_taskPart a_taskValue R) (hl : R.length + 9 ≤ 128) (H : ∀ u', Eff (f_time, f_sent, f_stageCount, f_tasks, a_sourceEnded, a_stageKind, a_stageA, a_stageB, a_stageParts, a_partStage, a_partUser, a_partX, a_partY, a_phase, a_beganAfter, a_due, a_count, a_held, a_heldY, a_hasHeld, a_hasHeldY, a_queueSize, a_queueIsOfX, a_queueValue, a_queueDue, a_subStatus, a_subCode, a_subEnd, a_subDemand, a_subRequests, a_subDelivered, a_subWaiting, a_waitValue, a_history, a_taskWhat, a_taskPart, a_taskValue) u' i (fi 11 a b t (d, c, h, hy, f, fy, qx, q, ox, oy)).1 (fi 11 a b t (d, c, h, hy, f, fy, qx, q, ox, oy)).2 R → post u') : wpX_fireTimer post (f_time, f_sent, f_stageCount, f_tasks, a_sourceEnded, a_stageKind, a_stageA, a_stageB, a_stageParts, a_partStage, a_partUser, a_partX, a_partY, a_phase, a_beganAfter, a_due, a_count, a_held, a_heldY, a_hasHeld, a_hasHeldY, a_queueSize, a_queueIsOfX, a_queueValue, a_queueDue, a_subStatus, a_subCode, a_subEnd, a_subDemand, a_subRequests, a_subDelivered, a_subWaiting, a_waitValue, a_history, a_taskWhat, a_taskPart, a_taskValue) (nI i) := by
  obtain ⟨h27, ht, ht2, hps, hs, hk, ha, hb, ho⟩ := hx
  have hS0 := hS
  obtain ⟨a1, a2, a3, a4, a5, a6, a7, a8, a9, a10⟩ := hS
  have hcl : (nI i).toNatClampNeg = i := nI_clamp (by omega)
  have hcs : (nI s).toNatClampNeg = s := nI_clamp (by omega)
  have hin : vp_in (nI i) 27 := vp_in_nI h27 (by decide)
  have his : vp_in (nI s) 12 := vp_in_nI hs (by decide)
  have hps' : a_partStage (nI i).toNatClampNeg = nI s := by rw [hcl]; exact hps
  have ht' : f_time = nI t := ht
  have a1' : a_due (nI i).toNatClampNeg = dI d := by rw [hcl]; exact a1
  have a2' : a_count (nI i).toNatClampNeg = nI c := by rw [hcl]; exact a2
  have a3' : a_held (nI i).toNatClampNeg = h := by rw [hcl]; exact a3
  have a5' : a_hasHeld (nI i).toNatClampNeg = bI f := by rw [hcl]; exact a5
  have hd : d < 1000 := ok.1
  have o5 := ok.2.2.2.2.1
  have hgl : rdy t q ≤ q.length := xf_rd_le t q
  have efi : fi 11 a b t (d, c, h, hy, f, fy, qx, q, ox, oy) = ((d, c, h, hy, f, fy, qx, q.drop (rdy t q), ox, oy), (q.take (rdy t q)).map (fun e => (1, e.1)) ++ if d = t then [(2, 0)] else []) := rfl
  rw [efi] at H
  refine ⟨hin, nm_r (e' := nI s) hps' ⟨his, br_t (by rw [hcs]; exact hk) ?_⟩⟩
  refine nm_r (e' := nI (8 * i)) (by rw [show (8 : Int32) = nI 8 from rfl, pk_mul, Nat.mul_comm]) ⟨q.length + 1, ?_⟩
  have drp : ∀ (R' : List Tk), ots i ((q.take (rdy t q)).map (fun e => (1, e.1))) ++ R' = ots i ((q.take (rdy t q)).map (fun e => (1, e.1)) ++ if d = t then [(2, 0)] else []) ++ R → R'.length + 8 ≤ 128 → ∀ (tk : Int32) (tw tp tv : Nat → Int32), tk = nI R'.length → rps tw tp tv R' → ∃ n71 : Nat, wX_releaseDelayed_71 (fun u => match u with | (f_time, f_sent, f_stageCount, f_tasks, a_sourceEnded, a_stageKind, a_stageA, a_stageB, a_stageParts, a_partStage, a_partUser, a_partX, a_partY, a_phase, a_beganAfter, a_due, a_count, a_held, a_heldY, a_hasHeld, a_hasHeldY, a_queueSize, a_queueIsOfX, a_queueValue, a_queueDue, a_subStatus, a_subCode, a_subEnd, a_subDemand, a_subRequests, a_subDelivered, a_subWaiting, a_waitValue, a_history, a_taskWhat, a_taskPart, a_taskValue) => post (f_time, f_sent, f_stageCount, f_tasks, a_sourceEnded, a_stageKind, a_stageA, a_stageB, a_stageParts, a_partStage, a_partUser, a_partX, a_partY, a_phase, a_beganAfter, a_due, a_count, a_held, a_heldY, a_hasHeld, a_hasHeldY, a_queueSize, a_queueIsOfX, a_queueValue, a_queueDue, a_subStatus, a_subCode, a_subEnd, a_subDemand, a_subRequests, a_subDelivered, a_subWaiting, a_waitValue, a_history, a_taskWhat, a_taskPart, a_taskValue)) (nI i) (nI (8 * i)) (nI (rdy t q)) n71 (nI (rdy t q) - 1) f_time f_sent f_stageCount (tk) a_sourceEnded a_stageKind a_stageA a_stageB a_stageParts a_partStage a_partUser a_partX a_partY a_phase a_beganAfter a_due a_count a_held a_heldY a_hasHeld a_hasHeldY a_queueSize a_queueIsOfX a_queueValue a_queueDue a_subStatus a_subCode a_subEnd a_subDemand a_subRequests a_subDelivered a_subWaiting a_waitValue a_history (tw) (tp) (tv) := by
    intro R' hR' hl' tk tw tp tv h1 h2
    have hnil : ((q.take (rdy t q)).drop (rdy t q)) = [] := by
      rw [List.drop_eq_nil_iff]; simp; omega
    refine ⟨rdy t q + 1, xf_psh h27 a9 hgl a10 hl' (fun tk tw tp tv g1 g2 => ?_) (rdy t q) tk tw tp tv (Nat.le_refl _) (by rw [hnil]; exact h1) (by rw [hnil]; exact h2)⟩
    refine xh_drop h27 a9 hgl a8 (fun qv' qd' k1 k2 => ?_)
    rw [hR'] at g1 g2
    refine H _ (xe_eff ?_ (fun j hj S hS => xd_frame hS rfl rfl rfl rfl rfl rfl (pk_un hj) rfl (fun r hr => k2 j hj r hr)) g1 g2)
    refine ⟨a1, a2, a3, a4, a5, a6, fun ⟨e, he, h0⟩ => a7 ⟨e, List.mem_of_mem_drop he, h0⟩, ?_, by rw [List.length_drop]; omega, fun j e he => ?_⟩
    · rw [List.length_drop]; exact pk_us
    · rw [List.getElem?_drop] at he
      have hj := xh_q0 he
      have := k1 j (by omega)
      rw [this.1, this.2, show 8 * i + j + rdy t q = 8 * i + (rdy t q + j) from by omega]
      exact a10 _ e he
  refine xf_cnt (post := fun u => match u with | (f_time, f_sent, f_stageCount, f_tasks, a_sourceEnded, a_stageKind, a_stageA, a_stageB, a_stageParts, a_partStage, a_partUser, a_partX, a_partY, a_phase, a_beganAfter, a_due, a_count, a_held, a_heldY, a_hasHeld, a_hasHeldY, a_queueSize, a_queueIsOfX, a_queueValue, a_queueDue, a_subStatus, a_subCode, a_subEnd, a_subDemand, a_subRequests, a_subDelivered, a_subWaiting, a_waitValue, a_history, a_taskWhat, a_taskPart, a_taskValue) => post (f_time, f_sent, f_stageCount, f_tasks, a_sourceEnded, a_stageKind, a_stageA, a_stageB, a_stageParts, a_partStage, a_partUser, a_partX, a_partY, a_phase, a_beganAfter, a_due, a_count, a_held, a_heldY, a_hasHeld, a_hasHeldY, a_queueSize, a_queueIsOfX, a_queueValue, a_queueDue, a_subStatus, a_subCode, a_subEnd, a_subDemand, a_subRequests, a_subDelivered, a_subWaiting, a_waitValue, a_history, a_taskWhat, a_taskPart, a_taskValue)) h27 ht' ht2 h1t a8 a9 a10 o5 (fun hdt => ?_) (fun hdt => ?_) q.length 0 (by omega)
  · rw [a1', ht', xd_dI hd (by omega) h1t] at hdt
    refine xw_push hT (by omega) (nm_e ?_)
    refine drp ((2, i, 0) :: R) ?_ (by simp; omega) _ _ _ _ rfl (xd_rps_push (w := 2) hR)
    rw [if_pos hdt]
    simp [ots]
  · rw [a1', ht', xd_dI hd (by omega) h1t] at hdt
    refine nm_e ?_
    refine drp R ?_ (by omega) _ _ _ _ hT hR
    rw [if_neg hdt]
    simp [ots]
end
end
section
/-! ===== the subscription's own cells ===== -/
abbrev Sb : Type := Int32 × Int32 × Nat × Int64 × Int32 × List Int32 × (Nat → Int64)
def hv (t : Nat) (v : Int32) : Int64 := ((nI t).toInt64 <<< ((32 : Int32).toInt64 &&& 63)) + (v.toInt64 &&& 4294967295)
def dj (x : Int32) : Nat := x.toBitVec.toNat % 16
def dec1 (dm : Int64) : Int64 := if dm = 9223372036854775807 then dm else dm - 1
def sdl (t : Nat) (v : Int32) : Sb → Sb
  | (st, co, en, dm, dv, ws, hh) => (st, co, en, dec1 dm, dv + 1, ws, vp_updL hh (dj dv) (hv t v))
def sef : Sb → Sb
  | (st, co, en, dm, dv, ws, hh) => if en ≠ 0 ∧ ws = [] then (if en = 3 then 2 else 1, co, en, dm, dv, [], hh) else (st, co, en, dm, dv, ws, hh)
/-- the root says (w, v) at time t -/
def sst (t w : Nat) (v : Int32) : Sb → Sb
  | (st, co, en, dm, dv, ws, hh) =>
    if st ≠ 0 then (st, co, en, dm, dv, ws, hh)
    else if w = 1 then (if dm ≤ 0 then (if ws.length < 8 then (st, co, en, dm, dv, ws ++ [v], hh) else (2, 7, en, dm, dv, [], hh)) else sdl t v (st, co, en, dm, dv, ws, hh))
    else sef (st, v, w, dm, dv, ws, hh)
def RepB (ss sc se : Nat → Int32) (sd : Nat → Int64) (sv sw wv : Nat → Int32) (hs : Nat → Int64) (id : Nat) : Sb → Prop
  | (st, co, en, dm, dv, ws, hh) => ss id = st ∧ sc id = co ∧ se id = nI en ∧ en < 4 ∧ sd id = dm ∧ sv id = dv ∧ sw id = nI ws.length ∧ ws.length ≤ 8 ∧ (∀ j e, ws[j]? = some e → wv (8 * id + j) = e) ∧ ∀ j, j < 16 → hs (16 * id + j) = hh j
def RepU (u : SX) (id : Nat) (s : Sb) : Prop := RepB (x_subStatus u) (x_subCode u) (x_subEnd u) (x_subDemand u) (x_subDelivered u) (x_subWaiting u) (x_waitValue u) (x_history u) id s
def x_pa (u : SX) := (x_due u, x_count u, x_held u, x_heldY u, x_hasHeld u, x_hasHeldY u, x_queueSize u, x_queueIsOfX u, x_queueValue u, x_queueDue u)
def x_tk (u : SX) := (x_tasks u, x_taskWhat u, x_taskPart u, x_taskValue u)
def EffS (u u' : SX) (id : Nat) (s' : Sb) : Prop :=
  x_st2 u' = x_st2 u ∧ x_ph u' = x_ph u ∧ x_pa u' = x_pa u ∧ x_tk u' = x_tk u ∧ RepU u' id s' ∧ ∀ j, j ≠ id → ∀ s, RepU u j s → RepU u' j s
theorem xs_frame {ss sc se ss' sc' se' sv sw wv sv' sw' wv' : Nat → Int32} {sd hs sd' hs' : Nat → Int64} {j : Nat} {s : Sb} (h : RepB ss sc se sd sv sw wv hs j s) (h1 : ss' j = ss j) (h2 : sc' j = sc j) (h3 : se' j = se j) (h4 : sd' j = sd j) (h5 : sv' j = sv j) (h6 : sw' j = sw j) (h7 : ∀ r, r < 8 → wv' (8 * j + r) = wv (8 * j + r)) (h8 : ∀ r, r < 16 → hs' (16 * j + r) = hs (16 * j + r)) : RepB ss' sc' se' sd' sv' sw' wv' hs' j s := by
  obtain ⟨st, co, en, dm, dv, ws, hh⟩ := s
  obtain ⟨a1, a2, a3, a4, a5, a6, a7, a8, a9, a10⟩ := h
  refine ⟨h1.trans a1, h2.trans a2, h3.trans a3, a4, h4.trans a5, h5.trans a6, h6.trans a7, a8, fun r e he => ?_, fun r hr => (h8 r hr).trans (a10 r hr)⟩
  have hr : r < ws.length := by
    rcases Nat.lt_or_ge r ws.length with z | z
    · exact z
    · rw [List.getElem?_eq_none z] at he; exact absurd he (by simp)
  exact (h7 r (by omega)).trans (a9 r e he)
section
variable {f_time : Int32} {f_sent : Int32} {f_stageCount : Int32} {f_tasks : Int32} {a_sourceEnded : (Nat → Int32)} {a_stageKind : (Nat → Int32)} {a_stageA : (Nat → Int32)} {a_stageB : (Nat → Int32)} {a_stageParts : (Nat → Int32)} {a_partStage : (Nat → Int32)} {a_partUser : (Nat → Int32)} {a_partX : (Nat → Int32)} {a_partY : (Nat → Int32)} {a_phase : (Nat → Int32)} {a_beganAfter : (Nat → Int32)} {a_due : (Nat → Int32)} {a_count : (Nat → Int32)} {a_held : (Nat → Int32)} {a_heldY : (Nat → Int32)} {a_hasHeld : (Nat → Int32)} {a_hasHeldY : (Nat → Int32)} {a_queueSize : (Nat → Int32)} {a_queueIsOfX : (Nat → Int32)} {a_queueValue : (Nat → Int32)} {a_queueDue : (Nat → Int32)} {a_subStatus : (Nat → Int32)} {a_subCode : (Nat → Int32)} {a_subEnd : (Nat → Int32)} {a_subDemand : (Nat → Int64)} {a_subRequests : (Nat → Int32)} {a_subDelivered : (Nat → Int32)} {a_subWaiting : (Nat → Int32)} {a_waitValue : (Nat → Int32)} {a_history : (Nat → Int64)} {a_taskWhat : (Nat → Int32)} {a_taskPart : (Nat → Int32)} {a_taskValue : (Nat → Int32)}
theorem xe_pa : x_pa (f_time, f_sent, f_stageCount, f_tasks, a_sourceEnded, a_stageKind, a_stageA, a_stageB, a_stageParts, a_partStage, a_partUser, a_partX, a_partY, a_phase, a_beganAfter, a_due, a_count, a_held, a_heldY, a_hasHeld, a_hasHeldY, a_queueSize, a_queueIsOfX, a_queueValue, a_queueDue, a_subStatus, a_subCode, a_subEnd, a_subDemand, a_subRequests, a_subDelivered, a_subWaiting, a_waitValue, a_history, a_taskWhat, a_taskPart, a_taskValue) = (a_due, a_count, a_held, a_heldY, a_hasHeld, a_hasHeldY, a_queueSize, a_queueIsOfX, a_queueValue, a_queueDue) := rfl
theorem xe_tk : x_tk (f_time, f_sent, f_stageCount, f_tasks, a_sourceEnded, a_stageKind, a_stageA, a_stageB, a_stageParts, a_partStage, a_partUser, a_partX, a_partY, a_phase, a_beganAfter, a_due, a_count, a_held, a_heldY, a_hasHeld, a_hasHeldY, a_queueSize, a_queueIsOfX, a_queueValue, a_queueDue, a_subStatus, a_subCode, a_subEnd, a_subDemand, a_subRequests, a_subDelivered, a_subWaiting, a_waitValue, a_history, a_taskWhat, a_taskPart, a_taskValue) = (f_tasks, a_taskWhat, a_taskPart, a_taskValue) := rfl
theorem xe_ru {id : Nat} {s : Sb} (h : RepU (f_time, f_sent, f_stageCount, f_tasks, a_sourceEnded, a_stageKind, a_stageA, a_stageB, a_stageParts, a_partStage, a_partUser, a_partX, a_partY, a_phase, a_beganAfter, a_due, a_count, a_held, a_heldY, a_hasHeld, a_hasHeldY, a_queueSize, a_queueIsOfX, a_queueValue, a_queueDue, a_subStatus, a_subCode, a_subEnd, a_subDemand, a_subRequests, a_subDelivered, a_subWaiting, a_waitValue, a_history, a_taskWhat, a_taskPart, a_taskValue) id s) : RepB a_subStatus a_subCode a_subEnd a_subDemand a_subDelivered a_subWaiting a_waitValue a_history id s := h
theorem xe_ru' {id : Nat} {s : Sb} (h : RepB a_subStatus a_subCode a_subEnd a_subDemand a_subDelivered a_subWaiting a_waitValue a_history id s) : RepU (f_time, f_sent, f_stageCount, f_tasks, a_sourceEnded, a_stageKind, a_stageA, a_stageB, a_stageParts, a_partStage, a_partUser, a_partX, a_partY, a_phase, a_beganAfter, a_due, a_count, a_held, a_heldY, a_hasHeld, a_hasHeldY, a_queueSize, a_queueIsOfX, a_queueValue, a_queueDue, a_subStatus, a_subCode, a_subEnd, a_subDemand, a_subRequests, a_subDelivered, a_subWaiting, a_waitValue, a_history, a_taskWhat, a_taskPart, a_taskValue) id s := h
theorem xe_effS {id : Nat} {s' : Sb} {ss sc se sv sw wv : Nat → Int32} {sd hs : Nat → Int64} (h1 : RepB ss sc se sd sv sw wv hs id s') (h2 : ∀ j, j ≠ id → ∀ s, RepB a_subStatus a_subCode a_subEnd a_subDemand a_subDelivered a_subWaiting a_waitValue a_history j s → RepB ss sc se sd sv sw wv hs j s) :
    EffS (f_time, f_sent, f_stageCount, f_tasks, a_sourceEnded, a_stageKind, a_stageA, a_stageB, a_stageParts, a_partStage, a_partUser, a_partX, a_partY, a_phase, a_beganAfter, a_due, a_count, a_held, a_heldY, a_hasHeld, a_hasHeldY, a_queueSize, a_queueIsOfX, a_queueValue, a_queueDue, a_subStatus, a_subCode, a_subEnd, a_subDemand, a_subRequests, a_subDelivered, a_subWaiting, a_waitValue, a_history, a_taskWhat, a_taskPart, a_taskValue) (f_time, f_sent, f_stageCount, f_tasks, a_sourceEnded, a_stageKind, a_stageA, a_stageB, a_stageParts, a_partStage, a_partUser, a_partX, a_partY, a_phase, a_beganAfter, a_due, a_count, a_held, a_heldY, a_hasHeld, a_hasHeldY, a_queueSize, a_queueIsOfX, a_queueValue, a_queueDue, ss, sc, se, sd, a_subRequests, sv, sw, wv, hs, a_taskWhat, a_taskPart, a_taskValue) id s' := ⟨xe_st2.trans xe_st2.symm, xe_ph.trans xe_ph.symm, xe_pa.trans xe_pa.symm, xe_tk.trans xe_tk.symm, h1, h2⟩
theorem xs_endSub {post : SX → Prop} {id en : Nat} {st co s1 c1 : Int32} {dm : Int64} {dv : Int32} {ws : List Int32} {hh : Nat → Int64} (hid : id < 3) (hS : RepB a_subStatus a_subCode a_subEnd a_subDemand a_subDelivered a_subWaiting a_waitValue a_history id (st, co, en, dm, dv, ws, hh)) (H : ∀ u', EffS (f_time, f_sent, f_stageCount, f_tasks, a_sourceEnded, a_stageKind, a_stageA, a_stageB, a_stageParts, a_partStage, a_partUser, a_partX, a_partY, a_phase, a_beganAfter, a_due, a_count, a_held, a_heldY, a_hasHeld, a_hasHeldY, a_queueSize, a_queueIsOfX, a_queueValue, a_queueDue, a_subStatus, a_subCode, a_subEnd, a_subDemand, a_subRequests, a_subDelivered, a_subWaiting, a_waitValue, a_history, a_taskWhat, a_taskPart, a_taskValue) u' id (s1, c1, en, dm, dv, [], hh) → post u') : wpX_endSubscription post (f_time, f_sent, f_stageCount, f_tasks, a_sourceEnded, a_stageKind, a_stageA, a_stageB, a_stageParts, a_partStage, a_partUser, a_partX, a_partY, a_phase, a_beganAfter, a_due, a_count, a_held, a_heldY, a_hasHeld, a_hasHeldY, a_queueSize, a_queueIsOfX, a_queueValue, a_queueDue, a_subStatus, a_subCode, a_subEnd, a_subDemand, a_subRequests, a_subDelivered, a_subWaiting, a_waitValue, a_history, a_taskWhat, a_taskPart, a_taskValue) (nI id) s1 c1 := by
  obtain ⟨a1, a2, a3, a4, a5, a6, a7, a8, a9, a10⟩ := hS
  have hcl : (nI id).toNatClampNeg = id := nI_clamp (by omega)
  have hin : vp_in (nI id) 3 := vp_in_nI hid (by decide)
  refine ⟨hin, nm_r (e' := upd a_subStatus id s1) (by rw [hcl]) ⟨hin, nm_r (e' := upd a_subCode id c1) (by rw [hcl]) ⟨hin, nm_r (e' := upd a_subWaiting id (nI 0)) (by rw [hcl]; rfl) ?_⟩⟩⟩
  exact H _ (xe_effS ⟨pk_us, pk_us, a3, a4, a5, a6, pk_us, Nat.zero_le _, fun j e he => absurd he (by simp), a10⟩ (fun j hj s hs => xs_frame hs (pk_un hj) (pk_un hj) rfl rfl rfl (pk_un hj) (fun _ _ => rfl) (fun _ _ => rfl)))
theorem xs_endIf {post : SX → Prop} {id : Nat} {s : Sb} (hid : id < 3) (hS : RepB a_subStatus a_subCode a_subEnd a_subDemand a_subDelivered a_subWaiting a_waitValue a_history id s) (H : ∀ u', EffS (f_time, f_sent, f_stageCount, f_tasks, a_sourceEnded, a_stageKind, a_stageA, a_stageB, a_stageParts, a_partStage, a_partUser, a_partX, a_partY, a_phase, a_beganAfter, a_due, a_count, a_held, a_heldY, a_hasHeld, a_hasHeldY, a_queueSize, a_queueIsOfX, a_queueValue, a_queueDue, a_subStatus, a_subCode, a_subEnd, a_subDemand, a_subRequests, a_subDelivered, a_subWaiting, a_waitValue, a_history, a_taskWhat, a_taskPart, a_taskValue) u' id (sef s) → post u') : wpX_endIfNothingWaits post (f_time, f_sent, f_stageCount, f_tasks, a_sourceEnded, a_stageKind, a_stageA, a_stageB, a_stageParts, a_partStage, a_partUser, a_partX, a_partY, a_phase, a_beganAfter, a_due, a_count, a_held, a_heldY, a_hasHeld, a_hasHeldY, a_queueSize, a_queueIsOfX, a_queueValue, a_queueDue, a_subStatus, a_subCode, a_subEnd, a_subDemand, a_subRequests, a_subDelivered, a_subWaiting, a_waitValue, a_history, a_taskWhat, a_taskPart, a_taskValue) (nI id) := by
  obtain ⟨st, co, en, dm, dv, ws, hh⟩ := s
  have hS0 := hS
  obtain ⟨a1, a2, a3, a4, a5, a6, a7, a8, a9, a10⟩ := hS
  have hcl : (nI id).toNatClampNeg = id := nI_clamp (by omega)
  have hin : vp_in (nI id) 3 := vp_in_nI hid (by decide)
  have a3' : a_subEnd (nI id).toNatClampNeg = nI en := by rw [hcl]; exact a3
  have a7' : a_subWaiting (nI id).toNatClampNeg = nI ws.length := by rw [hcl]; exact a7
  have a2' : a_subCode (nI id).toNatClampNeg = co := by rw [hcl]; exact a2
  refine ⟨hin, ?_⟩
  by_cases he : en = 0
  · rw [show sef (st, co, en, dm, dv, ws, hh) = (st, co, en, dm, dv, ws, hh) from by simp [sef, he]] at H
    exact br_t (by rw [a3', he]; rfl) (H _ (xe_effS hS0 (fun j hj s hs => hs)))
  · refine br_f (by rw [a3']; exact nI_ne0 (by omega) (by omega)) ⟨hin, ?_⟩
    by_cases hw : ws = []
    · refine br_t (by rw [a7', hw]; rfl) ⟨hin, ?_⟩
      by_cases h3 : en = 3
      · rw [show sef (st, co, en, dm, dv, ws, hh) = (2, co, en, dm, dv, [], hh) from by simp [sef, h3, hw]] at H
        refine br_t (by rw [a3', h3]; rfl) ⟨hin, ?_⟩
        rw [a2']
        exact xs_endSub hid hS0 H
      · rw [show sef (st, co, en, dm, dv, ws, hh) = (1, co, en, dm, dv, [], hh) from by simp [sef, h3, hw, he]] at H
        refine br_f (by rw [a3', show (3 : Int32) = nI 3 from rfl, nI_eq (by omega) (by decide)]; exact h3) ⟨hin, ?_⟩
        rw [a2']
        exact xs_endSub hid hS0 H
    · rw [show sef (st, co, en, dm, dv, ws, hh) = (st, co, en, dm, dv, ws, hh) from by simp [sef, hw]] at H
      exact br_f (by rw [a7']; exact nI_ne0 (by cases ws; exact absurd rfl hw; simp) (by omega)) (H _ (xe_effS hS0 (fun j hj s hs => hs)))
theorem xs_deliver {post : SX → Prop} {id t : Nat} {v : Int32} {s : Sb} (hid : id < 3) (ht : f_time = nI t) (hS : RepB a_subStatus a_subCode a_subEnd a_subDemand a_subDelivered a_subWaiting a_waitValue a_history id s) (H : ∀ u', EffS (f_time, f_sent, f_stageCount, f_tasks, a_sourceEnded, a_stageKind, a_stageA, a_stageB, a_stageParts, a_partStage, a_partUser, a_partX, a_partY, a_phase, a_beganAfter, a_due, a_count, a_held, a_heldY, a_hasHeld, a_hasHeldY, a_queueSize, a_queueIsOfX, a_queueValue, a_queueDue, a_subStatus, a_subCode, a_subEnd, a_subDemand, a_subRequests, a_subDelivered, a_subWaiting, a_waitValue, a_history, a_taskWhat, a_taskPart, a_taskValue) u' id (sdl t v s) → post u') : wpX_deliver post (f_time, f_sent, f_stageCount, f_tasks, a_sourceEnded, a_stageKind, a_stageA, a_stageB, a_stageParts, a_partStage, a_partUser, a_partX, a_partY, a_phase, a_beganAfter, a_due, a_count, a_held, a_heldY, a_hasHeld, a_hasHeldY, a_queueSize, a_queueIsOfX, a_queueValue, a_queueDue, a_subStatus, a_subCode, a_subEnd, a_subDemand, a_subRequests, a_subDelivered, a_subWaiting, a_waitValue, a_history, a_taskWhat, a_taskPart, a_taskValue) (nI id) v := by
  obtain ⟨st, co, en, dm, dv, ws, hh⟩ := s
  have hS0 := hS
  obtain ⟨a1, a2, a3, a4, a5, a6, a7, a8, a9, a10⟩ := hS
  have hcl : (nI id).toNatClampNeg = id := nI_clamp (by omega)
  have hin : vp_in (nI id) 3 := vp_in_nI hid (by decide)
  have a5' : a_subDemand (nI id).toNatClampNeg = dm := by rw [hcl]; exact a5
  have a6' : a_subDelivered (nI id).toNatClampNeg = dv := by rw [hcl]; exact a6
  have hjj : dj dv < 16 := Nat.mod_lt _ (by decide)
  have e3 : nI id * 16 + (a_subDelivered (nI id).toNatClampNeg &&& 15) = nI (16 * id + dj dv) := by
    rw [a6', pk_and dv (m := 15) 4 (by decide), show (16 : Int32) = nI 16 from rfl, pk_mul, nI_add, Nat.mul_comm]; rfl
  have i3 : vp_in (nI (16 * id + dj dv)) 48 := vp_in_nI (by omega) (by decide)
  have c3 : (nI (16 * id + dj dv)).toNatClampNeg = 16 * id + dj dv := nI_clamp (by omega)
  have hhs : ∀ j, j < 16 → vp_updL a_history (16 * id + dj dv) (hv t v) (16 * id + j) = vp_updL hh (dj dv) (hv t v) j := by
    intro j hj
    by_cases e : j = dj dv
    · rw [e]; exact pk_uLs.trans pk_uLs.symm
    · rw [pk_uLn (by omega), pk_uLn e]; exact a10 j hj
  have hfr : ∀ j, j ≠ id → ∀ r, r < 16 → vp_updL a_history (16 * id + dj dv) (hv t v) (16 * j + r) = a_history (16 * j + r) := fun j hj r hr => pk_uLn (by omega)
  refine ⟨hin, nm_r e3 ⟨i3, nm_r (e' := vp_updL a_history (16 * id + dj dv) (hv t v)) (by rw [c3, ht]; rfl) ⟨hin, hin, nm_r (e' := upd a_subDelivered id (dv + 1)) (by rw [a6', hcl]) ⟨hin, ?_⟩⟩⟩⟩
  by_cases hd : dm = 9223372036854775807
  · rw [show sdl t v (st, co, en, dm, dv, ws, hh) = (st, co, en, dm, dv + 1, ws, vp_updL hh (dj dv) (hv t v)) from by simp [sdl, dec1, hd]] at H
    refine br_t (by rw [a5']; exact hd) ?_
    exact H _ (xe_effS ⟨a1, a2, a3, a4, a5, pk_us, a7, a8, a9, hhs⟩ (fun j hj s hs => xs_frame hs rfl rfl rfl rfl (pk_un hj) rfl (fun _ _ => rfl) (hfr j hj)))
  · rw [show sdl t v (st, co, en, dm, dv, ws, hh) = (st, co, en, dm - 1, dv + 1, ws, vp_updL hh (dj dv) (hv t v)) from by simp [sdl, dec1, hd]] at H
    refine br_f (by rw [a5']; exact hd) ⟨hin, hin, nm_r (e' := vp_updL a_subDemand id (dm - 1)) (by rw [a5', hcl]) ?_⟩
    exact H _ (xe_effS ⟨a1, a2, a3, a4, pk_uLs, pk_us, a7, a8, a9, hhs⟩ (fun j hj s hs => xs_frame hs rfl rfl rfl (pk_uLn hj) (pk_un hj) rfl (fun _ _ => rfl) (hfr j hj)))
theorem xs_reach {post : SX → Prop} {id t w : Nat} {v : Int32} {s : Sb} (hid : id < 3) (ht : f_time = nI t) (hw : 1 ≤ w) (hw3 : w ≤ 3) (hS : RepB a_subStatus a_subCode a_subEnd a_subDemand a_subDelivered a_subWaiting a_waitValue a_history id s) (H : ∀ u', EffS (f_time, f_sent, f_stageCount, f_tasks, a_sourceEnded, a_stageKind, a_stageA, a_stageB, a_stageParts, a_partStage, a_partUser, a_partX, a_partY, a_phase, a_beganAfter, a_due, a_count, a_held, a_heldY, a_hasHeld, a_hasHeldY, a_queueSize, a_queueIsOfX, a_queueValue, a_queueDue, a_subStatus, a_subCode, a_subEnd, a_subDemand, a_subRequests, a_subDelivered, a_subWaiting, a_waitValue, a_history, a_taskWhat, a_taskPart, a_taskValue) u' id (sst t w v s) → post u') : wpX_reachSubscription post (f_time, f_sent, f_stageCount, f_tasks, a_sourceEnded, a_stageKind, a_stageA, a_stageB, a_stageParts, a_partStage, a_partUser, a_partX, a_partY, a_phase, a_beganAfter, a_due, a_count, a_held, a_heldY, a_hasHeld, a_hasHeldY, a_queueSize, a_queueIsOfX, a_queueValue, a_queueDue, a_subStatus, a_subCode, a_subEnd, a_subDemand, a_subRequests, a_subDelivered, a_subWaiting, a_waitValue, a_history, a_taskWhat, a_taskPart, a_taskValue) (nI id) (nI w) v := by
  obtain ⟨st, co, en, dm, dv, ws, hh⟩ := s
  have hS0 := hS
  obtain ⟨a1, a2, a3, a4, a5, a6, a7, a8, a9, a10⟩ := hS
  have hcl : (nI id).toNatClampNeg = id := nI_clamp (by omega)
  have hin : vp_in (nI id) 3 := vp_in_nI hid (by decide)
  have a1' : a_subStatus (nI id).toNatClampNeg = st := by rw [hcl]; exact a1
  have a5' : a_subDemand (nI id).toNatClampNeg = dm := by rw [hcl]; exact a5
  have a7' : a_subWaiting (nI id).toNatClampNeg = nI ws.length := by rw [hcl]; exact a7
  refine ⟨hin, ?_⟩
  by_cases hst : st = 0
  · refine br_t (by rw [a1']; exact hst) ?_
    by_cases h1 : w = 1
    · subst h1
      refine br_t rfl ⟨hin, ?_⟩
      by_cases hd : dm ≤ 0
      · refine br_t (by rw [a5']; exact hd) ⟨hin, ?_⟩
        by_cases h8 : ws.length < 8
        · rw [show sst t 1 v (st, co, en, dm, dv, ws, hh) = (st, co, en, dm, dv, ws ++ [v], hh) from by simp [sst, hst, hd, h8]] at H
          have e3 : nI id * 8 + a_subWaiting (nI id).toNatClampNeg = nI (8 * id + ws.length) := by
            rw [a7', show (8 : Int32) = nI 8 from rfl, pk_mul, nI_add, Nat.mul_comm]
          have c3 : (nI id * 8 + a_subWaiting (nI id).toNatClampNeg).toNatClampNeg = 8 * id + ws.length := by rw [e3]; exact nI_clamp (by omega)
          refine br_t (by rw [a7']; exact nI_lt (b := 8) h8 (by decide)) ⟨hin, by rw [e3]; exact vp_in_nI (by omega) (by decide), nm_r (e' := upd a_waitValue (8 * id + ws.length) v) (by rw [c3]) ⟨hin, hin, nm_r (e' := upd a_subWaiting id (nI (ws.length + 1))) (by rw [a7', nI_1, hcl]) ?_⟩⟩
          refine H _ (xe_effS ⟨a1, a2, a3, a4, a5, a6, ?_, by simp; omega, fun j e he => ?_, a10⟩ (fun j hj s hs => xs_frame hs rfl rfl rfl rfl rfl (pk_un hj) (fun r hr => pk_un (by omega)) (fun _ _ => rfl)))
          · rw [List.length_append]; exact pk_us
          · have hj : j < (ws ++ [v]).length := by
              rcases Nat.lt_or_ge j (ws ++ [v]).length with z | z
              · exact z
              · rw [List.getElem?_eq_none z] at he; exact absurd he (by simp)
            rw [List.length_append, List.length_singleton] at hj
            by_cases hjw : j = ws.length
            · subst hjw
              rw [List.getElem?_concat_length] at he
              cases he
              exact pk_us
            · rw [List.getElem?_append_left (by omega)] at he
              rw [pk_un (by omega)]
              exact a9 j e he
        · rw [show sst t 1 v (st, co, en, dm, dv, ws, hh) = (2, 7, en, dm, dv, [], hh) from by simp [sst, hst, hd, h8]] at H
          exact br_f (by rw [a7']; exact nI_nlt (b := 8) (by omega) (by omega)) (xs_endSub hid hS0 H)
      · rw [show sst t 1 v (st, co, en, dm, dv, ws, hh) = sdl t v (st, co, en, dm, dv, ws, hh) from by simp [sst, hst, hd]] at H
        exact br_f (by rw [a5']; exact hd) (xs_deliver hid ht hS0 H)
    · rw [show sst t w v (st, co, en, dm, dv, ws, hh) = sef (st, v, w, dm, dv, ws, hh) from by simp [sst, hst, h1]] at H
      refine br_f (by rw [show (1 : Int32) = nI 1 from rfl, nI_eq (by omega) (by decide)]; exact h1) ⟨hin, nm_r (e' := upd a_subEnd id (nI w)) (by rw [hcl]) ⟨hin, nm_r (e' := upd a_subCode id v) (by rw [hcl]) ?_⟩⟩
      refine xs_endIf (s := (st, v, w, dm, dv, ws, hh)) hid ⟨a1, pk_us, pk_us, by omega, a5, a6, a7, a8, a9, a10⟩ (fun u' he => H u' ?_)
      obtain ⟨z1, z2, z3, z4, z5, z6⟩ := he
      exact ⟨z1.trans (xe_st2.trans xe_st2.symm), z2.trans (xe_ph.trans xe_ph.symm), z3.trans (xe_pa.trans xe_pa.symm), z4.trans (xe_tk.trans xe_tk.symm), z5, fun j hj s hs => z6 j hj s (xe_ru' (xs_frame (xe_ru hs) rfl (pk_un hj) (pk_un hj) rfl rfl rfl (fun _ _ => rfl) (fun _ _ => rfl)))⟩
  · rw [show sst t w v (st, co, en, dm, dv, ws, hh) = (st, co, en, dm, dv, ws, hh) from by simp [sst, hst]] at H
    exact br_f (by rw [a1']; exact hst) (H _ (xe_effS hS0 (fun j hj s hs => hs)))
end
end
section
/-! ===== handlers at a state u; one step of runTasks ===== -/
abbrev St2 : Type := Int32 × Int32 × Int32 × (Nat → Int32) × (Nat → Int32) × (Nat → Int32) × (Nat → Int32) × (Nat → Int32) × (Nat → Int32) × (Nat → Int32) × (Nat → Int32) × (Nat → Int32) × (Nat → Int32)
/-- part i is of stage s: kind k, operands a b; the time is t -/
def HZ (i t s k : Nat) (a b : Int32) : St2 → Prop
  | (ti, _, _, _, sk, sa, sb, _, ps, _, _, _, _) => HA ti ps sk sa sb i t s k a b
/-- part i's children and user -/
def HC (i xi yi k : Nat) : St2 → Prop
  | (_, _, _, _, _, _, _, _, _, _, px, py, _) => (3 ≤ k → px i = nI xi ∧ xi < 27) ∧ (16 ≤ k → py i = nI yi ∧ yi < 27 ∧ xi ≠ yi)
def HU (i : Nat) (z : Int32) : St2 → Prop
  | (_, _, _, _, _, _, _, _, _, pu, _, _, _) => pu i = z
def bgn (k w : Nat) (sd : Bool) : Bool := sd && ((k == 19 && w == 2) || (k == 20 && w == 3))
section
variable {f_time : Int32} {f_sent : Int32} {f_stageCount : Int32} {f_tasks : Int32} {a_sourceEnded : (Nat → Int32)} {a_stageKind : (Nat → Int32)} {a_stageA : (Nat → Int32)} {a_stageB : (Nat → Int32)} {a_stageParts : (Nat → Int32)} {a_partStage : (Nat → Int32)} {a_partUser : (Nat → Int32)} {a_partX : (Nat → Int32)} {a_partY : (Nat → Int32)} {a_phase : (Nat → Int32)} {a_beganAfter : (Nat → Int32)} {a_due : (Nat → Int32)} {a_count : (Nat → Int32)} {a_held : (Nat → Int32)} {a_heldY : (Nat → Int32)} {a_hasHeld : (Nat → Int32)} {a_hasHeldY : (Nat → Int32)} {a_queueSize : (Nat → Int32)} {a_queueIsOfX : (Nat → Int32)} {a_queueValue : (Nat → Int32)} {a_queueDue : (Nat → Int32)} {a_subStatus : (Nat → Int32)} {a_subCode : (Nat → Int32)} {a_subEnd : (Nat → Int32)} {a_subDemand : (Nat → Int64)} {a_subRequests : (Nat → Int32)} {a_subDelivered : (Nat → Int32)} {a_subWaiting : (Nat → Int32)} {a_waitValue : (Nat → Int32)} {a_history : (Nat → Int64)} {a_taskWhat : (Nat → Int32)} {a_taskPart : (Nat → Int32)} {a_taskValue : (Nat → Int32)}
theorem xg_of_HZ {i t s k : Nat} {a b : Int32} (h : HZ i t s k a b (x_st2 (f_time, f_sent, f_stageCount, f_tasks, a_sourceEnded, a_stageKind, a_stageA, a_stageB, a_stageParts, a_partStage, a_partUser, a_partX, a_partY, a_phase, a_beganAfter, a_due, a_count, a_held, a_heldY, a_hasHeld, a_hasHeldY, a_queueSize, a_queueIsOfX, a_queueValue, a_queueDue, a_subStatus, a_subCode, a_subEnd, a_subDemand, a_subRequests, a_subDelivered, a_subWaiting, a_waitValue, a_history, a_taskWhat, a_taskPart, a_taskValue))) : HA f_time a_partStage a_stageKind a_stageA a_stageB i t s k a b := h
theorem xg_of_HC {i xi yi k : Nat} (h : HC i xi yi k (x_st2 (f_time, f_sent, f_stageCount, f_tasks, a_sourceEnded, a_stageKind, a_stageA, a_stageB, a_stageParts, a_partStage, a_partUser, a_partX, a_partY, a_phase, a_beganAfter, a_due, a_count, a_held, a_heldY, a_hasHeld, a_hasHeldY, a_queueSize, a_queueIsOfX, a_queueValue, a_queueDue, a_subStatus, a_subCode, a_subEnd, a_subDemand, a_subRequests, a_subDelivered, a_subWaiting, a_waitValue, a_history, a_taskWhat, a_taskPart, a_taskValue))) : (3 ≤ k → a_partX i = nI xi ∧ xi < 27) ∧ (16 ≤ k → a_partY i = nI yi ∧ yi < 27 ∧ xi ≠ yi) := h
theorem xg_of_HU {i : Nat} {z : Int32} (h : HU i z (x_st2 (f_time, f_sent, f_stageCount, f_tasks, a_sourceEnded, a_stageKind, a_stageA, a_stageB, a_stageParts, a_partStage, a_partUser, a_partX, a_partY, a_phase, a_beganAfter, a_due, a_count, a_held, a_heldY, a_hasHeld, a_hasHeldY, a_queueSize, a_queueIsOfX, a_queueValue, a_queueDue, a_subStatus, a_subCode, a_subEnd, a_subDemand, a_subRequests, a_subDelivered, a_subWaiting, a_waitValue, a_history, a_taskWhat, a_taskPart, a_taskValue))) : a_partUser i = z := h
theorem xg_item {post : SX → Prop} {i t s k : Nat} {a b v : Int32} {P : PSt} {R : List Tk} (hx : HA f_time a_partStage a_stageKind a_stageA a_stageB i t s k a b) (h3 : 3 ≤ k) (h16 : k < 16) (hS : RepA a_due a_count a_held a_heldY a_hasHeld a_hasHeldY a_queueSize a_queueIsOfX a_queueValue a_queueDue i P) (ok : okS k b P) (hT : f_tasks = nI R.length) (hR : rps a_taskWhat a_taskPart a_taskValue R) (hl : R.length + 2 ≤ 128) (H : ∀ u', Eff (f_time, f_sent, f_stageCount, f_tasks, a_sourceEnded, a_stageKind, a_stageA, a_stageB, a_stageParts, a_partStage, a_partUser, a_partX, a_partY, a_phase, a_beganAfter, a_due, a_count, a_held, a_heldY, a_hasHeld, a_hasHeldY, a_queueSize, a_queueIsOfX, a_queueValue, a_queueDue, a_subStatus, a_subCode, a_subEnd, a_subDemand, a_subRequests, a_subDelivered, a_subWaiting, a_waitValue, a_history, a_taskWhat, a_taskPart, a_taskValue) u' i (hi k b t true v P).1 (hi k b t true v P).2 R → post u') : wpX_hearItem post (f_time, f_sent, f_stageCount, f_tasks, a_sourceEnded, a_stageKind, a_stageA, a_stageB, a_stageParts, a_partStage, a_partUser, a_partX, a_partY, a_phase, a_beganAfter, a_due, a_count, a_held, a_heldY, a_hasHeld, a_hasHeldY, a_queueSize, a_queueIsOfX, a_queueValue, a_queueDue, a_subStatus, a_subCode, a_subEnd, a_subDemand, a_subRequests, a_subDelivered, a_subWaiting, a_waitValue, a_history, a_taskWhat, a_taskPart, a_taskValue) (nI i) v := by
  obtain ⟨d, c, h, hy, f, fy, qx, q, ox, oy⟩ := P
  have hk20 := hx.2.2.2.2.2.2.2.2.1
  rcases rn_k hk20 with e | e | e | e | e | e | e | e | e | e | e | e | e | e | e | e | e | e | e | e | e <;> (first | omega | subst e)
  · exact xh_i3 hx hS ok hT hR hl H
  · exact xh_i4 hx hS ok hT hR hl H
  · exact xh_i5 hx hS ok hT hR hl H
  · exact xh_i6 hx hS ok hT hR hl H
  · exact xh_i7 hx hS ok hT hR hl H
  · exact xh_i8 hx hS ok hT hR hl H
  · exact xh_i9 hx hS ok hT hR hl H
  · exact xh_i10 hx hS ok hT hR hl H
  · exact xh_i11 hx hS ok hT hR hl H
  · exact xh_i12 hx hS ok hT hR hl H
  · exact xh_i13 hx hS ok hT hR hl H
  · exact xh_i14 hx hS ok hT hR hl H
  · exact xh_i15 hx hS ok hT hR hl H
theorem xg_join {post : SX → Prop} {i t s k xi yi fr : Nat} {a b v : Int32} {sd : Bool} {P : PSt} {R : List Tk} (hx : HA f_time a_partStage a_stageKind a_stageA a_stageB i t s k a b) (h16 : 16 ≤ k) (hS : RepA a_due a_count a_held a_heldY a_hasHeld a_hasHeldY a_queueSize a_queueIsOfX a_queueValue a_queueDue i P) (ok : okS k b P) (hT : f_tasks = nI R.length) (hR : rps a_taskWhat a_taskPart a_taskValue R) (hl : R.length + 2 ≤ 128) (hX : a_partX i = nI xi) (hY : a_partY i = nI yi) (hx27 : xi < 27) (hy27 : yi < 27) (hne : xi ≠ yi) (hfr : fr = if sd = true then xi else yi) (hph : k < 19 → (a_phase (if sd = true then yi else xi) = 2 ↔ (if sd = true then P.2.2.2.2.2.2.2.2.2 else P.2.2.2.2.2.2.2.2.1) = true)) (H : ∀ u', Eff (f_time, f_sent, f_stageCount, f_tasks, a_sourceEnded, a_stageKind, a_stageA, a_stageB, a_stageParts, a_partStage, a_partUser, a_partX, a_partY, a_phase, a_beganAfter, a_due, a_count, a_held, a_heldY, a_hasHeld, a_hasHeldY, a_queueSize, a_queueIsOfX, a_queueValue, a_queueDue, a_subStatus, a_subCode, a_subEnd, a_subDemand, a_subRequests, a_subDelivered, a_subWaiting, a_waitValue, a_history, a_taskWhat, a_taskPart, a_taskValue) u' i (hi k b t sd v P).1 (hi k b t sd v P).2 R → post u') : wpX_hearJoinedItem post (f_time, f_sent, f_stageCount, f_tasks, a_sourceEnded, a_stageKind, a_stageA, a_stageB, a_stageParts, a_partStage, a_partUser, a_partX, a_partY, a_phase, a_beganAfter, a_due, a_count, a_held, a_heldY, a_hasHeld, a_hasHeldY, a_queueSize, a_queueIsOfX, a_queueValue, a_queueDue, a_subStatus, a_subCode, a_subEnd, a_subDemand, a_subRequests, a_subDelivered, a_subWaiting, a_waitValue, a_history, a_taskWhat, a_taskPart, a_taskValue) (nI i) (nI fr) v := by
  obtain ⟨d, c, h, hy, f, fy, qx, q, ox, oy⟩ := P
  have hk20 := hx.2.2.2.2.2.2.2.2.1
  rcases rn_k hk20 with e | e | e | e | e | e | e | e | e | e | e | e | e | e | e | e | e | e | e | e | e <;> (first | omega | subst e)
  · exact xh_j16 hx hS hT hR hl hX hY hx27 hy27 hne hfr H
  · exact xh_j17 hx hS ok hT hR hl hX hY hx27 hy27 hne hfr (hph (by decide)) H
  · exact xh_j18 hx hS hT hR hl hX hY hx27 hy27 hne hfr H
  · exact xh_j19 hx hS hT hR hl hX hY hx27 hy27 hne hfr H
  · exact xh_j20 hx hS hT hR hl hX hY hx27 hy27 hne hfr H
theorem xg_comp {post : SX → Prop} {i t s k xi yi fr : Nat} {a b : Int32} {sd : Bool} {P : PSt} {R : List Tk} (hx : HA f_time a_partStage a_stageKind a_stageA a_stageB i t s k a b) (h3 : 3 ≤ k) (hS : RepA a_due a_count a_held a_heldY a_hasHeld a_hasHeldY a_queueSize a_queueIsOfX a_queueValue a_queueDue i P) (ok : okS k b P) (hT : f_tasks = nI R.length) (hR : rps a_taskWhat a_taskPart a_taskValue R) (hl : R.length + 2 ≤ 128) (hJ : 16 ≤ k → a_partX i = nI xi ∧ a_partY i = nI yi ∧ xi < 27 ∧ yi < 27 ∧ xi ≠ yi ∧ fr = if sd = true then xi else yi) (hph : 16 ≤ k → k < 19 → (a_phase (if sd = true then yi else xi) = 2 ↔ (if sd = true then P.2.2.2.2.2.2.2.2.2 else P.2.2.2.2.2.2.2.2.1) = true)) (H : ∀ u', Eff (f_time, f_sent, f_stageCount, f_tasks, a_sourceEnded, a_stageKind, a_stageA, a_stageB, a_stageParts, a_partStage, a_partUser, a_partX, a_partY, a_phase, a_beganAfter, a_due, a_count, a_held, a_heldY, a_hasHeld, a_hasHeldY, a_queueSize, a_queueIsOfX, a_queueValue, a_queueDue, a_subStatus, a_subCode, a_subEnd, a_subDemand, a_subRequests, a_subDelivered, a_subWaiting, a_waitValue, a_history, a_taskWhat, a_taskPart, a_taskValue) u' i (hc k b t sd P).1 (hc k b t sd P).2 ((if bgn k 2 sd = true then [(0, yi, 0)] else []) ++ R) → post u') : wpX_hearComplete post (f_time, f_sent, f_stageCount, f_tasks, a_sourceEnded, a_stageKind, a_stageA, a_stageB, a_stageParts, a_partStage, a_partUser, a_partX, a_partY, a_phase, a_beganAfter, a_due, a_count, a_held, a_heldY, a_hasHeld, a_hasHeldY, a_queueSize, a_queueIsOfX, a_queueValue, a_queueDue, a_subStatus, a_subCode, a_subEnd, a_subDemand, a_subRequests, a_subDelivered, a_subWaiting, a_waitValue, a_history, a_taskWhat, a_taskPart, a_taskValue) (nI i) (nI fr) := by
  obtain ⟨d, c, h, hy, f, fy, qx, q, ox, oy⟩ := P
  have hk20 := hx.2.2.2.2.2.2.2.2.1
  rcases rn_k hk20 with e | e | e | e | e | e | e | e | e | e | e | e | e | e | e | e | e | e | e | e | e <;> (first | omega | subst e)
  · rw [if_neg (show ¬ bgn 3 2 sd = true from by cases sd <;> decide), List.nil_append] at H
    exact xh_c3 hx hS ok hT hR hl H
  · rw [if_neg (show ¬ bgn 4 2 sd = true from by cases sd <;> decide), List.nil_append] at H
    exact xh_c4 hx hS ok hT hR hl H
  · rw [if_neg (show ¬ bgn 5 2 sd = true from by cases sd <;> decide), List.nil_append] at H
    exact xh_c5 hx hS ok hT hR hl H
  · rw [if_neg (show ¬ bgn 6 2 sd = true from by cases sd <;> decide), List.nil_append] at H
    exact xh_c6 hx hS ok hT hR hl H
  · rw [if_neg (show ¬ bgn 7 2 sd = true from by cases sd <;> decide), List.nil_append] at H
    exact xh_c7 hx hS ok hT hR hl H
  · rw [if_neg (show ¬ bgn 8 2 sd = true from by cases sd <;> decide), List.nil_append] at H
    exact xh_c8 hx hS ok hT hR hl H
  · rw [if_neg (show ¬ bgn 9 2 sd = true from by cases sd <;> decide), List.nil_append] at H
    exact xh_c9 hx hS ok hT hR hl H
  · rw [if_neg (show ¬ bgn 10 2 sd = true from by cases sd <;> decide), List.nil_append] at H
    exact xh_c10 hx hS ok hT hR hl H
  · rw [if_neg (show ¬ bgn 11 2 sd = true from by cases sd <;> decide), List.nil_append] at H
    exact xh_c11 hx hS ok hT hR hl H
  · rw [if_neg (show ¬ bgn 12 2 sd = true from by cases sd <;> decide), List.nil_append] at H
    exact xh_c12 hx hS ok hT hR hl H
  · rw [if_neg (show ¬ bgn 13 2 sd = true from by cases sd <;> decide), List.nil_append] at H
    exact xh_c13 hx hS ok hT hR hl H
  · rw [if_neg (show ¬ bgn 14 2 sd = true from by cases sd <;> decide), List.nil_append] at H
    exact xh_c14 hx hS ok hT hR hl H
  · rw [if_neg (show ¬ bgn 15 2 sd = true from by cases sd <;> decide), List.nil_append] at H
    exact xh_c15 hx hS ok hT hR hl H
  · obtain ⟨hX, hY, hx27, hy27, hne, hfr⟩ := hJ (by decide)
    rw [if_neg (show ¬ bgn 16 2 sd = true from by cases sd <;> decide), List.nil_append] at H
    exact xh_c16 hx hS ok hT hR hl hX hY hx27 hy27 hne hfr (hph (by decide) (by decide)) H
  · obtain ⟨hX, hY, hx27, hy27, hne, hfr⟩ := hJ (by decide)
    rw [if_neg (show ¬ bgn 17 2 sd = true from by cases sd <;> decide), List.nil_append] at H
    exact xh_c17 hx hS ok hT hR hl hX hY hx27 hy27 hne hfr (hph (by decide) (by decide)) H
  · obtain ⟨hX, hY, hx27, hy27, hne, hfr⟩ := hJ (by decide)
    rw [if_neg (show ¬ bgn 18 2 sd = true from by cases sd <;> decide), List.nil_append] at H
    exact xh_c18 hx hS ok hT hR hl hX hY hx27 hy27 hne hfr (hph (by decide) (by decide)) H
  · obtain ⟨hX, hY, hx27, hy27, hne, hfr⟩ := hJ (by decide)
    cases sd
    · exact xh_c19y hx hS ok hT hR hl hX hY hx27 hy27 hne hfr H
    · exact xh_c19x hx hS ok hT hR hl hX hY hx27 hy27 hne hfr H
  · rw [if_neg (show ¬ bgn 20 2 sd = true from by cases sd <;> decide), List.nil_append] at H
    exact xh_c20 hx hS ok hT hR hl H
theorem xg_err {post : SX → Prop} {i t s k xi yi fr : Nat} {a b v : Int32} {sd : Bool} {P : PSt} {R : List Tk} (hx : HA f_time a_partStage a_stageKind a_stageA a_stageB i t s k a b) (hS : RepA a_due a_count a_held a_heldY a_hasHeld a_hasHeldY a_queueSize a_queueIsOfX a_queueValue a_queueDue i P) (hT : f_tasks = nI R.length) (hR : rps a_taskWhat a_taskPart a_taskValue R) (hl : R.length + 2 ≤ 128) (hJ : 16 ≤ k → a_partX i = nI xi ∧ a_partY i = nI yi ∧ xi < 27 ∧ yi < 27 ∧ xi ≠ yi ∧ fr = if sd = true then xi else yi) (H : ∀ u', Eff (f_time, f_sent, f_stageCount, f_tasks, a_sourceEnded, a_stageKind, a_stageA, a_stageB, a_stageParts, a_partStage, a_partUser, a_partX, a_partY, a_phase, a_beganAfter, a_due, a_count, a_held, a_heldY, a_hasHeld, a_hasHeldY, a_queueSize, a_queueIsOfX, a_queueValue, a_queueDue, a_subStatus, a_subCode, a_subEnd, a_subDemand, a_subRequests, a_subDelivered, a_subWaiting, a_waitValue, a_history, a_taskWhat, a_taskPart, a_taskValue) u' i (he k sd v P).1 (he k sd v P).2 ((if bgn k 3 sd = true then [(0, yi, 0)] else []) ++ R) → post u') : wpX_hearError post (f_time, f_sent, f_stageCount, f_tasks, a_sourceEnded, a_stageKind, a_stageA, a_stageB, a_stageParts, a_partStage, a_partUser, a_partX, a_partY, a_phase, a_beganAfter, a_due, a_count, a_held, a_heldY, a_hasHeld, a_hasHeldY, a_queueSize, a_queueIsOfX, a_queueValue, a_queueDue, a_subStatus, a_subCode, a_subEnd, a_subDemand, a_subRequests, a_subDelivered, a_subWaiting, a_waitValue, a_history, a_taskWhat, a_taskPart, a_taskValue) (nI i) (nI fr) v := by
  obtain ⟨d, c, h, hy, f, fy, qx, q, ox, oy⟩ := P
  by_cases h20 : k = 20
  · subst h20
    obtain ⟨hX, hY, hx27, hy27, hne, hfr⟩ := hJ (by decide)
    cases sd
    · exact xh_e20y hx hS hT hR hl hX hY hx27 hy27 hne hfr H
    · exact xh_e20x hx hS hT hR hl hX hY hx27 hy27 hne hfr H
  · rw [if_neg (show ¬ bgn k 3 sd = true from by simp [bgn, h20]), List.nil_append] at H
    exact xh_e hx h20 hS hT hR hl H
theorem xg_beg {post : SX → Prop} {i t s k xi yi : Nat} {a b : Int32} {R : List Tk} (hx : HA f_time a_partStage a_stageKind a_stageA a_stageB i t s k a b) (hS : RepA a_due a_count a_held a_heldY a_hasHeld a_hasHeldY a_queueSize a_queueIsOfX a_queueValue a_queueDue i clr) (hT : f_tasks = nI R.length) (hR : rps a_taskWhat a_taskPart a_taskValue R) (hl : R.length + 2 ≤ 128) (hX : 3 ≤ k → a_partX i = nI xi) (hY : 16 ≤ k → a_partY i = nI yi) (H : ∀ u', EffB (f_time, f_sent, f_stageCount, f_tasks, a_sourceEnded, a_stageKind, a_stageA, a_stageB, a_stageParts, a_partStage, a_partUser, a_partX, a_partY, a_phase, a_beganAfter, a_due, a_count, a_held, a_heldY, a_hasHeld, a_hasHeldY, a_queueSize, a_queueIsOfX, a_queueValue, a_queueDue, a_subStatus, a_subCode, a_subEnd, a_subDemand, a_subRequests, a_subDelivered, a_subWaiting, a_waitValue, a_history, a_taskWhat, a_taskPart, a_taskValue) u' i (ini k a b t) (begs k i xi yi a) R → post u') : wpX_beginPart post (f_time, f_sent, f_stageCount, f_tasks, a_sourceEnded, a_stageKind, a_stageA, a_stageB, a_stageParts, a_partStage, a_partUser, a_partX, a_partY, a_phase, a_beganAfter, a_due, a_count, a_held, a_heldY, a_hasHeld, a_hasHeldY, a_queueSize, a_queueIsOfX, a_queueValue, a_queueDue, a_subStatus, a_subCode, a_subEnd, a_subDemand, a_subRequests, a_subDelivered, a_subWaiting, a_waitValue, a_history, a_taskWhat, a_taskPart, a_taskValue) (nI i) := by
  have hk20 := hx.2.2.2.2.2.2.2.2.1
  rcases rn_k hk20 with e | e | e | e | e | e | e | e | e | e | e | e | e | e | e | e | e | e | e | e | e <;> (first | omega | subst e)
  · exact xb_0 hx hS hT hR hl hX hY H
  · exact xb_1 hx hS hT hR hl hX hY H
  · exact xb_2 hx hS hT hR hl hX hY H
  · exact xb_3 hx hS hT hR hl hX hY H
  · exact xb_4 hx hS hT hR hl hX hY H
  · exact xb_5 hx hS hT hR hl hX hY H
  · exact xb_6 hx hS hT hR hl hX hY H
  · exact xb_7 hx hS hT hR hl hX hY H
  · exact xb_8 hx hS hT hR hl hX hY H
  · exact xb_9 hx hS hT hR hl hX hY H
  · exact xb_10 hx hS hT hR hl hX hY H
  · exact xb_11 hx hS hT hR hl hX hY H
  · exact xb_12 hx hS hT hR hl hX hY H
  · exact xb_13 hx hS hT hR hl hX hY H
  · exact xb_14 hx hS hT hR hl hX hY H
  · exact xb_15 hx hS hT hR hl hX hY H
  · exact xb_16 hx hS hT hR hl hX hY H
  · exact xb_17 hx hS hT hR hl hX hY H
  · exact xb_18 hx hS hT hR hl hX hY H
  · exact xb_19 hx hS hT hR hl hX hY H
  · exact xb_20 hx hS hT hR hl hX hY H
theorem xg_fire {post : SX → Prop} {i t s k : Nat} {a b : Int32} {P : PSt} {R : List Tk} (hx : HA f_time a_partStage a_stageKind a_stageA a_stageB i t s k a b) (h1t : 1 ≤ t) (hS : RepA a_due a_count a_held a_heldY a_hasHeld a_hasHeldY a_queueSize a_queueIsOfX a_queueValue a_queueDue i P) (ok : okS k b P) (hT : f_tasks = nI R.length) (hR : rps a_taskWhat a_taskPart a_taskValue R) (hl : R.length + 9 ≤ 128) (H : ∀ u', Eff (f_time, f_sent, f_stageCount, f_tasks, a_sourceEnded, a_stageKind, a_stageA, a_stageB, a_stageParts, a_partStage, a_partUser, a_partX, a_partY, a_phase, a_beganAfter, a_due, a_count, a_held, a_heldY, a_hasHeld, a_hasHeldY, a_queueSize, a_queueIsOfX, a_queueValue, a_queueDue, a_subStatus, a_subCode, a_subEnd, a_subDemand, a_subRequests, a_subDelivered, a_subWaiting, a_waitValue, a_history, a_taskWhat, a_taskPart, a_taskValue) u' i (fi k a b t P).1 (fi k a b t P).2 R → post u') : wpX_fireTimer post (f_time, f_sent, f_stageCount, f_tasks, a_sourceEnded, a_stageKind, a_stageA, a_stageB, a_stageParts, a_partStage, a_partUser, a_partX, a_partY, a_phase, a_beganAfter, a_due, a_count, a_held, a_heldY, a_hasHeld, a_hasHeldY, a_queueSize, a_queueIsOfX, a_queueValue, a_queueDue, a_subStatus, a_subCode, a_subEnd, a_subDemand, a_subRequests, a_subDelivered, a_subWaiting, a_waitValue, a_history, a_taskWhat, a_taskPart, a_taskValue) (nI i) := by
  obtain ⟨d, c, h, hy, f, fy, qx, q, ox, oy⟩ := P
  by_cases h11 : k = 11
  · subst h11
    exact xf_11 hx h1t hS ok hT hR hl H
  · by_cases hdt : d = t
    · have hk : tmd1 k = true := by
        rcases Bool.eq_false_or_eq_true (tmd1 k) with z | z
        · exact z
        · exfalso
          have hd0 : d = 0 := ok.2.2.2.2.2.1 z
          omega
      simp only [tmd1, tmd, Bool.or_eq_true, beq_iff_eq] at hk
      rcases hk with e | ((e | e) | e) | e
      · subst e; exact xf_1 hx h1t hS ok hT hR hl hdt H
      · exact absurd e h11
      · subst e; exact xf_12 hx h1t hS ok hT hR hl hdt H
      · subst e; exact xf_14 hx h1t hS ok hT hR hl hdt H
      · subst e; exact xf_15 hx h1t hS ok hT hR hl hdt H
    · exact xf_no hx h1t hS ok hT hR hl h11 hdt H
end
end
section
/-! ===== one step of runTasks ===== -/
def Wr (post : SX → Prop) (id x : Nat) (u : SX) : Prop := wX_runTasks_2 post (nI id) (1000001 - x) (nI x) (x_time u) (x_sent u) (x_stageCount u) (x_tasks u) (x_sourceEnded u) (x_stageKind u) (x_stageA u) (x_stageB u) (x_stageParts u) (x_partStage u) (x_partUser u) (x_partX u) (x_partY u) (x_phase u) (x_beganAfter u) (x_due u) (x_count u) (x_held u) (x_heldY u) (x_hasHeld u) (x_hasHeldY u) (x_queueSize u) (x_queueIsOfX u) (x_queueValue u) (x_queueDue u) (x_subStatus u) (x_subCode u) (x_subEnd u) (x_subDemand u) (x_subRequests u) (x_subDelivered u) (x_subWaiting u) (x_waitValue u) (x_history u) (x_taskWhat u) (x_taskPart u) (x_taskValue u)
def EffH (u u' : SX) (i : Nat) (S' : PSt) (o : Otp) (R : List Tk) (ph : Nat → Int32) : Prop :=
  x_st2 u' = x_st2 u ∧ x_sub u' = x_sub u ∧ x_phase u' = ph ∧ x_beganAfter u' = x_beganAfter u ∧ RepP u' i S' ∧ (∀ j, j ≠ i → ∀ S, RepP u j S → RepP u' j S) ∧ RepS u' (ots i o ++ R)
section
variable {f_time : Int32} {f_sent : Int32} {f_stageCount : Int32} {f_tasks : Int32} {a_sourceEnded : (Nat → Int32)} {a_stageKind : (Nat → Int32)} {a_stageA : (Nat → Int32)} {a_stageB : (Nat → Int32)} {a_stageParts : (Nat → Int32)} {a_partStage : (Nat → Int32)} {a_partUser : (Nat → Int32)} {a_partX : (Nat → Int32)} {a_partY : (Nat → Int32)} {a_phase : (Nat → Int32)} {a_beganAfter : (Nat → Int32)} {a_due : (Nat → Int32)} {a_count : (Nat → Int32)} {a_held : (Nat → Int32)} {a_heldY : (Nat → Int32)} {a_hasHeld : (Nat → Int32)} {a_hasHeldY : (Nat → Int32)} {a_queueSize : (Nat → Int32)} {a_queueIsOfX : (Nat → Int32)} {a_queueValue : (Nat → Int32)} {a_queueDue : (Nat → Int32)} {a_subStatus : (Nat → Int32)} {a_subCode : (Nat → Int32)} {a_subEnd : (Nat → Int32)} {a_subDemand : (Nat → Int64)} {a_subRequests : (Nat → Int32)} {a_subDelivered : (Nat → Int32)} {a_subWaiting : (Nat → Int32)} {a_waitValue : (Nat → Int32)} {a_history : (Nat → Int64)} {a_taskWhat : (Nat → Int32)} {a_taskPart : (Nat → Int32)} {a_taskValue : (Nat → Int32)}
theorem st_83 {post : SX → Prop} {J : Int32 → Int32 → Int32 → Int32 → Int32 → (Nat → Int32) → (Nat → Int32) → (Nat → Int32) → (Nat → Int32) → (Nat → Int32) → (Nat → Int32) → (Nat → Int32) → (Nat → Int32) → (Nat → Int32) → (Nat → Int32) → (Nat → Int32) → (Nat → Int32) → (Nat → Int32) → (Nat → Int32) → (Nat → Int32) → (Nat → Int32) → (Nat → Int32) → (Nat → Int32) → (Nat → Int32) → (Nat → Int32) → (Nat → Int32) → (Nat → Int32) → (Nat → Int32) → (Nat → Int32) → (Nat → Int64) → (Nat → Int32) → (Nat → Int32) → (Nat → Int32) → (Nat → Int32) → (Nat → Int64) → (Nat → Int32) → (Nat → Int32) → (Nat → Int32) → Prop} {id x w i zi t s k xi yi : Nat} {a b v : Int32} {sd : Bool} {P : PSt} {R : List Tk} (hi27 : i < 27) (hz27 : zi < 27) (hw : 1 ≤ w) (hw3 : w ≤ 3)
    (hu : a_partUser i = nI zi) (hx : HA f_time a_partStage a_stageKind a_stageA a_stageB zi t s k a b) (hC : (3 ≤ k → a_partX zi = nI xi ∧ xi < 27) ∧ (16 ≤ k → a_partY zi = nI yi ∧ yi < 27 ∧ xi ≠ yi)) (h3 : 3 ≤ k) (hs : i = if sd = true then xi else yi) (hsd : k < 16 → sd = true) (hph : a_phase zi = 1)
    (hot : 16 ≤ k → k < 19 → (a_phase (if sd = true then yi else xi) = 2 ↔ (if sd = true then P.2.2.2.2.2.2.2.2.2 else P.2.2.2.2.2.2.2.2.1) = true))
    (hP : RepA a_due a_count a_held a_heldY a_hasHeld a_hasHeldY a_queueSize a_queueIsOfX a_queueValue a_queueDue zi P) (ok : okS k b P) (hT : f_tasks = nI R.length) (hR : rps a_taskWhat a_taskPart a_taskValue R) (hl : R.length + 2 ≤ 128)
    (K : ∀ u', Eff (f_time, f_sent, f_stageCount, f_tasks, a_sourceEnded, a_stageKind, a_stageA, a_stageB, a_stageParts, a_partStage, a_partUser, a_partX, a_partY, a_phase, a_beganAfter, a_due, a_count, a_held, a_heldY, a_hasHeld, a_hasHeldY, a_queueSize, a_queueIsOfX, a_queueValue, a_queueDue, a_subStatus, a_subCode, a_subEnd, a_subDemand, a_subRequests, a_subDelivered, a_subWaiting, a_waitValue, a_history, a_taskWhat, a_taskPart, a_taskValue) u' zi (hear k b t sd w v P).1 (hear k b t sd w v P).2 ((if bgn k w sd = true then [(0, yi, 0)] else []) ++ R) → J (nI (x + 1)) (x_time u') (x_sent u') (x_stageCount u') (x_tasks u') (x_sourceEnded u') (x_stageKind u') (x_stageA u') (x_stageB u') (x_stageParts u') (x_partStage u') (x_partUser u') (x_partX u') (x_partY u') (x_phase u') (x_beganAfter u') (x_due u') (x_count u') (x_held u') (x_heldY u') (x_hasHeld u') (x_hasHeldY u') (x_queueSize u') (x_queueIsOfX u') (x_queueValue u') (x_queueDue u') (x_subStatus u') (x_subCode u') (x_subEnd u') (x_subDemand u') (x_subRequests u') (x_subDelivered u') (x_subWaiting u') (x_waitValue u') (x_history u') (x_taskWhat u') (x_taskPart u') (x_taskValue u')) : wX_runTasks_83 post J (nI id) (nI x) (nI w) (nI i) v f_time f_sent f_stageCount f_tasks a_sourceEnded a_stageKind a_stageA a_stageB a_stageParts a_partStage a_partUser a_partX a_partY a_phase a_beganAfter a_due a_count a_held a_heldY a_hasHeld a_hasHeldY a_queueSize a_queueIsOfX a_queueValue a_queueDue a_subStatus a_subCode a_subEnd a_subDemand a_subRequests a_subDelivered a_subWaiting a_waitValue a_history a_taskWhat a_taskPart a_taskValue := by
  have hci : (nI i).toNatClampNeg = i := nI_clamp (by omega)
  have hcz : (nI zi).toNatClampNeg = zi := nI_clamp (by omega)
  have hiz : vp_in (nI zi) 27 := vp_in_nI hz27 (by decide)
  have hin : vp_in (nI i) 27 := vp_in_nI hi27 (by decide)
  have hs12 : s < 12 := hx.2.2.2.2.1
  have hps : a_partStage (nI zi).toNatClampNeg = nI s := by rw [hcz]; exact hx.2.2.2.1
  have hcs : (nI s).toNatClampNeg = s := nI_clamp (by omega)
  have hk20 : k ≤ 20 := hx.2.2.2.2.2.2.2.2.1
  have hkk : a_stageKind (a_partStage (nI zi).toNatClampNeg).toNatClampNeg = nI k := by rw [hps, hcs]; exact hx.2.2.2.2.2.1
  have hne : ¬ nI zi = -1 := by
    intro e
    have : (-1 : Int32) < 0 := by decide
    rw [← e] at this
    exact absurd this (nI_pos (by omega))
  have hJ : 16 ≤ k → a_partX zi = nI xi ∧ a_partY zi = nI yi ∧ xi < 27 ∧ yi < 27 ∧ xi ≠ yi ∧ i = if sd = true then xi else yi := fun h16 => ⟨(hC.1 h3).1, (hC.2 h16).1, (hC.1 h3).2, (hC.2 h16).2.1, (hC.2 h16).2.2, hs⟩
  refine ⟨hin, nm_r (e' := nI zi) (by rw [hci]; exact hu) (br_f hne ⟨hiz, br_t (by rw [hcz]; exact hph) ?_⟩)⟩
  by_cases hw1 : w = 1
  · subst hw1
    have eh : hear k b t sd 1 v P = hi k b t sd v P := rfl
    have eb : bgn k 1 sd = false := by simp [bgn]
    rw [eh, eb] at K
    refine br_t rfl ⟨hiz, by rw [hps]; exact vp_in_nI hs12 (by decide), ?_⟩
    by_cases h16 : k < 16
    · have hsd1 := hsd h16
      subst hsd1
      refine br_t (by rw [hkk]; exact nI_lt (b := 16) h16 (by decide)) (br_t rfl ?_)
      refine xg_item hx h3 h16 hP ok hT hR hl (fun u' he => ?_)
      have := K u' he
      obtain ⟨f_time, f_sent, f_stageCount, f_tasks, a_sourceEnded, a_stageKind, a_stageA, a_stageB, a_stageParts, a_partStage, a_partUser, a_partX, a_partY, a_phase, a_beganAfter, a_due, a_count, a_held, a_heldY, a_hasHeld, a_hasHeldY, a_queueSize, a_queueIsOfX, a_queueValue, a_queueDue, a_subStatus, a_subCode, a_subEnd, a_subDemand, a_subRequests, a_subDelivered, a_subWaiting, a_waitValue, a_history, a_taskWhat, a_taskPart, a_taskValue⟩ := u'
      exact nm_r (nI_1 x) this
    · refine br_f (by rw [hkk]; exact nI_nlt (b := 16) (by omega) (by omega)) ?_
      obtain ⟨hX, hY, hx27, hy27, hxy, hs'⟩ := hJ (by omega)
      refine xg_join hx (by omega) hP ok hT hR hl hX hY hx27 hy27 hxy hs' (hot (by omega)) (fun u' he => ?_)
      have := K u' he
      obtain ⟨f_time, f_sent, f_stageCount, f_tasks, a_sourceEnded, a_stageKind, a_stageA, a_stageB, a_stageParts, a_partStage, a_partUser, a_partX, a_partY, a_phase, a_beganAfter, a_due, a_count, a_held, a_heldY, a_hasHeld, a_hasHeldY, a_queueSize, a_queueIsOfX, a_queueValue, a_queueDue, a_subStatus, a_subCode, a_subEnd, a_subDemand, a_subRequests, a_subDelivered, a_subWaiting, a_waitValue, a_history, a_taskWhat, a_taskPart, a_taskValue⟩ := u'
      exact nm_r (nI_1 x) this
  · have hw1' : ¬ nI w = 1 := by rw [show (1 : Int32) = nI 1 from rfl, nI_eq (by omega) (by decide)]; exact hw1
    refine br_f hw1' (br_f hw1' ?_)
    by_cases hw2 : w = 2
    · subst hw2
      have eh : hear k b t sd 2 v P = hc k b t sd P := rfl
      rw [eh] at K
      refine br_t rfl ?_
      refine xg_comp hx h3 hP ok hT hR hl hJ hot (fun u' he => ?_)
      have := K u' he
      obtain ⟨f_time, f_sent, f_stageCount, f_tasks, a_sourceEnded, a_stageKind, a_stageA, a_stageB, a_stageParts, a_partStage, a_partUser, a_partX, a_partY, a_phase, a_beganAfter, a_due, a_count, a_held, a_heldY, a_hasHeld, a_hasHeldY, a_queueSize, a_queueIsOfX, a_queueValue, a_queueDue, a_subStatus, a_subCode, a_subEnd, a_subDemand, a_subRequests, a_subDelivered, a_subWaiting, a_waitValue, a_history, a_taskWhat, a_taskPart, a_taskValue⟩ := u'
      exact nm_r (nI_1 x) this
    · have hw3' : w = 3 := by omega
      subst hw3'
      have eh : hear k b t sd 3 v P = he k sd v P := rfl
      rw [eh] at K
      refine br_f (by decide) ?_
      refine xg_err hx hP hT hR hl hJ (fun u' he => ?_)
      have := K u' he
      obtain ⟨f_time, f_sent, f_stageCount, f_tasks, a_sourceEnded, a_stageKind, a_stageA, a_stageB, a_stageParts, a_partStage, a_partUser, a_partX, a_partY, a_phase, a_beganAfter, a_due, a_count, a_held, a_heldY, a_hasHeld, a_hasHeldY, a_queueSize, a_queueIsOfX, a_queueValue, a_queueDue, a_subStatus, a_subCode, a_subEnd, a_subDemand, a_subRequests, a_subDelivered, a_subWaiting, a_waitValue, a_history, a_taskWhat, a_taskPart, a_taskValue⟩ := u'
      exact nm_r (nI_1 x) this
/-- the user does not run: nothing is heard -/
theorem st_83n {post : SX → Prop} {J : Int32 → Int32 → Int32 → Int32 → Int32 → (Nat → Int32) → (Nat → Int32) → (Nat → Int32) → (Nat → Int32) → (Nat → Int32) → (Nat → Int32) → (Nat → Int32) → (Nat → Int32) → (Nat → Int32) → (Nat → Int32) → (Nat → Int32) → (Nat → Int32) → (Nat → Int32) → (Nat → Int32) → (Nat → Int32) → (Nat → Int32) → (Nat → Int32) → (Nat → Int32) → (Nat → Int32) → (Nat → Int32) → (Nat → Int32) → (Nat → Int32) → (Nat → Int32) → (Nat → Int32) → (Nat → Int64) → (Nat → Int32) → (Nat → Int32) → (Nat → Int32) → (Nat → Int32) → (Nat → Int64) → (Nat → Int32) → (Nat → Int32) → (Nat → Int32) → Prop} {id x w i zi : Nat} {v : Int32} (hi27 : i < 27) (hz27 : zi < 27) (hu : a_partUser i = nI zi) (hph : ¬ a_phase zi = 1)
    (K : J (nI (x + 1)) f_time f_sent f_stageCount f_tasks a_sourceEnded a_stageKind a_stageA a_stageB a_stageParts a_partStage a_partUser a_partX a_partY a_phase a_beganAfter a_due a_count a_held a_heldY a_hasHeld a_hasHeldY a_queueSize a_queueIsOfX a_queueValue a_queueDue a_subStatus a_subCode a_subEnd a_subDemand a_subRequests a_subDelivered a_subWaiting a_waitValue a_history a_taskWhat a_taskPart a_taskValue) : wX_runTasks_83 post J (nI id) (nI x) (nI w) (nI i) v f_time f_sent f_stageCount f_tasks a_sourceEnded a_stageKind a_stageA a_stageB a_stageParts a_partStage a_partUser a_partX a_partY a_phase a_beganAfter a_due a_count a_held a_heldY a_hasHeld a_hasHeldY a_queueSize a_queueIsOfX a_queueValue a_queueDue a_subStatus a_subCode a_subEnd a_subDemand a_subRequests a_subDelivered a_subWaiting a_waitValue a_history a_taskWhat a_taskPart a_taskValue := by
  have hci : (nI i).toNatClampNeg = i := nI_clamp (by omega)
  have hcz : (nI zi).toNatClampNeg = zi := nI_clamp (by omega)
  have hne : ¬ nI zi = -1 := by
    intro e
    have : (-1 : Int32) < 0 := by decide
    rw [← e] at this
    exact absurd this (nI_pos (by omega))
  exact ⟨vp_in_nI hi27 (by decide), nm_r (e' := nI zi) (by rw [hci]; exact hu) (br_f hne ⟨vp_in_nI hz27 (by decide), br_f (by rw [hcz]; exact hph) (nm_r (nI_1 x) K)⟩)⟩
/-- the root: the subscription hears -/
theorem st_83r {post : SX → Prop} {J : Int32 → Int32 → Int32 → Int32 → Int32 → (Nat → Int32) → (Nat → Int32) → (Nat → Int32) → (Nat → Int32) → (Nat → Int32) → (Nat → Int32) → (Nat → Int32) → (Nat → Int32) → (Nat → Int32) → (Nat → Int32) → (Nat → Int32) → (Nat → Int32) → (Nat → Int32) → (Nat → Int32) → (Nat → Int32) → (Nat → Int32) → (Nat → Int32) → (Nat → Int32) → (Nat → Int32) → (Nat → Int32) → (Nat → Int32) → (Nat → Int32) → (Nat → Int32) → (Nat → Int32) → (Nat → Int64) → (Nat → Int32) → (Nat → Int32) → (Nat → Int32) → (Nat → Int32) → (Nat → Int64) → (Nat → Int32) → (Nat → Int32) → (Nat → Int32) → Prop} {id x w i t : Nat} {v : Int32} {s : Sb} (hi27 : i < 27) (hid : id < 3) (hw : 1 ≤ w) (hw3 : w ≤ 3) (hu : a_partUser i = -1) (ht : f_time = nI t) (hS : RepB a_subStatus a_subCode a_subEnd a_subDemand a_subDelivered a_subWaiting a_waitValue a_history id s)
    (K : ∀ u', EffS (f_time, f_sent, f_stageCount, f_tasks, a_sourceEnded, a_stageKind, a_stageA, a_stageB, a_stageParts, a_partStage, a_partUser, a_partX, a_partY, a_phase, a_beganAfter, a_due, a_count, a_held, a_heldY, a_hasHeld, a_hasHeldY, a_queueSize, a_queueIsOfX, a_queueValue, a_queueDue, a_subStatus, a_subCode, a_subEnd, a_subDemand, a_subRequests, a_subDelivered, a_subWaiting, a_waitValue, a_history, a_taskWhat, a_taskPart, a_taskValue) u' id (sst t w v s) → J (nI (x + 1)) (x_time u') (x_sent u') (x_stageCount u') (x_tasks u') (x_sourceEnded u') (x_stageKind u') (x_stageA u') (x_stageB u') (x_stageParts u') (x_partStage u') (x_partUser u') (x_partX u') (x_partY u') (x_phase u') (x_beganAfter u') (x_due u') (x_count u') (x_held u') (x_heldY u') (x_hasHeld u') (x_hasHeldY u') (x_queueSize u') (x_queueIsOfX u') (x_queueValue u') (x_queueDue u') (x_subStatus u') (x_subCode u') (x_subEnd u') (x_subDemand u') (x_subRequests u') (x_subDelivered u') (x_subWaiting u') (x_waitValue u') (x_history u') (x_taskWhat u') (x_taskPart u') (x_taskValue u')) : wX_runTasks_83 post J (nI id) (nI x) (nI w) (nI i) v f_time f_sent f_stageCount f_tasks a_sourceEnded a_stageKind a_stageA a_stageB a_stageParts a_partStage a_partUser a_partX a_partY a_phase a_beganAfter a_due a_count a_held a_heldY a_hasHeld a_hasHeldY a_queueSize a_queueIsOfX a_queueValue a_queueDue a_subStatus a_subCode a_subEnd a_subDemand a_subRequests a_subDelivered a_subWaiting a_waitValue a_history a_taskWhat a_taskPart a_taskValue := by
  have hci : (nI i).toNatClampNeg = i := nI_clamp (by omega)
  refine ⟨vp_in_nI hi27 (by decide), nm_r (e' := -1) (by rw [hci]; exact hu) (br_t rfl ?_)⟩
  refine xs_reach hid ht hw hw3 hS (fun u' he => ?_)
  have := K u' he
  obtain ⟨f_time, f_sent, f_stageCount, f_tasks, a_sourceEnded, a_stageKind, a_stageA, a_stageB, a_stageParts, a_partStage, a_partUser, a_partX, a_partY, a_phase, a_beganAfter, a_due, a_count, a_held, a_heldY, a_hasHeld, a_hasHeldY, a_queueSize, a_queueIsOfX, a_queueValue, a_queueDue, a_subStatus, a_subCode, a_subEnd, a_subDemand, a_subRequests, a_subDelivered, a_subWaiting, a_waitValue, a_history, a_taskWhat, a_taskPart, a_taskValue⟩ := u'
  exact nm_r (nI_1 x) this
/-- popping an event -/
theorem st_pop {post : SX → Prop} {id x w i : Nat} {v : Int32} {R : List Tk} (hx : x < 1000000) (hw : 1 ≤ w) (hw3 : w ≤ 3) (hi27 : i < 27) (hl : R.length < 128) (hT : f_tasks = nI ((w, i, v) :: R).length) (hR : rps a_taskWhat a_taskPart a_taskValue ((w, i, v) :: R))
    (K : wX_runTasks_83 post (wX_runTasks_2 post (nI id) (1000000 - x)) (nI id) (nI x) (nI w) (nI i) v f_time f_sent f_stageCount (nI R.length) a_sourceEnded a_stageKind a_stageA a_stageB a_stageParts a_partStage a_partUser a_partX a_partY (if w = 1 then a_phase else upd a_phase i 2) a_beganAfter a_due a_count a_held a_heldY a_hasHeld a_hasHeldY a_queueSize a_queueIsOfX a_queueValue a_queueDue a_subStatus a_subCode a_subEnd a_subDemand a_subRequests a_subDelivered a_subWaiting a_waitValue a_history a_taskWhat a_taskPart a_taskValue) : wX_runTasks_2 post (nI id) (1000001 - x) (nI x) f_time f_sent f_stageCount f_tasks a_sourceEnded a_stageKind a_stageA a_stageB a_stageParts a_partStage a_partUser a_partX a_partY a_phase a_beganAfter a_due a_count a_held a_heldY a_hasHeld a_hasHeldY a_queueSize a_queueIsOfX a_queueValue a_queueDue a_subStatus a_subCode a_subEnd a_subDemand a_subRequests a_subDelivered a_subWaiting a_waitValue a_history a_taskWhat a_taskPart a_taskValue := by
  obtain ⟨r1, r2, r3, r4⟩ := hR
  have hci : (nI i).toNatClampNeg = i := nI_clamp (by omega)
  have hcR : (nI R.length).toNatClampNeg = R.length := nI_clamp (by omega)
  have hin : vp_in (nI R.length) 128 := vp_in_nI hl (by decide)
  rw [show 1000001 - x = (1000000 - x) + 1 from by omega]
  refine br_f (by rw [show (1000000 : Int32) = nI 1000000 from rfl]; exact nI_ge hx (by decide)) (br_f (by rw [hT]; exact nI_nle (by simp) (by simp; omega)) (nm_r (e' := nI R.length) (by rw [hT]; exact nI_pred _) ⟨hin, nm_r (e' := nI w) (by rw [hcR]; exact r1) ⟨hin, nm_r (e' := nI i) (by rw [hcR]; exact r2) ⟨hin, nm_r (e' := v) (by rw [hcR]; exact r3) (br_f (nI_ne0 (by omega) (by omega)) ?_)⟩⟩⟩))
  by_cases h1 : w = 1
  · rw [if_pos h1] at K
    exact br_t (by rw [h1]; rfl) K
  · rw [if_neg h1] at K
    exact br_f (by rw [show (1 : Int32) = nI 1 from rfl, nI_eq (by omega) (by decide)]; exact h1) ⟨vp_in_nI hi27 (by decide), nm_r (e' := upd a_phase i 2) (by rw [hci]) K⟩
theorem st_popB {post : SX → Prop} {id x i t s k xi yi : Nat} {a b v : Int32} {R : List Tk} (hx : x < 1000000) (hl : R.length + 2 ≤ 128) (hT : f_tasks = nI ((0, i, v) :: R).length) (hR : rps a_taskWhat a_taskPart a_taskValue ((0, i, v) :: R))
    (hA : HA f_time a_partStage a_stageKind a_stageA a_stageB i t s k a b) (hS : RepA a_due a_count a_held a_heldY a_hasHeld a_hasHeldY a_queueSize a_queueIsOfX a_queueValue a_queueDue i clr) (hX : 3 ≤ k → a_partX i = nI xi) (hY : 16 ≤ k → a_partY i = nI yi)
    (K : ∀ u', EffB (f_time, f_sent, f_stageCount, nI R.length, a_sourceEnded, a_stageKind, a_stageA, a_stageB, a_stageParts, a_partStage, a_partUser, a_partX, a_partY, a_phase, a_beganAfter, a_due, a_count, a_held, a_heldY, a_hasHeld, a_hasHeldY, a_queueSize, a_queueIsOfX, a_queueValue, a_queueDue, a_subStatus, a_subCode, a_subEnd, a_subDemand, a_subRequests, a_subDelivered, a_subWaiting, a_waitValue, a_history, a_taskWhat, a_taskPart, a_taskValue) u' i (ini k a b t) (begs k i xi yi a) R → wX_runTasks_2 post (nI id) (1000000 - x) (nI (x + 1)) (x_time u') (x_sent u') (x_stageCount u') (x_tasks u') (x_sourceEnded u') (x_stageKind u') (x_stageA u') (x_stageB u') (x_stageParts u') (x_partStage u') (x_partUser u') (x_partX u') (x_partY u') (x_phase u') (x_beganAfter u') (x_due u') (x_count u') (x_held u') (x_heldY u') (x_hasHeld u') (x_hasHeldY u') (x_queueSize u') (x_queueIsOfX u') (x_queueValue u') (x_queueDue u') (x_subStatus u') (x_subCode u') (x_subEnd u') (x_subDemand u') (x_subRequests u') (x_subDelivered u') (x_subWaiting u') (x_waitValue u') (x_history u') (x_taskWhat u') (x_taskPart u') (x_taskValue u')) : wX_runTasks_2 post (nI id) (1000001 - x) (nI x) f_time f_sent f_stageCount f_tasks a_sourceEnded a_stageKind a_stageA a_stageB a_stageParts a_partStage a_partUser a_partX a_partY a_phase a_beganAfter a_due a_count a_held a_heldY a_hasHeld a_hasHeldY a_queueSize a_queueIsOfX a_queueValue a_queueDue a_subStatus a_subCode a_subEnd a_subDemand a_subRequests a_subDelivered a_subWaiting a_waitValue a_history a_taskWhat a_taskPart a_taskValue := by
  obtain ⟨r1, r2, r3, r4⟩ := hR
  have hcR : (nI R.length).toNatClampNeg = R.length := nI_clamp (by omega)
  have hin : vp_in (nI R.length) 128 := vp_in_nI (by omega) (by decide)
  rw [show 1000001 - x = (1000000 - x) + 1 from by omega]
  refine br_f (by rw [show (1000000 : Int32) = nI 1000000 from rfl]; exact nI_ge hx (by decide)) (br_f (by rw [hT]; exact nI_nle (by simp) (by simp; omega)) (nm_r (e' := nI R.length) (by rw [hT]; exact nI_pred _) ⟨hin, nm_r (e' := nI 0) (by rw [hcR]; exact r1) ⟨hin, nm_r (e' := nI i) (by rw [hcR]; exact r2) ⟨hin, nm_r (e' := v) (by rw [hcR]; exact r3) (br_t rfl ?_)⟩⟩⟩))
  refine xg_beg hA hS rfl r4 hl hX hY (fun u' he => ?_)
  have := K u' he
  obtain ⟨f_time, f_sent, f_stageCount, f_tasks, a_sourceEnded, a_stageKind, a_stageA, a_stageB, a_stageParts, a_partStage, a_partUser, a_partX, a_partY, a_phase, a_beganAfter, a_due, a_count, a_held, a_heldY, a_hasHeld, a_hasHeldY, a_queueSize, a_queueIsOfX, a_queueValue, a_queueDue, a_subStatus, a_subCode, a_subEnd, a_subDemand, a_subRequests, a_subDelivered, a_subWaiting, a_waitValue, a_history, a_taskWhat, a_taskPart, a_taskValue⟩ := u'
  exact nm_r (nI_1 x) this
theorem st_end {post : SX → Prop} {id x : Nat} (hx : x ≤ 1000000) (hT : f_tasks = nI 0) (H : post (f_time, f_sent, f_stageCount, f_tasks, a_sourceEnded, a_stageKind, a_stageA, a_stageB, a_stageParts, a_partStage, a_partUser, a_partX, a_partY, a_phase, a_beganAfter, a_due, a_count, a_held, a_heldY, a_hasHeld, a_hasHeldY, a_queueSize, a_queueIsOfX, a_queueValue, a_queueDue, a_subStatus, a_subCode, a_subEnd, a_subDemand, a_subRequests, a_subDelivered, a_subWaiting, a_waitValue, a_history, a_taskWhat, a_taskPart, a_taskValue)) : wX_runTasks_2 post (nI id) (1000001 - x) (nI x) f_time f_sent f_stageCount f_tasks a_sourceEnded a_stageKind a_stageA a_stageB a_stageParts a_partStage a_partUser a_partX a_partY a_phase a_beganAfter a_due a_count a_held a_heldY a_hasHeld a_hasHeldY a_queueSize a_queueIsOfX a_queueValue a_queueDue a_subStatus a_subCode a_subEnd a_subDemand a_subRequests a_subDelivered a_subWaiting a_waitValue a_history a_taskWhat a_taskPart a_taskValue := by
  rw [show 1000001 - x = (1000000 - x) + 1 from by omega]
  by_cases h : x < 1000000
  · exact br_f (by rw [show (1000000 : Int32) = nI 1000000 from rfl]; exact nI_ge h (by decide)) (br_t (by rw [hT]; decide) H)
  · exact br_t (by rw [show (1000000 : Int32) = nI 1000000 from rfl]; exact nI_le (by omega) (by omega)) H
end
end
section
/-! ===== the same at a state u ===== -/
theorem sv_of_ph {u u' : SX} {p q : Nat → Int32} (h : x_ph u' = (p, q)) : x_phase u' = p ∧ x_beganAfter u' = q := by
  have h1 : (x_phase u', x_beganAfter u') = (p, q) := h
  exact ⟨congrArg Prod.fst h1, congrArg Prod.snd h1⟩
theorem sw_next {post : SX → Prop} {id x : Nat} {u : SX} (hx : x < 1000000) (h : Wr post id (x + 1) u) : wX_runTasks_2 post (nI id) (1000000 - x) (nI (x + 1)) (x_time u) (x_sent u) (x_stageCount u) (x_tasks u) (x_sourceEnded u) (x_stageKind u) (x_stageA u) (x_stageB u) (x_stageParts u) (x_partStage u) (x_partUser u) (x_partX u) (x_partY u) (x_phase u) (x_beganAfter u) (x_due u) (x_count u) (x_held u) (x_heldY u) (x_hasHeld u) (x_hasHeldY u) (x_queueSize u) (x_queueIsOfX u) (x_queueValue u) (x_queueDue u) (x_subStatus u) (x_subCode u) (x_subEnd u) (x_subDemand u) (x_subRequests u) (x_subDelivered u) (x_subWaiting u) (x_waitValue u) (x_history u) (x_taskWhat u) (x_taskPart u) (x_taskValue u) := by
  have e : 1000001 - (x + 1) = 1000000 - x := by omega
  unfold Wr at h
  rw [e] at h
  exact h
theorem sw_ev {post : SX → Prop} {id x w i zi t s k xi yi : Nat} {a b v : Int32} {sd : Bool} {P : PSt} {R : List Tk} {u : SX} (hx : x < 1000000) (hi27 : i < 27) (hz27 : zi < 27) (hw : 1 ≤ w) (hw3 : w ≤ 3) (hS : RepS u ((w, i, v) :: R)) (hl : R.length + 2 ≤ 128)
    (hu : HU i (nI zi) (x_st2 u)) (hz : HZ zi t s k a b (x_st2 u)) (hC : HC zi xi yi k (x_st2 u)) (h3 : 3 ≤ k) (hs : i = if sd = true then xi else yi) (hsd : k < 16 → sd = true) (hzi : zi ≠ i) (hph : x_phase u zi = 1)
    (hot : 16 ≤ k → k < 19 → (x_phase u (if sd = true then yi else xi) = 2 ↔ (if sd = true then P.2.2.2.2.2.2.2.2.2 else P.2.2.2.2.2.2.2.2.1) = true))
    (hP : RepP u zi P) (ok : okS k b P)
    (K : ∀ u', EffH u u' zi (hear k b t sd w v P).1 (hear k b t sd w v P).2 ((if bgn k w sd = true then [(0, yi, 0)] else []) ++ R) (if w = 1 then x_phase u else upd (x_phase u) i 2) → Wr post id (x + 1) u') : Wr post id x u := by
  obtain ⟨f_time, f_sent, f_stageCount, f_tasks, a_sourceEnded, a_stageKind, a_stageA, a_stageB, a_stageParts, a_partStage, a_partUser, a_partX, a_partY, a_phase, a_beganAfter, a_due, a_count, a_held, a_heldY, a_hasHeld, a_hasHeldY, a_queueSize, a_queueIsOfX, a_queueValue, a_queueDue, a_subStatus, a_subCode, a_subEnd, a_subDemand, a_subRequests, a_subDelivered, a_subWaiting, a_waitValue, a_history, a_taskWhat, a_taskPart, a_taskValue⟩ := u
  have hSt := xe_stk hS
  have hC' := xg_of_HC hC
  have hph1 : a_phase zi = 1 := hph
  have hot1 : 16 ≤ k → k < 19 → (a_phase (if sd = true then yi else xi) = 2 ↔ (if sd = true then P.2.2.2.2.2.2.2.2.2 else P.2.2.2.2.2.2.2.2.1) = true) := hot
  refine st_pop hx hw hw3 hi27 (by omega) hSt.1 hSt.2 ?_
  refine st_83 hi27 hz27 hw hw3 (xg_of_HU hu) (xg_of_HZ hz) hC' h3 hs hsd ?_ ?_ (xe_rep hP) ok rfl hSt.2.2.2.2 hl (fun u' he => sw_next hx (K u' ?_))
  · by_cases h1 : w = 1
    · rw [if_pos h1]; exact hph1
    · rw [if_neg h1, pk_un hzi]; exact hph1
  · intro g1 g2
    by_cases h1 : w = 1
    · rw [if_pos h1]; exact hot1 g1 g2
    · have hne : (if sd = true then yi else xi) ≠ i := by
        have := (hC'.2 g1).2.2
        rw [hs]
        cases sd
        · rw [if_neg (by decide), if_neg (by decide)]; exact this
        · rw [if_pos rfl, if_pos rfl]; exact fun z => this z.symm
      rw [if_neg h1, pk_un hne]; exact hot1 g1 g2
  · obtain ⟨z1, z2, z3, z4, z5, z6⟩ := he
    have z3' := sv_of_ph (u := u') (z3.trans xe_ph)
    exact ⟨z1.trans (xe_st2.trans xe_st2.symm), z2.trans (xe_sub.trans xe_sub.symm), z3'.1, z3'.2, z4, fun j hj S hS => z5 j hj S (xe_rep' (xe_rep hS)), z6⟩
/-- nothing but popping (and the end of part i) -/
def EffN (u u' : SX) (R : List Tk) (ph : Nat → Int32) : Prop :=
  x_st2 u' = x_st2 u ∧ x_sub u' = x_sub u ∧ x_phase u' = ph ∧ x_beganAfter u' = x_beganAfter u ∧ (∀ j, ∀ S, RepP u j S → RepP u' j S) ∧ RepS u' R
theorem sw_evn {post : SX → Prop} {id x w i zi : Nat} {v : Int32} {R : List Tk} {u : SX} (hx : x < 1000000) (hi27 : i < 27) (hz27 : zi < 27) (hw : 1 ≤ w) (hw3 : w ≤ 3) (hS : RepS u ((w, i, v) :: R)) (hl : R.length + 2 ≤ 128)
    (hu : HU i (nI zi) (x_st2 u)) (hzi : zi ≠ i) (hph : ¬ x_phase u zi = 1)
    (K : ∀ u', EffN u u' R (if w = 1 then x_phase u else upd (x_phase u) i 2) → Wr post id (x + 1) u') : Wr post id x u := by
  obtain ⟨f_time, f_sent, f_stageCount, f_tasks, a_sourceEnded, a_stageKind, a_stageA, a_stageB, a_stageParts, a_partStage, a_partUser, a_partX, a_partY, a_phase, a_beganAfter, a_due, a_count, a_held, a_heldY, a_hasHeld, a_hasHeldY, a_queueSize, a_queueIsOfX, a_queueValue, a_queueDue, a_subStatus, a_subCode, a_subEnd, a_subDemand, a_subRequests, a_subDelivered, a_subWaiting, a_waitValue, a_history, a_taskWhat, a_taskPart, a_taskValue⟩ := u
  have hSt := xe_stk hS
  have hph1 : ¬ a_phase zi = 1 := hph
  refine st_pop hx hw hw3 hi27 (by omega) hSt.1 hSt.2 ?_
  refine st_83n hi27 hz27 (xg_of_HU hu) ?_ (sw_next (u := (f_time, f_sent, f_stageCount, nI R.length, a_sourceEnded, a_stageKind, a_stageA, a_stageB, a_stageParts, a_partStage, a_partUser, a_partX, a_partY, if w = 1 then a_phase else upd a_phase i 2, a_beganAfter, a_due, a_count, a_held, a_heldY, a_hasHeld, a_hasHeldY, a_queueSize, a_queueIsOfX, a_queueValue, a_queueDue, a_subStatus, a_subCode, a_subEnd, a_subDemand, a_subRequests, a_subDelivered, a_subWaiting, a_waitValue, a_history, a_taskWhat, a_taskPart, a_taskValue)) hx (K _ ⟨xe_st2.trans xe_st2.symm, xe_sub.trans xe_sub.symm, rfl, rfl, fun j S hS => xe_rep' (xe_rep hS), xe_stk' rfl hSt.2.2.2.2⟩))
  by_cases h1 : w = 1
  · rw [if_pos h1]; exact hph1
  · rw [if_neg h1, pk_un hzi]; exact hph1
/-- the root says -/
def EffR (u u' : SX) (id : Nat) (s' : Sb) (R : List Tk) (ph : Nat → Int32) : Prop :=
  x_st2 u' = x_st2 u ∧ x_phase u' = ph ∧ x_beganAfter u' = x_beganAfter u ∧ (∀ j, ∀ S, RepP u j S → RepP u' j S) ∧ RepU u' id s' ∧ (∀ j, j ≠ id → ∀ s, RepU u j s → RepU u' j s) ∧ RepS u' R
theorem sv_of_pa {u u' : SX} (h : x_pa u' = x_pa u) (j : Nat) (S : PSt) (hS : RepP u j S) : RepP u' j S := by
  unfold RepP at hS ⊢
  have h1 : x_due u' = x_due u := congrArg (fun z => z.1) h
  have h2 : x_count u' = x_count u := congrArg (fun z => z.2.1) h
  have h3 : x_held u' = x_held u := congrArg (fun z => z.2.2.1) h
  have h4 : x_heldY u' = x_heldY u := congrArg (fun z => z.2.2.2.1) h
  have h5 : x_hasHeld u' = x_hasHeld u := congrArg (fun z => z.2.2.2.2.1) h
  have h6 : x_hasHeldY u' = x_hasHeldY u := congrArg (fun z => z.2.2.2.2.2.1) h
  have h7 : x_queueSize u' = x_queueSize u := congrArg (fun z => z.2.2.2.2.2.2.1) h
  have h8 : x_queueIsOfX u' = x_queueIsOfX u := congrArg (fun z => z.2.2.2.2.2.2.2.1) h
  have h9 : x_queueValue u' = x_queueValue u := congrArg (fun z => z.2.2.2.2.2.2.2.2.1) h
  have h10 : x_queueDue u' = x_queueDue u := congrArg (fun z => z.2.2.2.2.2.2.2.2.2) h
  rw [h1, h2, h3, h4, h5, h6, h7, h8, h9, h10]
  exact hS
theorem sv_of_tk {u u' : SX} (h : x_tk u' = x_tk u) (R : List Tk) (hR : RepS u R) : RepS u' R := by
  unfold RepS at hR ⊢
  have h1 : x_tasks u' = x_tasks u := congrArg (fun z => z.1) h
  have h2 : x_taskWhat u' = x_taskWhat u := congrArg (fun z => z.2.1) h
  have h3 : x_taskPart u' = x_taskPart u := congrArg (fun z => z.2.2.1) h
  have h4 : x_taskValue u' = x_taskValue u := congrArg (fun z => z.2.2.2) h
  rw [h1, h2, h3, h4]
  exact hR
def HT (t : Nat) : St2 → Prop
  | (ti, _) => ti = nI t
theorem sw_evr {post : SX → Prop} {id x w i t : Nat} {v : Int32} {R : List Tk} {u : SX} {s : Sb} (hid : id < 3) (hx : x < 1000000) (hi27 : i < 27) (hw : 1 ≤ w) (hw3 : w ≤ 3) (hS : RepS u ((w, i, v) :: R)) (hl : R.length + 2 ≤ 128)
    (hu : HU i (-1) (x_st2 u)) (ht : HT t (x_st2 u)) (hs : RepU u id s)
    (K : ∀ u', EffR u u' id (sst t w v s) R (if w = 1 then x_phase u else upd (x_phase u) i 2) → Wr post id (x + 1) u') : Wr post id x u := by
  obtain ⟨f_time, f_sent, f_stageCount, f_tasks, a_sourceEnded, a_stageKind, a_stageA, a_stageB, a_stageParts, a_partStage, a_partUser, a_partX, a_partY, a_phase, a_beganAfter, a_due, a_count, a_held, a_heldY, a_hasHeld, a_hasHeldY, a_queueSize, a_queueIsOfX, a_queueValue, a_queueDue, a_subStatus, a_subCode, a_subEnd, a_subDemand, a_subRequests, a_subDelivered, a_subWaiting, a_waitValue, a_history, a_taskWhat, a_taskPart, a_taskValue⟩ := u
  have hSt := xe_stk hS
  have ht' : f_time = nI t := ht
  refine st_pop hx hw hw3 hi27 (by omega) hSt.1 hSt.2 ?_
  refine st_83r (t := t) (s := s) hi27 hid hw hw3 (xg_of_HU hu) ht' (xe_ru hs) (fun u' he => sw_next hx (K u' ?_))
  obtain ⟨z1, z2, z3, z4, z5, z6⟩ := he
  have z2' := sv_of_ph (u := u') (z2.trans xe_ph)
  exact ⟨z1.trans (xe_st2.trans xe_st2.symm), z2'.1, z2'.2, fun j S hS => sv_of_pa z3 j S (xe_rep' (xe_rep hS)), z5, fun j hj s hs => z6 j hj s (xe_ru' (xe_ru hs)), sv_of_tk z4 _ (xe_stk' rfl hSt.2.2.2.2)⟩
theorem sw_bg {post : SX → Prop} {id x i t s k xi yi : Nat} {a b v : Int32} {R : List Tk} {u : SX} (hx : x < 1000000) (hl : R.length + 2 ≤ 128) (hS : RepS u ((0, i, v) :: R)) (hz : HZ i t s k a b (x_st2 u)) (hC : HC i xi yi k (x_st2 u)) (hP : RepP u i clr)
    (K : ∀ u', EffB u u' i (ini k a b t) (begs k i xi yi a) R → Wr post id (x + 1) u') : Wr post id x u := by
  obtain ⟨f_time, f_sent, f_stageCount, f_tasks, a_sourceEnded, a_stageKind, a_stageA, a_stageB, a_stageParts, a_partStage, a_partUser, a_partX, a_partY, a_phase, a_beganAfter, a_due, a_count, a_held, a_heldY, a_hasHeld, a_hasHeldY, a_queueSize, a_queueIsOfX, a_queueValue, a_queueDue, a_subStatus, a_subCode, a_subEnd, a_subDemand, a_subRequests, a_subDelivered, a_subWaiting, a_waitValue, a_history, a_taskWhat, a_taskPart, a_taskValue⟩ := u
  have hSt := xe_stk hS
  have hC' := xg_of_HC hC
  refine st_popB hx hl hSt.1 hSt.2 (xg_of_HZ hz) (xe_rep hP) (fun h => (hC'.1 h).1) (fun h => (hC'.2 h).1) (fun u' he => sw_next hx (K u' ?_))
  obtain ⟨z1, z2, z3, z4, z5, z6, z7⟩ := he
  exact ⟨z1.trans (xe_st2.trans xe_st2.symm), z2.trans (xe_sub.trans xe_sub.symm), z3, z4, z5, fun j hj S hS => z6 j hj S (xe_rep' (xe_rep hS)), z7⟩
theorem sw_end {post : SX → Prop} {id x : Nat} {u : SX} (hx : x ≤ 1000000) (hS : RepS u []) (H : post u) : Wr post id x u := by
  obtain ⟨f_time, f_sent, f_stageCount, f_tasks, a_sourceEnded, a_stageKind, a_stageA, a_stageB, a_stageParts, a_partStage, a_partUser, a_partX, a_partY, a_phase, a_beganAfter, a_due, a_count, a_held, a_heldY, a_hasHeld, a_hasHeldY, a_queueSize, a_queueIsOfX, a_queueValue, a_queueDue, a_subStatus, a_subCode, a_subEnd, a_subDemand, a_subRequests, a_subDelivered, a_subWaiting, a_waitValue, a_history, a_taskWhat, a_taskPart, a_taskValue⟩ := u
  exact st_end hx (xe_stk hS).1 H
theorem sw_run {post : SX → Prop} {id : Nat} {u : SX} (h : Wr post id 0 u) : wpX_runTasks post u (nI id) := by
  obtain ⟨f_time, f_sent, f_stageCount, f_tasks, a_sourceEnded, a_stageKind, a_stageA, a_stageB, a_stageParts, a_partStage, a_partUser, a_partX, a_partY, a_phase, a_beganAfter, a_due, a_count, a_held, a_heldY, a_hasHeld, a_hasHeldY, a_queueSize, a_queueIsOfX, a_queueValue, a_queueDue, a_subStatus, a_subCode, a_subEnd, a_subDemand, a_subRequests, a_subDelivered, a_subWaiting, a_waitValue, a_history, a_taskWhat, a_taskPart, a_taskValue⟩ := u
  exact ⟨1000001, h⟩
theorem sw_fire {post : SX → Prop} {i t s k : Nat} {a b : Int32} {P : PSt} {R : List Tk} {u : SX} (hz : HZ i t s k a b (x_st2 u)) (h1t : 1 ≤ t) (hP : RepP u i P) (ok : okS k b P) (hR : RepS u R) (hl : R.length + 9 ≤ 128) (H : ∀ u', Eff u u' i (fi k a b t P).1 (fi k a b t P).2 R → post u') : wpX_fireTimer post u (nI i) := by
  obtain ⟨f_time, f_sent, f_stageCount, f_tasks, a_sourceEnded, a_stageKind, a_stageA, a_stageB, a_stageParts, a_partStage, a_partUser, a_partX, a_partY, a_phase, a_beganAfter, a_due, a_count, a_held, a_heldY, a_hasHeld, a_hasHeldY, a_queueSize, a_queueIsOfX, a_queueValue, a_queueDue, a_subStatus, a_subCode, a_subEnd, a_subDemand, a_subRequests, a_subDelivered, a_subWaiting, a_waitValue, a_history, a_taskWhat, a_taskPart, a_taskValue⟩ := u
  have hSt := xe_stk hR
  exact xg_fire (xg_of_HZ hz) h1t (xe_rep hP) ok hSt.1 hSt.2 hl H
theorem sw_push {post : SX → Prop} {i w : Nat} {v : Int32} {R : List Tk} {u : SX} (hR : RepS u R) (hl : R.length < 128) (H : ∀ u', EffN u u' ((w, i, v) :: R) (x_phase u) → post u') : wpX_push post u (nI w) (nI i) v := by
  obtain ⟨f_time, f_sent, f_stageCount, f_tasks, a_sourceEnded, a_stageKind, a_stageA, a_stageB, a_stageParts, a_partStage, a_partUser, a_partX, a_partY, a_phase, a_beganAfter, a_due, a_count, a_held, a_heldY, a_hasHeld, a_hasHeldY, a_queueSize, a_queueIsOfX, a_queueValue, a_queueDue, a_subStatus, a_subCode, a_subEnd, a_subDemand, a_subRequests, a_subDelivered, a_subWaiting, a_waitValue, a_history, a_taskWhat, a_taskPart, a_taskValue⟩ := u
  have hSt := xe_stk hR
  exact xw_push hSt.1 hl (H _ ⟨xe_st2.trans xe_st2.symm, xe_sub.trans xe_sub.symm, xe_phase.trans xe_phase.symm, xe_began.trans xe_began.symm, fun j S hS => xe_rep' (xe_rep hS), xe_stk' rfl (xd_rps_push hSt.2)⟩)
end
section
/-! ===== the cascade: what holds while a tick runs ===== -/
abbrev Env : Type := Nat × (Nat → Nat) × (Nat → List Lg) × Nat × List Lg × Nat × Nat × Nat × (Nat → Nat) × (Nat → Nat) × (Nat → Nat) × (Nat → Nat) × (Nat → Nat) × (Nat → Nat) × (Nat → Int32) × (Nat → Int32) × Sb
def e_M (E : Env) : Nat := E.1
def e_c (E : Env) : Nat → Nat := E.2.1
def e_lg (E : Env) : Nat → List Lg := E.2.2.1
def e_t (E : Env) : Nat := E.2.2.2.1
def e_LG (E : Env) : List Lg := E.2.2.2.2.1
def e_id (E : Env) : Nat := E.2.2.2.2.2.1
def e_n (E : Env) : Nat := E.2.2.2.2.2.2.1
def e_h0 (E : Env) : Nat := E.2.2.2.2.2.2.2.1
def e_kd (E : Env) : Nat → Nat := E.2.2.2.2.2.2.2.2.1
def e_us (E : Env) : Nat → Nat := E.2.2.2.2.2.2.2.2.2.1
def e_xc (E : Env) : Nat → Nat := E.2.2.2.2.2.2.2.2.2.2.1
def e_yc (E : Env) : Nat → Nat := E.2.2.2.2.2.2.2.2.2.2.2.1
def e_lo (E : Env) : Nat → Nat := E.2.2.2.2.2.2.2.2.2.2.2.2.1
def e_sg (E : Env) : Nat → Nat := E.2.2.2.2.2.2.2.2.2.2.2.2.2.1
def e_oa (E : Env) : Nat → Int32 := E.2.2.2.2.2.2.2.2.2.2.2.2.2.2.1
def e_ob (E : Env) : Nat → Int32 := E.2.2.2.2.2.2.2.2.2.2.2.2.2.2.2.1
def e_s0 (E : Env) : Sb := E.2.2.2.2.2.2.2.2.2.2.2.2.2.2.2.2
def ab (E : Env) (p : Nat) : Nat := 9 * e_id E + p
/-- the tree of parts -/
def TR (E : Env) : Prop :=
  e_id E < 3 ∧ 1 ≤ e_n E ∧ e_n E ≤ 9 ∧
  (∀ p, p < e_n E → e_lo E p ≤ p) ∧
  (∀ p, p < e_n E → e_kd E p < 3 → e_lo E p = p) ∧
  (∀ p, p < e_n E → 3 ≤ e_kd E p → e_xc E p < p ∧ e_us E (e_xc E p) = p ∧ e_lo E (e_xc E p) = e_lo E p) ∧
  (∀ p, p < e_n E → 3 ≤ e_kd E p → e_kd E p < 16 → e_xc E p + 1 = p) ∧
  (∀ p, p < e_n E → 16 ≤ e_kd E p → e_yc E p + 1 = p ∧ e_us E (e_yc E p) = p ∧ e_lo E (e_yc E p) = e_xc E p + 1 ∧ e_xc E p < e_yc E p) ∧
  (∀ p, p + 1 < e_n E → p < e_us E p ∧ e_us E p < e_n E ∧ 3 ≤ e_kd E (e_us E p) ∧ (e_xc E (e_us E p) = p ∨ (16 ≤ e_kd E (e_us E p) ∧ e_yc E (e_us E p) = p))) ∧
  (∀ w, w < e_n E → ∀ p, e_lo E w ≤ p → p < w → e_us E p ≤ w) ∧
  (∀ w, w < e_n E → ∀ p, e_lo E w ≤ p → p ≤ w → e_lo E w ≤ e_lo E p)
def XS (E : Env) (z : St2) : Prop :=
  HT (e_t E) z ∧ ∀ p, p < e_n E → HZ (ab E p) (e_t E) (e_sg E p) (e_kd E p) (e_oa E p) (e_ob E p) z ∧ HC (ab E p) (ab E (e_xc E p)) (ab E (e_yc E p)) (e_kd E p) z ∧ HU (ab E p) (if p + 1 = e_n E then -1 else nI (ab E (e_us E p))) z
def Rn (E : Env) (H : Nat → List Ev) (F : Nat → Nat) (p : Nat) : RSt := RR (e_kd E p) (e_oa E p) (e_ob E p) p (F p) (e_lg E p) (e_c E p) (H (e_xc E p)) (H (e_yc E p))
def phs (b f : Bool) : Int32 := if b = true then (if f = true then 2 else 1) else 0
def mt (k w : Nat) : Bool := (k == 19 && w == 2) || (k == 20 && w == 3)
def evf (s : Sb) (e : Ev) : Sb := sst (tim e.2.2) e.1 e.2.1 s
def nb (LG : List Lg) (fr : Nat) : Nat := (LG.filter (fun g => !(hrs fr g.2.2.2))).length
/-- what holds all along -/
def IV (E : Env) (u : SX) (H : Nat → List Ev) (F : Nat → Nat) (bg : Nat → Bool) : Prop :=
  XS E (x_st2 u) ∧
  (∀ q, q < e_n E → x_phase u (ab E q) = phs (bg q) (fin (H q))) ∧
  (∀ q, q < e_n E → ∀ e ∈ H q, e.2.2 ≤ e_M E) ∧
  (∀ q, q < e_n E → bg q = true → F q ≤ e_M E) ∧
  (e_h0 E ≤ (H (e_n E - 1)).length ∧ RepU u (e_id E) (((H (e_n E - 1)).drop (e_h0 E)).foldl evf (e_s0 E))) ∧
  (∀ q, q < e_n E → 19 ≤ e_kd E q → bg (e_yc E q) = true → ∃ e ∈ H (e_xc E q), mt (e_kd E q) e.1 = true) ∧
  (∀ q, q < e_n E → bg q = false → H q = []) ∧
  (∀ q, q + 1 < e_n E → bg q = true → bg (e_us E q) = true) ∧
  (∀ q, q < e_n E → bg q = true → x_beganAfter u (ab E q) = nI (nb (e_LG E) (F q))) ∧
  x_sent u = nI (e_LG E).length
/-- part q's cells show its run -/
def CL (E : Env) (u : SX) (H : Nat → List Ev) (F : Nat → Nat) (bg : Nat → Bool) (q : Nat) : Prop :=
  (bg q = true → (Rn E H F q).2 = H q ∧ (fin (H q) = false → RepP u (ab E q) (Rn E H F q).1 ∧ okS (e_kd E q) (e_ob E q) (Rn E H F q).1 ∧ (16 ≤ e_kd E q → e_kd E q < 19 → (Rn E H F q).1.2.2.2.2.2.2.2.2.1 = fin (H (e_xc E q)) ∧ (Rn E H F q).1.2.2.2.2.2.2.2.2.2 = fin (H (e_yc E q))))) ∧
  (bg q = false → RepP u (ab E q) clr)
def XB (E : Env) (H : Nat → List Ev) (p : Nat) : Prop := ∀ z, z < e_n E → 16 ≤ e_kd E z → e_kd E z < 19 → e_lo E z ≤ p → p ≤ e_xc E z → ∀ e ∈ H (e_yc E z), e.2.2 < e_M E
def CK (E : Env) (a : Nat) : Prop := ∀ q, a ≤ q → q < e_n E → ckm q (e_M E) = e_c E q
def FR (E : Env) (a : Nat) (u u' : SX) : Prop :=
  x_st2 u' = x_st2 u ∧ (∀ j, j < ab E a ∨ 9 * e_id E + e_n E ≤ j → ∀ S, RepP u j S → RepP u' j S) ∧ (∀ j, j < 9 * e_id E ∨ 9 * e_id E + e_n E ≤ j → x_phase u' j = x_phase u j ∧ x_beganAfter u' j = x_beganAfter u j) ∧ (∀ j, j ≠ e_id E → ∀ s, RepU u j s → RepU u' j s)
def DN (E : Env) (F : Nat → Nat) (bg : Nat → Bool) (q : Nat) : Prop := (3 ≤ e_kd E q → bg (e_xc E q) = true ∧ F (e_xc E q) = F q) ∧ (16 ≤ e_kd E q → e_kd E q < 19 → bg (e_yc E q) = true ∧ F (e_yc E q) = F q)
def C2 (E : Env) (H : Nat → List Ev) (F : Nat → Nat) (bg : Nat → Bool) (q : Nat) : Prop := ∀ e ∈ H (e_xc E q), mt (e_kd E q) e.1 = true → bg (e_yc E q) = true ∧ F (e_yc E q) = e.2.2
/-- what a stretch of the cascade did that touched parts from a on -/
def PG (E : Env) (a z0 : Nat) (u : SX) (H : Nat → List Ev) (F : Nat → Nat) (bg : Nat → Bool) (u' : SX) (H' : Nat → List Ev) (F' : Nat → Nat) (bg' : Nat → Bool) : Prop :=
  FR E a u u' ∧ (∀ q, q < a → H' q = H q ∧ F' q = F q ∧ bg' q = bg q) ∧
  (∀ q, q < e_n E → bg q = true → bg' q = true ∧ F' q = F q) ∧
  (∀ q, q < e_n E → bg' q = true → bg q = true ∨ (F' q = e_M E ∧ DN E F' bg' q)) ∧
  (∀ q, q < e_n E → 19 ≤ e_kd E q → C2 E H F bg q → C2 E H' F' bg' q) ∧
  (∀ w, w < e_n E → 16 ≤ e_kd E w → e_kd E w < 19 → bg w = true → bg (e_yc E w) = false → e_yc E w ≠ z0 → bg' (e_yc E w) = false)
def e3 : Nat → Nat
  | 0 => 0
  | d + 1 => 3 * e3 d + 1
def fup {α : Type} (f : Nat → α) (p : Nat) (x : α) : Nat → α := fun q => if q = p then x else f q
theorem fu_s {α : Type} {f : Nat → α} {p : Nat} {x : α} : fup f p x p = x := if_pos rfl
theorem fu_n {α : Type} {f : Nat → α} {p q : Nat} {x : α} (h : q ≠ p) : fup f p x q = f q := if_neg h
theorem e3_mono : ∀ {a b : Nat}, a ≤ b → e3 a ≤ e3 b := by
  intro a b h
  induction b with
  | zero => rw [Nat.le_zero.mp h]; exact Nat.le_refl _
  | succ b ih =>
    rcases Nat.lt_or_ge a (b + 1) with z | z
    · have := ih (by omega)
      show e3 a ≤ 3 * e3 b + 1
      omega
    · have : a = b + 1 := by omega
      rw [this]; exact Nat.le_refl _
theorem e3_lt {a b : Nat} (h : a < b) : 3 * e3 a + 1 ≤ e3 b := e3_mono (a := a + 1) h
theorem fr_refl {E : Env} {a : Nat} {u : SX} : FR E a u u := ⟨rfl, fun _ _ _ h => h, fun _ _ => ⟨rfl, rfl⟩, fun _ _ _ h => h⟩
theorem fr_trans {E : Env} {a : Nat} {u v w : SX} (h1 : FR E a u v) (h2 : FR E a v w) : FR E a u w :=
  ⟨h2.1.trans h1.1, fun j hj S hS => h2.2.1 j hj S (h1.2.1 j hj S hS), fun j hj => ⟨(h2.2.2.1 j hj).1.trans (h1.2.2.1 j hj).1, (h2.2.2.1 j hj).2.trans (h1.2.2.1 j hj).2⟩, fun j hj s hs => h2.2.2.2 j hj s (h1.2.2.2 j hj s hs)⟩
theorem fr_mono {E : Env} {a b : Nat} {u v : SX} (hab : a ≤ b) (h : FR E b u v) : FR E a u v :=
  ⟨h.1, fun j hj S hS => h.2.1 j (by rcases hj with z | z; exact Or.inl (by unfold ab at z ⊢; omega); exact Or.inr z) S hS, h.2.2.1, h.2.2.2⟩
theorem pg_refl {E : Env} {a z0 : Nat} {u : SX} {H : Nat → List Ev} {F : Nat → Nat} {bg : Nat → Bool} : PG E a z0 u H F bg u H F bg :=
  ⟨fr_refl, fun _ _ => ⟨rfl, rfl, rfl⟩, fun _ _ h => ⟨h, rfl⟩, fun _ _ h => Or.inl h, fun _ _ _ h => h, fun _ _ _ _ _ h _ => h⟩
theorem pg_mono {E : Env} {a b z0 : Nat} {u : SX} {H : Nat → List Ev} {F : Nat → Nat} {bg : Nat → Bool} {u' : SX} {H' : Nat → List Ev} {F' : Nat → Nat} {bg' : Nat → Bool} (hab : a ≤ b) (h : PG E b z0 u H F bg u' H' F' bg') : PG E a z0 u H F bg u' H' F' bg' :=
  ⟨fr_mono hab h.1, fun q hq => h.2.1 q (by omega), h.2.2.1, h.2.2.2.1, h.2.2.2.2⟩
theorem pg_dn {E : Env} (hT : TR E) {F F' : Nat → Nat} {bg bg' : Nat → Bool} {q : Nat} (hq : q < e_n E) (hm : ∀ q, q < e_n E → bg q = true → bg' q = true ∧ F' q = F q) (hb : bg q = true) (h : DN E F bg q) : DN E F' bg' q := by
  obtain ⟨_, _, _, _, _, h6, _, h8, _⟩ := hT
  constructor
  · intro h3
    have hx := h6 q hq h3
    have := h.1 h3
    have m1 := hm _ (by omega) this.1
    exact ⟨m1.1, by rw [m1.2, this.2, (hm q hq hb).2]⟩
  · intro h16 h19
    have hy := h8 q hq h16
    have := h.2 h16 h19
    have m1 := hm (e_yc E q) (by omega) this.1
    exact ⟨m1.1, by rw [m1.2, this.2, (hm q hq hb).2]⟩
theorem pg_trans {E : Env} (hT : TR E) {a z0 : Nat} {u u1 u2 : SX} {H H1 H2 : Nat → List Ev} {F F1 F2 : Nat → Nat} {bg bg1 bg2 : Nat → Bool} (h1 : PG E a z0 u H F bg u1 H1 F1 bg1) (h2 : PG E a z0 u1 H1 F1 bg1 u2 H2 F2 bg2) : PG E a z0 u H F bg u2 H2 F2 bg2 := by
  refine ⟨fr_trans h1.1 h2.1, fun q hq => ?_, fun q hq hb => ?_, fun q hq hb => ?_, fun q hq hk hc => h2.2.2.2.2.1 q hq hk (h1.2.2.2.2.1 q hq hk hc), fun w hw h16 h19 hb hy hz => h2.2.2.2.2.2 w hw h16 h19 (h1.2.2.1 w hw hb).1 (h1.2.2.2.2.2 w hw h16 h19 hb hy hz) hz⟩
  · have a1 := h1.2.1 q hq
    have a2 := h2.2.1 q hq
    exact ⟨a2.1.trans a1.1, a2.2.1.trans a1.2.1, a2.2.2.trans a1.2.2⟩
  · have a1 := h1.2.2.1 q hq hb
    have a2 := h2.2.2.1 q hq a1.1
    exact ⟨a2.1, a2.2.trans a1.2⟩
  · rcases h2.2.2.2.1 q hq hb with z | z
    · rcases h1.2.2.2.1 q hq z with y | y
      · exact Or.inl y
      · exact Or.inr ⟨((h2.2.2.1 q hq z).2).trans y.1, pg_dn hT hq h2.2.2.1 z y.2⟩
    · exact Or.inr z
theorem cs_drop_snoc {α : Type} {l : List α} {x : α} {h : Nat} (hh : h ≤ l.length) : (l ++ [x]).drop h = l.drop h ++ [x] := by
  rw [List.drop_append, Nat.sub_eq_zero_of_le hh, List.drop_zero]
theorem cs_fin_snoc {l : List Ev} {w : Nat} {v : Int32} {m : Nat} (h : fin l = false) : fin (l ++ [(w, v, m)]) = (w != 1) := by
  rw [rn_fin_app, h]
  simp [fin]
end
section
/-! ===== what a part says, and its state behind it ===== -/
theorem ro_bad {A : Prop} {x : Nat × Int32} {l : Otp} (hm : x ∈ l) (hx : x.1 ≠ 1) (hh : ∀ o ∈ l, o.1 = 1) : A := absurd (hh x hm) hx
theorem rn_hc {k : Nat} {a b : Int32} {t : Nat} {sd : Bool} {S : PSt} (ho : opk k a b) (ok : okS k b S) (ht : t ≤ 200) (h3 : 3 ≤ k) :
    wfo (hc k b t sd S).2 ∧ (hc k b t sd S).2.length ≤ 2 ∧ ((∀ o ∈ (hc k b t sd S).2, o.1 = 1) → okS k b (hc k b t sd S).1) := by
  obtain ⟨d, c, h, hy, f, fy, qx, q, ox, oy⟩ := S
  obtain ⟨o1, o2, o3, o4, o5, o6, o7⟩ := ok
  obtain ⟨h20, h0, h1, h6, h7, h9, h11⟩ := ho
  have dflt : wfo [(2, 0)] ∧ ([(2, 0)] : Otp).length ≤ 2 ∧ ((∀ o ∈ ([(2, 0)] : Otp), o.1 = 1) → okS k b (d, c, h, hy, f, fy, qx, q, ox, oy)) := ⟨rn_wfo_2, by simp, fun _ => ⟨o1, o2, o3, o4, o5, o6, o7⟩⟩
  rcases rn_k h20 with e | e | e | e | e | e | e | e | e | e | e | e | e | e | e | e | e | e | e | e | e <;> (first | omega | subst e)
  · exact dflt
  · exact dflt
  · exact dflt
  · exact dflt
  · exact dflt
  · exact dflt
  · refine ⟨rn_wfo_if rn_wfo_2 (rn_wfo_12 _), ?_, fun _ => ⟨o1, o2, o3, o4, o5, o6, o7⟩⟩
    simp only [hc]; split <;> simp
  · exact ⟨rn_wfo_12 _, by simp [hc], fun _ => ⟨o1, o2, o3, o4, o5, o6, o7⟩⟩
  · have hb := h11 (by decide) (by decide)
    refine ⟨rn_wfo_nil, by simp [hc], fun _ => ⟨?_, o2, o3, o4, o5, fun z => absurd z (by decide), o7⟩⟩
    show t + cl b < 1000
    omega
  · refine ⟨rn_wfo_if rn_wfo_2 (rn_wfo_12 _), ?_, fun _ => ⟨o1, o2, o3, o4, o5, o6, o7⟩⟩
    simp only [hc]; split <;> simp
  · exact dflt
  · exact dflt
  · exact dflt
  · cases sd
    · refine ⟨rn_wfo_if rn_wfo_2 rn_wfo_nil, ?_, fun _ => ⟨o1, o2, o3, o4, o5, o6, o7⟩⟩
      show (if ox = true then [(2, (0 : Int32))] else []).length ≤ 2
      split <;> simp
    · refine ⟨rn_wfo_if rn_wfo_2 rn_wfo_nil, ?_, fun _ => ⟨o1, o2, o3, o4, o5, o6, o7⟩⟩
      show (if oy = true then [(2, (0 : Int32))] else []).length ≤ 2
      split <;> simp
  · refine ⟨rn_wfo_if rn_wfo_2 rn_wfo_nil, ?_, fun _ => ?_⟩
    · show (if q = [] ∨ qx ≠ sd then [(2, (0 : Int32))] else []).length ≤ 2
      split <;> simp
    · cases sd <;> exact ⟨o1, o2, o3, o4, o5, o6, o7⟩
  · cases sd
    · refine ⟨rn_wfo_if rn_wfo_2 rn_wfo_nil, ?_, fun _ => ⟨o1, o2, o3, o4, o5, o6, o7⟩⟩
      show (if ox = true ∨ fy = false then [(2, (0 : Int32))] else []).length ≤ 2
      split <;> simp
    · refine ⟨rn_wfo_if rn_wfo_2 rn_wfo_nil, ?_, fun _ => ⟨o1, o2, o3, o4, o5, o6, o7⟩⟩
      show (if oy = true ∨ f = false then [(2, (0 : Int32))] else []).length ≤ 2
      split <;> simp
  · cases sd
    · exact ⟨rn_wfo_2, by simp [hc], fun _ => ⟨o1, o2, o3, o4, o5, o6, o7⟩⟩
    · exact ⟨rn_wfo_nil, by simp [hc], fun _ => ⟨o1, o2, o3, o4, o5, o6, o7⟩⟩
  · exact dflt
theorem rn_he {k : Nat} {b : Int32} {sd : Bool} {v : Int32} {S : PSt} (ok : okS k b S) (hv : endok (3, v)) :
    wfo (he k sd v S).2 ∧ (he k sd v S).2.length ≤ 2 ∧ ((∀ o ∈ (he k sd v S).2, o.1 = 1) → okS k b (he k sd v S).1) := by
  obtain ⟨d, c, h, hy, f, fy, qx, q, ox, oy⟩ := S
  obtain ⟨o1, o2, o3, o4, o5, o6, o7⟩ := ok
  have hj : ∃ j : Nat, 1 ≤ j ∧ j ≤ 9 ∧ v = nI j := by
    rcases hv with z | z
    · have z1 : (3 : Nat) = 2 := z.1
      omega
    · exact z.2
  obtain ⟨j, j1, j9, ej⟩ := hj
  by_cases hk : k = 20 ∧ sd = true
  · simp only [he, if_pos hk]
    exact ⟨rn_wfo_nil, by simp, fun _ => ⟨o1, o2, o3, o4, o5, o6, o7⟩⟩
  · simp only [he, if_neg hk]
    exact ⟨rn_wfo_3 j1 j9 ej, by simp, fun _ => ⟨o1, o2, o3, o4, o5, o6, o7⟩⟩
def evok (w : Nat) (v : Int32) : Prop := w = 1 ∨ endok (w, v)
theorem rn_hear {k : Nat} {a b : Int32} {t w : Nat} {sd : Bool} {v : Int32} {S : PSt} (ho : opk k a b) (ok : okS k b S) (ht : t ≤ 200) (h3 : 3 ≤ k) (hv : evok w v) :
    wfo (hear k b t sd w v S).2 ∧ (hear k b t sd w v S).2.length ≤ 2 ∧ ((∀ o ∈ (hear k b t sd w v S).2, o.1 = 1) → okS k b (hear k b t sd w v S).1) := by
  unfold hear
  by_cases h1 : w = 1
  · rw [if_pos h1]; exact rn_hi ho ok ht h3
  · rw [if_neg h1]
    by_cases h2 : w = 2
    · rw [if_pos h2]; exact rn_hc ho ok ht h3
    · rw [if_neg h2]
      have hv' : endok (3, v) := by
        rcases hv with z | z
        · exact absurd z h1
        · rcases z with y | y
          · exact absurd y.1 h2
          · exact Or.inr ⟨rfl, y.2⟩
      exact rn_he ok hv'
theorem rn_fi {k : Nat} {a b : Int32} {t : Nat} {S : PSt} (ho : opk k a b) (ok : okS k b S) (ht : t ≤ 200) :
    wfo (fi k a b t S).2 ∧ (fi k a b t S).2.length ≤ 9 ∧ ((∀ o ∈ (fi k a b t S).2, o.1 = 1) → okS k b (fi k a b t S).1) := by
  obtain ⟨d, c, h, hy, f, fy, qx, q, ox, oy⟩ := S
  obtain ⟨o1, o2, o3, o4, o5, o6, o7⟩ := ok
  obtain ⟨h20, h0, h1, h6, h7, h9, h11⟩ := ho
  have dflt : wfo [] ∧ ([] : Otp).length ≤ 9 ∧ ((∀ o ∈ ([] : Otp), o.1 = 1) → okS k b (d, c, h, hy, f, fy, qx, q, ox, oy)) := ⟨rn_wfo_nil, by simp, fun _ => ⟨o1, o2, o3, o4, o5, o6, o7⟩⟩
  by_cases h11' : k = 11
  · subst h11'
    refine ⟨⟨(q.take (rdy t q)).map (fun e => e.1), if d = t then some (2, 0) else none, ?_, ?_⟩, ?_, fun _ => ⟨o1, o2, o3, ?_, fun e he => o5 e (List.mem_of_mem_drop he), o6, fun z => absurd z (by omega)⟩⟩
    · show (q.take (rdy t q)).map (fun e => (1, e.1)) ++ (if d = t then [(2, 0)] else []) = _
      rw [List.map_map]
      by_cases hd : d = t
      · rw [if_pos hd, if_pos hd]; rfl
      · rw [if_neg hd, if_neg hd]; rfl
    · intro e he
      by_cases hd : d = t
      · rw [if_pos hd] at he; simp at he; subst he; exact Or.inl ⟨rfl, rfl⟩
      · rw [if_neg hd] at he; simp at he
    · show ((q.take (rdy t q)).map (fun e : Int32 × Nat => ((1 : Nat), e.1)) ++ (if d = t then [(2, (0 : Int32))] else [])).length ≤ 9
      have : q.length ≤ 8 := o4
      rw [List.length_append, List.length_map, List.length_take]
      split <;> simp <;> omega
    · show (q.drop (rdy t q)).length ≤ 8
      have : q.length ≤ 8 := o4
      rw [List.length_drop]; omega
  · by_cases hd : d = t
    · rcases rn_k h20 with e | e | e | e | e | e | e | e | e | e | e | e | e | e | e | e | e | e | e | e | e <;> (first | (exact absurd e h11') | subst e)
      · exact dflt
      · have hb := h1 rfl
        simp only [fi, if_pos hd]
        exact ⟨rn_wfo_1 _, by simp, fun _ => ⟨by show t + cl a < 1000; omega, fun z => absurd z (by omega), fun z => absurd z (by omega), o4, o5, fun z => absurd z (by decide), o7⟩⟩
      · exact dflt
      · exact dflt
      · exact dflt
      · exact dflt
      · exact dflt
      · exact dflt
      · exact dflt
      · exact dflt
      · exact dflt
      · simp only [fi, if_pos hd]
        exact ⟨rn_wfo_1 _, by simp, fun _ => ⟨by show 0 < 1000; omega, o2, o3, o4, o5, fun z => absurd z (by decide), o7⟩⟩
      · exact dflt
      · have hb := h11 (by decide) (by decide)
        simp only [fi, if_pos hd]
        refine ⟨rn_wfo_if (rn_wfo_1 _) rn_wfo_nil, ?_, fun _ => ⟨by show t + cl b < 1000; omega, o2, o3, o4, o5, fun z => absurd z (by decide), o7⟩⟩
        split <;> simp
      · simp only [fi, if_pos hd]
        exact ⟨rn_wfo_3 (j := 9) (by decide) (by decide) rfl, by simp, fun _ => ⟨by show 0 < 1000; omega, o2, o3, o4, o5, fun z => absurd z (by decide), o7⟩⟩
      · exact dflt
      · exact dflt
      · exact dflt
      · exact dflt
      · exact dflt
    · rw [xf_none h20 h11' hd]
      exact dflt
theorem rn_flags {k : Nat} {b : Int32} {t w : Nat} {sd : Bool} {v : Int32} {S : PSt} (h16 : 16 ≤ k) (h19 : k < 19) (hw : 1 ≤ w) (hw3 : w ≤ 3) (hn : ∀ o ∈ (hear k b t sd w v S).2, o.1 = 1) :
    (hear k b t sd w v S).1.2.2.2.2.2.2.2.2.1 = (if sd = true then (S.2.2.2.2.2.2.2.2.1 || w != 1) else S.2.2.2.2.2.2.2.2.1) ∧ (hear k b t sd w v S).1.2.2.2.2.2.2.2.2.2 = (if sd = true then S.2.2.2.2.2.2.2.2.2 else (S.2.2.2.2.2.2.2.2.2 || w != 1)) := by
  obtain ⟨d, c, h, hy, f, fy, qx, q, ox, oy⟩ := S
  have hw' : w = 1 ∨ w = 2 ∨ w = 3 := by omega
  have hk' : k = 16 ∨ k = 17 ∨ k = 18 := by omega
  rcases hw' with e | e | e
  · subst e
    have eh : hear k b t sd 1 v (d, c, h, hy, f, fy, qx, q, ox, oy) = hi k b t sd v (d, c, h, hy, f, fy, qx, q, ox, oy) := rfl
    rw [eh]
    rcases hk' with e | e | e <;> subst e
    · cases sd <;> simp [hi]
    · cases q with
      | nil => cases sd <;> simp [hi]
      | cons x r =>
        by_cases hq : qx = sd
        · by_cases hr : r.length < 7
          · simp only [hi, if_pos hq, if_pos hr]; cases sd <;> simp
          · simp only [hi, if_pos hq, if_neg hr]; cases sd <;> simp
        · simp only [hi, if_neg hq]; cases sd <;> simp
    · cases sd <;> simp [hi]
  · subst e
    have eh : hear k b t sd 2 v (d, c, h, hy, f, fy, qx, q, ox, oy) = hc k b t sd (d, c, h, hy, f, fy, qx, q, ox, oy) := rfl
    rw [eh]
    rcases hk' with e | e | e <;> subst e <;> cases sd <;> simp [hc]
  · subst e
    have eh : hear k b t sd 3 v (d, c, h, hy, f, fy, qx, q, ox, oy) = he k sd v (d, c, h, hy, f, fy, qx, q, ox, oy) := rfl
    rw [eh] at hn
    have hk20 : ¬ (k = 20 ∧ sd = true) := by omega
    simp only [he, if_neg hk20] at hn
    exact absurd (hn (3, v) (by simp)) (by simp)
theorem ro_all_fin {m : Nat} {o : Otp} (h : fin (ems m o) = false) : ∀ x ∈ o, x.1 = 1 := by
  intro x hx
  unfold fin ems at h
  rw [List.any_eq_false] at h
  have := h (x.1, x.2, m) (List.mem_map_of_mem hx)
  simpa using this
theorem ro_bgn_nil {k w t : Nat} {b v : Int32} {sd : Bool} {S : PSt} (h : bgn k w sd = true) : (hear k b t sd w v S).2 = [] := by
  obtain ⟨d, c, hh, hy, f, fy, qx, q, ox, oy⟩ := S
  simp only [bgn, Bool.and_eq_true, Bool.or_eq_true, beq_iff_eq] at h
  obtain ⟨hs, ⟨hk, hw⟩ | ⟨hk, hw⟩⟩ := h
  · subst hs hk hw; simp [hear, hc]
  · subst hs hk hw; simp [hear, he]
end
section
/-! ===== the cascade: helpers ===== -/
theorem ca_RR {k p fr c : Nat} {a b : Int32} {lg : List Lg} {Hx Hy Hx' Hy' : List Ev} (hx : 3 ≤ k → Hx' = Hx) (hy : 16 ≤ k → Hy' = Hy) : RR k a b p fr lg c Hx' Hy' = RR k a b p fr lg c Hx Hy := by
  have hi : inp k p (ckm p fr) c Hx' Hy' = inp k p (ckm p fr) c Hx Hy := by
    unfold inp
    by_cases h1 : k = 1
    · rw [if_pos h1, if_pos h1]
    · rw [if_neg h1, if_neg h1]
      by_cases h3 : k < 3
      · rw [if_pos h3, if_pos h3]
      · rw [if_neg h3, if_neg h3]
        rw [hx (by omega)]
        by_cases h16 : k < 16
        · rw [if_pos h16, if_pos h16]
        · rw [if_neg h16, if_neg h16, hy (by omega)]
  unfold RR
  rw [hi]
theorem ca_Rn {E : Env} {H H' : Nat → List Ev} {F F' : Nat → Nat} {q : Nat} (hF : F' q = F q) (hx : 3 ≤ e_kd E q → H' (e_xc E q) = H (e_xc E q)) (hy : 16 ≤ e_kd E q → H' (e_yc E q) = H (e_yc E q)) : Rn E H' F' q = Rn E H F q := by
  unfold Rn
  rw [hF]
  exact ca_RR hx hy
theorem ca_cl {E : Env} {u u' : SX} {H H' : Nat → List Ev} {F F' : Nat → Nat} {bg bg' : Nat → Bool} {q : Nat} (h : CL E u H F bg q) (hH : H' q = H q) (hF : F' q = F q) (hb : bg' q = bg q) (hx : 3 ≤ e_kd E q → H' (e_xc E q) = H (e_xc E q)) (hy : 16 ≤ e_kd E q → H' (e_yc E q) = H (e_yc E q)) (hr : ∀ S, RepP u (ab E q) S → RepP u' (ab E q) S) : CL E u' H' F' bg' q := by
  have e := ca_Rn hF hx hy
  constructor
  · intro hb'
    rw [hb] at hb'
    have h1 := h.1 hb'
    rw [e, hH]
    refine ⟨h1.1, fun hf => ?_⟩
    have h2 := h1.2 hf
    refine ⟨hr _ h2.1, h2.2.1, fun g1 g2 => ?_⟩
    have h3 := h2.2.2 g1 g2
    rw [hx (by omega), hy g1]
    exact h3
  · intro hb'
    rw [hb] at hb'
    exact hr _ (h.2 hb')
theorem ca_sub {u u' : SX} (h : x_sub u' = x_sub u) (j : Nat) (s : Sb) (hs : RepU u j s) : RepU u' j s := by
  unfold RepU at hs ⊢
  have h1 : x_subStatus u' = x_subStatus u := congrArg (fun z => z.1) h
  have h2 : x_subCode u' = x_subCode u := congrArg (fun z => z.2.1) h
  have h3 : x_subEnd u' = x_subEnd u := congrArg (fun z => z.2.2.1) h
  have h4 : x_subDemand u' = x_subDemand u := congrArg (fun z => z.2.2.2.1) h
  have h5 : x_subDelivered u' = x_subDelivered u := congrArg (fun z => z.2.2.2.2.1) h
  have h6 : x_subWaiting u' = x_subWaiting u := congrArg (fun z => z.2.2.2.2.2.1) h
  have h7 : x_waitValue u' = x_waitValue u := congrArg (fun z => z.2.2.2.2.2.2.1) h
  have h8 : x_history u' = x_history u := congrArg (fun z => z.2.2.2.2.2.2.2) h
  rw [h1, h2, h3, h4, h5, h6, h7, h8]
  exact hs
theorem ca_sent {u u' : SX} (h : x_st2 u' = x_st2 u) : x_sent u' = x_sent u := congrArg (fun z => z.2.1) h
theorem ca_ab {E : Env} {p q : Nat} (h : q ≠ p) : ab E q ≠ ab E p := by unfold ab; omega
theorem ca_iv {E : Env} {u u1 : SX} {H : Nat → List Ev} {F : Nat → Nat} {bg : Nat → Bool} {p w : Nat} {v : Int32} (hI : IV E u H F bg) (hp : p < e_n E) (hb : bg p = true) (hf : fin (H p) = false) (hw : 1 ≤ w) (e1 : x_st2 u1 = x_st2 u) (e2 : x_phase u1 = if w = 1 then x_phase u else upd (x_phase u) (ab E p) 2) (e3 : x_beganAfter u1 = x_beganAfter u)
    (hs : e_h0 E ≤ (fup H p (H p ++ [(w, v, e_M E)]) (e_n E - 1)).length ∧ RepU u1 (e_id E) (((fup H p (H p ++ [(w, v, e_M E)]) (e_n E - 1)).drop (e_h0 E)).foldl evf (e_s0 E))) :
    IV E u1 (fup H p (H p ++ [(w, v, e_M E)])) F bg := by
  obtain ⟨i1, i2, i3, i4, i5, i6, i7, i8, i9, i10⟩ := hI
  refine ⟨by rw [e1]; exact i1, fun q hq => ?_, fun q hq e he => ?_, i4, hs, fun q hq hk hy => ?_, fun q hq hbq => ?_, i8, fun q hq hbq => by rw [e3]; exact i9 q hq hbq, by rw [ca_sent e1]; exact i10⟩
  · by_cases hqp : q = p
    · subst hqp
      rw [fu_s, cs_fin_snoc hf, hb, e2]
      by_cases h1 : w = 1
      · rw [if_pos h1, i2 q hq, hb, hf, h1]; rfl
      · rw [if_neg h1, pk_us]
        have : (w != 1) = true := by simpa using h1
        rw [this]; rfl
    · rw [fu_n hqp, e2]
      by_cases h1 : w = 1
      · rw [if_pos h1]; exact i2 q hq
      · rw [if_neg h1, pk_un (ca_ab hqp)]; exact i2 q hq
  · by_cases hqp : q = p
    · subst hqp
      rw [fu_s] at he
      rcases List.mem_append.mp he with z | z
      · exact i3 q hq e z
      · rw [List.mem_singleton] at z; subst z; exact Nat.le_refl _
    · rw [fu_n hqp] at he; exact i3 q hq e he
  · obtain ⟨e, he, hm⟩ := i6 q hq hk hy
    refine ⟨e, ?_, hm⟩
    by_cases hqp : e_xc E q = p
    · rw [hqp, fu_s]; rw [hqp] at he; exact List.mem_append.mpr (Or.inl he)
    · rw [fu_n hqp]; exact he
  · by_cases hqp : q = p
    · subst hqp; rw [hb] at hbq; exact absurd hbq (by decide)
    · rw [fu_n hqp]; exact i7 q hq hbq
theorem ca_wfo {e : Nat × Int32} {o : Otp} (h : wfo (e :: o)) : 1 ≤ e.1 ∧ e.1 ≤ 3 ∧ evok e.1 e.2 ∧ (e.1 = 1 → wfo o) ∧ (e.1 ≠ 1 → o = []) := by
  obtain ⟨L, en, h1, h2⟩ := h
  cases L with
  | nil =>
    cases en with
    | none => simp at h1
    | some z =>
      simp at h1
      obtain ⟨hz, ho⟩ := h1
      subst hz ho
      have := h2 e rfl
      refine ⟨?_, ?_, Or.inr this, fun hw => ?_, fun _ => rfl⟩
      · rcases this with y | y <;> omega
      · rcases this with y | y <;> omega
      · rcases this with y | y <;> omega
  | cons v L =>
    simp only [List.map_cons, List.cons_append, List.cons.injEq] at h1
    obtain ⟨hz, ho⟩ := h1
    subst hz
    exact ⟨by simp, by simp, Or.inl rfl, fun _ => ⟨L, en, ho, h2⟩, fun z => absurd rfl z⟩
/-- one event of part p, to its very end -/
def EVT (E : Env) (post : SX → Prop) (p : Nat) : Prop := ∀ (x w : Nat) (v : Int32) (R : List Tk) (u : SX) (H : Nat → List Ev) (F : Nat → Nat) (bg : Nat → Bool),
  p < e_n E → IV E u H F bg → (∀ q, p < q → q < e_n E → CL E u H F bg q) → XB E H p → CK E (p + 1) → bg p = true → fin (H p) = false → 1 ≤ w → w ≤ 3 → evok w v → RepS u ((w, ab E p, v) :: R) → R.length + 1 + 10 * (9 - p) ≤ 128 → x + e3 (9 - p) ≤ 1000000 →
  (∀ (x' : Nat) (u' : SX) (H' : Nat → List Ev) (F' : Nat → Nat) (bg' : Nat → Bool), x' ≤ x + e3 (9 - p) → IV E u' H' F' bg' → (∀ q, p < q → q < e_n E → CL E u' H' F' bg' q) → XB E H' p → RepS u' R → PG E p (e_n E) u H F bg u' H' F' bg' → (∀ S, RepP u (ab E p) S → RepP u' (ab E p) S) → H' p = H p ++ [(w, v, e_M E)] → Wr post (e_id E) x' u') →
  Wr post (e_id E) x u
def BEG (E : Env) (post : SX → Prop) (z : Nat) : Prop := ∀ (x : Nat) (R : List Tk) (u : SX) (H : Nat → List Ev) (F : Nat → Nat) (bg : Nat → Bool),
  z < e_n E → IV E u H F bg → (∀ q, e_lo E z ≤ q → q < e_n E → CL E u H F bg q) → XB E H z → CK E (e_lo E z) → (∀ q, e_lo E z ≤ q → q ≤ z → bg q = false) → (z + 1 < e_n E → bg (e_us E z) = true) → (∀ q, q < e_n E → 19 ≤ e_kd E q → e_yc E q = z → ∃ e ∈ H (e_xc E q), mt (e_kd E q) e.1 = true) →
  RepS u ((0, ab E z, 0) :: R) → R.length + 3 + 10 * (9 - e_lo E z) + (z - e_lo E z) ≤ 128 → x + e3 (10 - e_lo E z) ≤ 1000000 + e3 (9 - z) →
  (∀ (x' : Nat) (u' : SX) (H' : Nat → List Ev) (F' : Nat → Nat) (bg' : Nat → Bool), x' + e3 (9 - z) ≤ x + e3 (10 - e_lo E z) → IV E u' H' F' bg' → (∀ q, e_lo E z ≤ q → q < e_n E → CL E u' H' F' bg' q) → XB E H' z → RepS u' R → PG E (e_lo E z) z u H F bg u' H' F' bg' → bg' z = true → F' z = e_M E → Wr post (e_id E) x' u') →
  Wr post (e_id E) x u
theorem ca_list {E : Env} {post : SX → Prop} (hT : TR E) {q : Nat} (hE : EVT E post q) : ∀ (o : Otp) (x : Nat) (R : List Tk) (u : SX) (H : Nat → List Ev) (F : Nat → Nat) (bg : Nat → Bool),
    q < e_n E → IV E u H F bg → (∀ r, q < r → r < e_n E → CL E u H F bg r) → XB E H q → CK E (q + 1) → bg q = true → (o ≠ [] → fin (H q) = false) → wfo o → RepS u (ots (ab E q) o ++ R) → R.length + o.length + 10 * (9 - q) ≤ 128 → x + o.length * e3 (9 - q) ≤ 1000000 →
    (∀ (x' : Nat) (u' : SX) (H' : Nat → List Ev) (F' : Nat → Nat) (bg' : Nat → Bool), x' ≤ x + o.length * e3 (9 - q) → IV E u' H' F' bg' → (∀ r, q < r → r < e_n E → CL E u' H' F' bg' r) → XB E H' q → RepS u' R → PG E q (e_n E) u H F bg u' H' F' bg' → (∀ S, RepP u (ab E q) S → RepP u' (ab E q) S) → H' q = H q ++ ems (e_M E) o → Wr post (e_id E) x' u') →
    Wr post (e_id E) x u := by
  intro o
  induction o with
  | nil =>
    intro x R u H F bg hq hI hC hX hK hb hf ho hS hl hx K
    exact K x u H F bg (by omega) hI hC hX hS pg_refl (fun S h => h) (by simp [ems])
  | cons e o ih =>
    intro x R u H F bg hq hI hC hX hK hb hf ho hS hl hx K
    have hf0 := hf (by simp)
    obtain ⟨w1, w3, we, wo, wn⟩ := ca_wfo ho
    rw [List.length_cons] at hl
    have hx' : x + (o.length + 1) * e3 (9 - q) ≤ 1000000 := hx
    rw [Nat.add_mul, Nat.one_mul] at hx'
    refine hE x e.1 e.2 (ots (ab E q) o ++ R) u H F bg hq hI hC hX hK hb hf0 w1 w3 we hS ?_ (by omega) ?_
    · simp [ots]; omega
    · intro x' u' H' F' bg' h1 h2 h3 h4 h5 h6 h7 h8
      have hb' := (h6.2.2.1 q hq hb).1
      refine ih x' R u' H' F' bg' hq h2 h3 h4 hK hb' ?_ ?_ h5 (by omega) (by omega) ?_
      · intro hne
        have he1 : e.1 = 1 := by
          rcases Nat.decEq e.1 1 with z | z
          · exact absurd (wn z) hne
          · exact z
        rw [h8, cs_fin_snoc hf0, he1]; rfl
      · rcases Nat.decEq e.1 1 with z | z
        · rw [wn z]; exact rn_wfo_nil
        · exact wo z
      · intro x2 u2 H2 F2 bg2 g1 g2 g3 g4 g5 g6 g7 g8
        refine K x2 u2 H2 F2 bg2 ?_ g2 g3 g4 g5 (pg_trans hT h6 g6) (fun S h => g7 S (h7 S h)) ?_
        · show x2 ≤ x + (o.length + 1) * e3 (9 - q)
          rw [Nat.add_mul, Nat.one_mul]
          omega
        · rw [g8, h8, List.append_assoc]; rfl
end
section
/-! ===== the cascade: an event goes up ===== -/
theorem cv_mt {k w : Nat} (h : mt k w = true) : w ≠ 1 := by
  intro e; subst e; simp [mt] at h
theorem cv_fin {k : Nat} {L : List Ev} (h : ∃ e ∈ L, mt k e.1 = true) : fin L = true := by
  obtain ⟨e, he, hm⟩ := h
  unfold fin
  rw [List.any_eq_true]
  exact ⟨e, he, by simpa using cv_mt hm⟩
theorem cv_next {E : Env} {u : SX} {H : Nat → List Ev} {F : Nat → Nat} {bg : Nat → Bool} {p w : Nat} {v : Int32} (hT : TR E) (hI : IV E u H F bg) (hp : p + 1 < e_n E) (hX : XB E H p) (hK : CK E (p + 1)) (hf : fin (H p) = false) :
    Rn E (fup H p (H p ++ [(w, v, e_M E)])) F (e_us E p) = stp (e_kd E (e_us E p)) (e_oa E (e_us E p)) (e_ob E (e_us E p)) (Rn E H F (e_us E p)) ((if e_xc E (e_us E p) = p then 0 else 1), w, v, e_M E) := by
  obtain ⟨t1, t2, t3, t4, t5, t6, t7, t8, t9, t10, t11⟩ := hT
  obtain ⟨i1, i2, i3, i4, i5, i6, i7, i8, i9, i10⟩ := hI
  obtain ⟨z1, z2, z3, z4⟩ := t9 p hp
  have hx := t6 _ z2 z3
  by_cases hs : e_xc E (e_us E p) = p
  · rw [if_pos hs]
    have hy : 16 ≤ e_kd E (e_us E p) → e_yc E (e_us E p) ≠ p := fun h16 => by have := t8 _ z2 h16; omega
    unfold Rn
    rw [show RR (e_kd E (e_us E p)) (e_oa E (e_us E p)) (e_ob E (e_us E p)) (e_us E p) (F (e_us E p)) (e_lg E (e_us E p)) (e_c E (e_us E p)) (fup H p (H p ++ [(w, v, e_M E)]) (e_xc E (e_us E p))) (fup H p (H p ++ [(w, v, e_M E)]) (e_yc E (e_us E p))) = RR (e_kd E (e_us E p)) (e_oa E (e_us E p)) (e_ob E (e_us E p)) (e_us E p) (F (e_us E p)) (e_lg E (e_us E p)) (e_c E (e_us E p)) (H (e_xc E (e_us E p)) ++ [(w, v, e_M E)]) (H (e_yc E (e_us E p))) from ca_RR (fun _ => by rw [hs, fu_s]) (fun h16 => fu_n (hy h16))]
    refine rn_x z3 (hK _ (by omega) z2) (fun h16 h19 e he => ?_) (fun h19 => ?_)
    · exact hX _ z2 h16 h19 (by have := t4 _ (show e_xc E (e_us E p) < e_n E by omega); omega) (by omega) e he
    · have h8 := t8 _ z2 (by omega)
      refine i7 _ (by omega) ?_
      rcases Bool.eq_false_or_eq_true (bg (e_yc E (e_us E p))) with z | z
      · have := cv_fin (i6 _ z2 h19 z)
        rw [hs, hf] at this
        exact absurd this (by decide)
      · exact z
  · rw [if_neg hs]
    have h4 : 16 ≤ e_kd E (e_us E p) ∧ e_yc E (e_us E p) = p := by
      rcases z4 with z | z
      · exact absurd z hs
      · exact z
    unfold Rn
    rw [show RR (e_kd E (e_us E p)) (e_oa E (e_us E p)) (e_ob E (e_us E p)) (e_us E p) (F (e_us E p)) (e_lg E (e_us E p)) (e_c E (e_us E p)) (fup H p (H p ++ [(w, v, e_M E)]) (e_xc E (e_us E p))) (fup H p (H p ++ [(w, v, e_M E)]) (e_yc E (e_us E p))) = RR (e_kd E (e_us E p)) (e_oa E (e_us E p)) (e_ob E (e_us E p)) (e_us E p) (F (e_us E p)) (e_lg E (e_us E p)) (e_c E (e_us E p)) (H (e_xc E (e_us E p))) (H (e_yc E (e_us E p)) ++ [(w, v, e_M E)]) from ca_RR (fun _ => fu_n hs) (fun h16 => by rw [h4.2, fu_s])]
    exact rn_y h4.1 (fun _ e he => i3 _ (by omega) e he)
theorem cv_nb {E : Env} {bg : Nat → Bool} (hT : TR E) (hu : ∀ q, q + 1 < e_n E → bg q = true → bg (e_us E q) = true) {y : Nat} (hy : y < e_n E) (hb : bg y = false) : ∀ d q, y - q = d → e_lo E y ≤ q → q ≤ y → bg q = false := by
  intro d
  induction d using Nat.strongRecOn with
  | ind d ih =>
    intro q hd hl hq
    obtain ⟨t1, t2, t3, t4, t5, t6, t7, t8, t9, t10, t11⟩ := hT
    by_cases e : q = y
    · rw [e]; exact hb
    · have h1 := t10 y hy q hl (by omega)
      have h2 := t9 q (by omega)
      have h3 := ih (y - e_us E q) (by omega) (e_us E q) rfl (by omega) h1
      rcases Bool.eq_false_or_eq_true (bg q) with z | z
      · have := hu q (by omega) z
        rw [h3] at this
        exact absurd this (by decide)
      · exact z
/-- the parts above p but its user keep their run when p says something -/
theorem cv_cl {E : Env} {u u1 : SX} {H : Nat → List Ev} {F : Nat → Nat} {bg : Nat → Bool} {p q w : Nat} {v : Int32} (hT : TR E) (hp : p + 1 < e_n E) (hq : q < e_n E) (hpq : p < q) (hqz : q ≠ e_us E p) (h : CL E u H F bg q) (hr : ∀ S, RepP u (ab E q) S → RepP u1 (ab E q) S) : CL E u1 (fup H p (H p ++ [(w, v, e_M E)])) F bg q := by
  obtain ⟨t1, t2, t3, t4, t5, t6, t7, t8, t9, t10, t11⟩ := hT
  refine ca_cl h (fu_n (by omega)) rfl rfl (fun h3 => fu_n ?_) (fun h16 => fu_n ?_) hr
  · intro e
    have := t6 q hq h3
    rw [e] at this
    exact hqz this.2.1.symm
  · intro e
    have := t8 q hq h16
    rw [e] at this
    exact hqz this.2.1.symm
/-- XB goes up and comes back -/
theorem cv_xbu {E : Env} {H : Nat → List Ev} {p w : Nat} {v : Int32} (hT : TR E) (hp : p + 1 < e_n E) (hX : XB E H p) : XB E (fup H p (H p ++ [(w, v, e_M E)])) (e_us E p) := by
  obtain ⟨t1, t2, t3, t4, t5, t6, t7, t8, t9, t10, t11⟩ := hT
  obtain ⟨z1, z2, z3, z4⟩ := t9 p hp
  intro z hz h16 h19 hl hx e he
  have hzx := t6 z hz (by omega)
  have hzy := t8 z hz h16
  have hlo : e_lo E z ≤ e_lo E (e_us E p) := by
    have := t11 (e_xc E z) (by omega) (e_us E p) (by omega) hx
    omega
  have hup := t6 _ z2 z3
  have hl2 := t4 (e_xc E (e_us E p)) (by omega)
  have hpl : e_lo E (e_us E p) ≤ p := by
    rcases z4 with y | y
    · omega
    · have := t8 _ z2 y.1; omega
  rw [fu_n (by omega)] at he
  exact hX z hz h16 h19 (by omega) (by omega) e he
theorem cv_xbd {E : Env} {H H' : Nat → List Ev} {p : Nat} (hT : TR E) (hp : p + 1 < e_n E) (hX : XB E H p) (hX' : XB E H' (e_us E p)) (hk : ∀ q, q < e_us E p → q ≠ p → H' q = H q) : XB E H' p := by
  obtain ⟨t1, t2, t3, t4, t5, t6, t7, t8, t9, t10, t11⟩ := hT
  obtain ⟨z1, z2, z3, z4⟩ := t9 p hp
  intro z hz h16 h19 hl hx e he
  have hzx := t6 z hz (by omega)
  have hzy := t8 z hz h16
  by_cases hzu : z = e_us E p
  · subst hzu
    rw [hk _ (by omega) (by omega)] at he
    exact hX _ hz h16 h19 hl hx e he
  · have hne : p ≠ e_xc E z := fun y => hzu (by rw [y]; exact hzx.2.1.symm)
    have h1 := t10 (e_xc E z) (by omega) p (by omega) (by omega)
    exact hX' z hz h16 h19 (by omega) h1 e he
end
section
/-! ===== the cascade: EVT and BEG, one step each ===== -/
theorem cw_27 {E : Env} (hT : TR E) {p : Nat} (hp : p < e_n E) : ab E p < 27 := by
  have h1 := hT.1
  have h3 := hT.2.2.1
  unfold ab; omega
theorem cw_chain {k p fr c : Nat} {a b : Int32} {lg : List Lg} {Hx : List Ev} (hk : 19 ≤ k) (hk20 : k ≤ 20) (hf : fin Hx = false) : fin (RR k a b p fr lg c Hx []).2 = false := by
  have hall : ∀ e ∈ Hx, e.1 = 1 := by
    intro e he
    unfold fin at hf
    rw [List.any_eq_false] at hf
    simpa using hf e he
  have key : ∀ (l : List Ev) (R : RSt), (∀ e ∈ l, e.1 = 1) → fin R.2 = false → fin ((tg 0 l).foldl (stp k a b) R).2 = false := by
    intro l
    induction l with
    | nil => intro R _ h; exact h
    | cons e l ih =>
      intro R hl h
      show fin ((tg 0 l).foldl (stp k a b) (stp k a b R (0, e))).2 = false
      refine ih _ (fun e' he' => hl e' (List.mem_cons_of_mem _ he')) ?_
      rw [rn_stp_go h]
      obtain ⟨⟨d, cc, hh, hy, f, fy, qx, q, ox, oy⟩, O⟩ := R
      have he1 := hl e (by simp)
      obtain ⟨w, v, m⟩ := e
      have he1' : w = 1 := he1
      subst he1'
      have hk' : k = 19 ∨ k = 20 := by omega
      rw [rn_fin_app]
      have h' : fin O = false := h
      rcases hk' with e | e <;> subst e <;> simp [rsp, hear, hi, ems, fin] at h' ⊢ <;> exact h'
  have k0 : ¬ k = 0 := by omega
  have k2 : ¬ k = 2 := by omega
  unfold RR
  rw [if_neg k0, if_neg k2]
  unfold inp
  rw [if_neg (by omega), if_neg (by omega), if_neg (by omega), if_neg (by omega)]
  rw [show tg 1 [] = [] from rfl, List.append_nil]
  exact key Hx _ hall rfl
theorem cw_root {E : Env} {post : SX → Prop} {p : Nat} (hT : TR E) (hM : tim (e_M E) = e_t E) (hr : p + 1 = e_n E) : EVT E post p := by
  intro x w v R u H F bg hp hI hC hX hK hb hf hw hw3 hev hS hl hx K
  have hI0 := hI
  obtain ⟨i1, i2, i3, i4, i5, i6, i7, i8, i9, i10⟩ := hI
  have hn : e_n E - 1 = p := by omega
  have hHU := (i1.2 p hp).2.2
  rw [if_pos hr] at hHU
  have h9n := hT.2.2.1
  have h9 : 1 ≤ e3 (9 - p) := e3_lt (a := 0) (by omega)
  refine sw_evr hT.1 (by omega) (cw_27 hT hp) hw hw3 hS (by omega) hHU i1.1 i5.2 (fun u1 he => ?_)
  obtain ⟨f1, f2, f3, f4, f5, f6, f7⟩ := he
  have hH1 : fup H p (H p ++ [(w, v, e_M E)]) p = H p ++ [(w, v, e_M E)] := fu_s
  refine K (x + 1) u1 (fup H p (H p ++ [(w, v, e_M E)])) F bg (by omega) (ca_iv hI0 hp hb hf hw f1 f2 f3 ?_) (fun q h1 h2 => by omega) ?_ f7 ⟨⟨f1, fun j _ S h => f4 j S h, fun j hj => ⟨?_, by rw [f3]⟩, f6⟩, fun q hq => ⟨fu_n (by omega), rfl, rfl⟩, fun q _ h => ⟨h, rfl⟩, fun q _ h => Or.inl h, fun q hq hk hc => ?_, fun _ _ _ _ _ h _ => h⟩ (fun S h => f4 _ S h) hH1
  · rw [hn, hH1]
    rw [hn] at i5
    refine ⟨by rw [List.length_append]; omega, ?_⟩
    rw [cs_drop_snoc i5.1, List.foldl_append]
    show RepU u1 (e_id E) (sst (tim (e_M E)) w v (((H p).drop (e_h0 E)).foldl evf (e_s0 E)))
    rw [hM]
    rw [hn] at f5
    exact f5
  · intro z hz h16 h19 h1 h2 e he
    have := hT.2.2.2.2.2.2.2.1 z hz h16
    have h6 := hT.2.2.2.2.2.1 z hz (by omega)
    rw [fu_n (by omega)] at he
    exact hX z hz h16 h19 h1 h2 e he
  · rw [f2]
    by_cases h1 : w = 1
    · rw [if_pos h1]
    · rw [if_neg h1, pk_un (by have := hT.2.2.1; unfold ab; omega)]
  · intro e he hm
    have h6 := hT.2.2.2.2.2.1 q hq (by omega)
    rw [fu_n (by omega)] at he
    exact hc e he hm
theorem cw_evt {E : Env} {post : SX → Prop} {p : Nat} (hT : TR E) (hM : tim (e_M E) = e_t E) (ht : e_t E ≤ 200) (hp1 : p + 1 < e_n E) (hE : EVT E post (e_us E p)) (hB : ∀ z, z < e_n E → p < e_lo E z → BEG E post z) : EVT E post p := by
  intro x w v R u H F bg hp hI hC hX hK hb hf hw hw3 hev hS hl hx K
  have hI0 := hI
  have hT0 := hT
  obtain ⟨i1, i2, i3, i4, i5, i6, i7, i8, i9, i10⟩ := hI
  obtain ⟨t1, t2, t3, t4, t5, t6, t7, t8, t9, t10, t11⟩ := hT
  obtain ⟨z1, z2, z3, z4⟩ := t9 p hp1
  have hnx := cv_next (w := w) (v := v) hT0 hI0 hp1 hX hK hf
  have hxz := t6 _ z2 z3
  have h9 : 3 * e3 (9 - e_us E p) + 1 ≤ e3 (9 - p) := e3_lt (by omega)
  have hHU := (i1.2 p hp).2.2
  rw [if_neg (by omega)] at hHU
  have hbz := i8 p hp1 hb
  have hcz := (hC _ z1 z2).1 hbz
  have hphz := i2 _ z2
  rw [hbz] at hphz
  have hzp : ab E (e_us E p) ≠ ab E p := ca_ab (by omega)
  -- the state behind the popping: sub and frame
  have hsub : ∀ u1, x_sub u1 = x_sub u → e_h0 E ≤ (fup H p (H p ++ [(w, v, e_M E)]) (e_n E - 1)).length ∧ RepU u1 (e_id E) (((fup H p (H p ++ [(w, v, e_M E)]) (e_n E - 1)).drop (e_h0 E)).foldl evf (e_s0 E)) := by
    intro u1 hu1
    rw [fu_n (by omega)]
    exact ⟨i5.1, ca_sub hu1 _ _ i5.2⟩
  have hfr : ∀ u1, x_st2 u1 = x_st2 u → x_sub u1 = x_sub u → x_phase u1 = (if w = 1 then x_phase u else upd (x_phase u) (ab E p) 2) → x_beganAfter u1 = x_beganAfter u → (∀ j, j ≠ ab E (e_us E p) → ∀ S, RepP u j S → RepP u1 j S) → FR E (p + 1) u u1 := by
    intro u1 g1 g2 g3 g4 g5
    refine ⟨g1, fun j hj S hS => g5 j ?_ S hS, fun j hj => ⟨?_, by rw [g4]⟩, fun j hj s hs => ca_sub g2 j s hs⟩
    · unfold ab at hj ⊢; omega
    · rw [g3]
      by_cases h1 : w = 1
      · rw [if_pos h1]
      · rw [if_neg h1, pk_un (by unfold ab; omega)]
  have hC2 : ∀ q, q < e_n E → 19 ≤ e_kd E q → (q = e_us E p → e_xc E q = p → ¬ mt (e_kd E q) w = true) → C2 E H F bg q → C2 E (fup H p (H p ++ [(w, v, e_M E)])) F bg q := by
    intro q hq hk hno hc e he hm
    have h6 := t6 q hq (by omega)
    by_cases hqp : e_xc E q = p
    · have hqu : q = e_us E p := by rw [← hqp]; exact h6.2.1.symm
      rw [hqp, fu_s] at he
      rcases List.mem_append.mp he with y | y
      · have := cv_fin ⟨e, y, hm⟩
        rw [hf] at this
        exact absurd this (by decide)
      · rw [List.mem_singleton] at y
        subst y
        exact absurd hm (hno hqu hqp)
    · rw [fu_n hqp] at he
      exact hc e he hm
  by_cases hfz : fin (H (e_us E p)) = true
  · -- the user has ended
    rw [hfz] at hphz
    refine sw_evn (by omega) (cw_27 hT0 hp) (cw_27 hT0 z2) hw hw3 hS (by omega) hHU hzp (by rw [hphz]; decide) (fun u1 he => ?_)
    obtain ⟨f1, f2, f3, f4, f5, f6⟩ := he
    have hfr1 := hfr u1 f1 f2 f3 f4 (fun j _ S h => f5 j S h)
    have hst : Rn E (fup H p (H p ++ [(w, v, e_M E)])) F (e_us E p) = Rn E H F (e_us E p) := by
      rw [hnx]; exact rn_stp_fin (by rw [hcz.1]; exact hfz)
    refine K (x + 1) u1 (fup H p (H p ++ [(w, v, e_M E)])) F bg (by omega) (ca_iv hI0 hp hb hf hw f1 f3 f4 (hsub u1 f2)) (fun q h1 h2 => ?_) ?_ f6 ⟨fr_mono (by omega) hfr1, fun q hq => ⟨fu_n (by omega), rfl, rfl⟩, fun q _ h => ⟨h, rfl⟩, fun q _ h => Or.inl h, fun q hq hk hc => ?_, fun _ _ _ _ _ h _ => h⟩ (fun S h => f5 _ S h) fu_s
    · by_cases hqz : q = e_us E p
      · subst hqz
        refine ⟨fun _ => ?_, fun hb' => by rw [hbz] at hb'; exact absurd hb' (by decide)⟩
        rw [hst, fu_n (by omega)]
        exact ⟨hcz.1, fun h => by rw [hfz] at h; exact absurd h (by decide)⟩
      · exact cv_cl hT0 hp1 h2 h1 hqz (hC q h1 h2) (fun S h => f5 _ S h)
    · exact cv_xbd hT0 hp1 hX (cv_xbu hT0 hp1 hX) (fun q _ hq => fu_n hq)
    · refine hC2 q hq hk (fun hqu hqp => ?_) hc
      intro hm
      -- a chain that has ended while its X side runs: impossible
      subst hqu
      have hy8 := t8 _ hq (by omega)
      have hyb : bg (e_yc E (e_us E p)) = false := by
        rcases Bool.eq_false_or_eq_true (bg (e_yc E (e_us E p))) with y | y
        · have := cv_fin (i6 _ hq hk y)
          rw [hqp, hf] at this
          exact absurd this (by decide)
        · exact y
      have hy0 := i7 _ (by omega) hyb
      have h1 := hcz.1
      have : fin (Rn E H F (e_us E p)).2 = false := by
        unfold Rn
        rw [hqp, hy0]
        exact cw_chain hk (i1.2 _ z2).1.2.2.2.2.2.2.2.2.1 hf
      rw [h1, hfz] at this
      exact absurd this (by decide)
  · -- the user runs
    have hfz' : fin (H (e_us E p)) = false := by simpa using hfz
    rw [hfz'] at hphz
    have hcz2 := hcz.2 hfz'
    obtain ⟨hRO, hok, hfl⟩ := hcz2
    have hHZ := (i1.2 _ z2).1
    have hHC := (i1.2 _ z2).2.1
    have hop : opk (e_kd E (e_us E p)) (e_oa E (e_us E p)) (e_ob E (e_us E p)) := hHZ.2.2.2.2.2.2.2.2
    have hk20 := hop.1
    have hside : ab E p = if decide (e_xc E (e_us E p) = p) = true then ab E (e_xc E (e_us E p)) else ab E (e_yc E (e_us E p)) := by
      by_cases y : e_xc E (e_us E p) = p
      · rw [decide_eq_true y, if_pos rfl, y]
      · rw [decide_eq_false y, if_neg (by decide)]
        rcases z4 with q | q
        · exact absurd q y
        · rw [q.2]
    have hoth : 16 ≤ e_kd E (e_us E p) → e_kd E (e_us E p) < 19 → (x_phase u (if decide (e_xc E (e_us E p) = p) = true then ab E (e_yc E (e_us E p)) else ab E (e_xc E (e_us E p))) = 2 ↔ (if decide (e_xc E (e_us E p) = p) = true then (Rn E H F (e_us E p)).1.2.2.2.2.2.2.2.2.2 else (Rn E H F (e_us E p)).1.2.2.2.2.2.2.2.2.1) = true) := by
      intro h16 h19
      have hf2 := hfl h16 h19
      have hy8 := t8 _ z2 h16
      have ph2 : ∀ q, q < e_n E → (x_phase u (ab E q) = 2 ↔ fin (H q) = true) := by
        intro q hq
        rw [i2 q hq]
        rcases Bool.eq_false_or_eq_true (bg q) with y | y
        · rw [y]
          rcases Bool.eq_false_or_eq_true (fin (H q)) with y2 | y2 <;> rw [y2] <;> decide
        · rw [y, i7 q hq y]; decide
      by_cases y : e_xc E (e_us E p) = p
      · rw [decide_eq_true y, if_pos rfl, if_pos rfl, hf2.2]; exact ph2 _ (by omega)
      · rw [decide_eq_false y, if_neg (by decide), if_neg (by decide), hf2.1]; exact ph2 _ (by omega)
    refine sw_ev (sd := decide (e_xc E (e_us E p) = p)) (by omega) (cw_27 hT0 hp) (cw_27 hT0 z2) hw hw3 hS (by omega) hHU hHZ hHC z3 hside (fun h16 => ?_) hzp hphz hoth hRO hok (fun u1 he => ?_)
    · rcases z4 with q | q
      · exact decide_eq_true q
      · omega
    obtain ⟨f1, f2, f3, f4, f5, f6, f7⟩ := he
    have hfr1 := hfr u1 f1 f2 f3 f4 f6
    have hI1 := ca_iv (v := v) hI0 hp hb hf hw f1 f3 f4 (hsub u1 f2)
    obtain ⟨g1, g2, g3⟩ := rn_hear (sd := decide (e_xc E (e_us E p) = p)) (v := v) (w := w) hop hok ht z3 hev
    have hsd0 : ((if e_xc E (e_us E p) = p then 0 else 1) == 0) = decide (e_xc E (e_us E p) = p) := by
      by_cases y : e_xc E (e_us E p) = p
      · rw [if_pos y, decide_eq_true y]; rfl
      · rw [if_neg y, decide_eq_false y]; rfl
    have hs2 : ¬ (if e_xc E (e_us E p) = p then 0 else 1) = 2 := by split <;> omega
    have hst : Rn E (fup H p (H p ++ [(w, v, e_M E)])) F (e_us E p) = ((hear (e_kd E (e_us E p)) (e_ob E (e_us E p)) (e_t E) (decide (e_xc E (e_us E p) = p)) w v (Rn E H F (e_us E p)).1).1, H (e_us E p) ++ ems (e_M E) (hear (e_kd E (e_us E p)) (e_ob E (e_us E p)) (e_t E) (decide (e_xc E (e_us E p) = p)) w v (Rn E H F (e_us E p)).1).2) := by
      rw [hnx, rn_stp_go (by rw [hcz.1]; exact hfz'), hcz.1]
      unfold rsp
      rw [if_neg hs2, hsd0, hM]
    have hCo : ∀ q, p < q → q < e_n E → q ≠ e_us E p → CL E u1 (fup H p (H p ++ [(w, v, e_M E)])) F bg q := fun q h1 h2 hqz => cv_cl hT0 hp1 h2 h1 hqz (hC q h1 h2) (fun S h => f6 _ (ca_ab hqz) S h)
    -- the user's own cells, whatever it says
    have hself : ∀ (u' : SX) (H' : Nat → List Ev) (F' : Nat → Nat) (bg' : Nat → Bool), H' (e_us E p) = H (e_us E p) ++ ems (e_M E) (hear (e_kd E (e_us E p)) (e_ob E (e_us E p)) (e_t E) (decide (e_xc E (e_us E p) = p)) w v (Rn E H F (e_us E p)).1).2 → F' (e_us E p) = F (e_us E p) → bg' (e_us E p) = true → H' (e_xc E (e_us E p)) = fup H p (H p ++ [(w, v, e_M E)]) (e_xc E (e_us E p)) → (16 ≤ e_kd E (e_us E p) → e_kd E (e_us E p) < 19 → H' (e_yc E (e_us E p)) = fup H p (H p ++ [(w, v, e_M E)]) (e_yc E (e_us E p))) → Rn E H' F' (e_us E p) = Rn E (fup H p (H p ++ [(w, v, e_M E)])) F (e_us E p) → (∀ S, RepP u1 (ab E (e_us E p)) S → RepP u' (ab E (e_us E p)) S) → CL E u' H' F' bg' (e_us E p) := by
      intro u' H' F' bg' k1 k2 k3 k4 k5 k6 k7
      refine ⟨fun _ => ?_, fun hb' => by rw [k3] at hb'; exact absurd hb' (by decide)⟩
      rw [k6, hst]
      refine ⟨k1.symm, fun hf2 => ?_⟩
      rw [k1, rn_fin_app, Bool.or_eq_false_iff] at hf2
      have hall := ro_all_fin hf2.2
      refine ⟨k7 _ f5, g3 hall, fun h16 h19 => ?_⟩
      have hflg := rn_flags h16 h19 hw hw3 hall
      have hf3 := hfl h16 h19
      have hy8 := t8 _ z2 h16
      rw [k4, k5 h16 h19]
      show (hear _ _ _ _ _ _ _).1.2.2.2.2.2.2.2.2.1 = _ ∧ (hear _ _ _ _ _ _ _).1.2.2.2.2.2.2.2.2.2 = _
      rw [hflg.1, hflg.2, hf3.1, hf3.2]
      by_cases y : e_xc E (e_us E p) = p
      · rw [decide_eq_true y, if_pos rfl, if_pos rfl, y, fu_s, fu_n (by omega), cs_fin_snoc hf, hf]
        exact ⟨rfl, rfl⟩
      · have hyp : e_yc E (e_us E p) = p := by
          rcases z4 with q | q
          · exact absurd q y
          · exact q.2
        rw [decide_eq_false y, if_neg (by decide), if_neg (by decide), hyp, fu_s, fu_n y, cs_fin_snoc hf, hf]
        exact ⟨rfl, rfl⟩
    by_cases hbgn : bgn (e_kd E (e_us E p)) w (decide (e_xc E (e_us E p) = p)) = true
    · -- a chain begins its Y side
      rw [if_pos hbgn] at f7
      have ho := ro_bgn_nil (k := e_kd E (e_us E p)) (b := e_ob E (e_us E p)) (t := e_t E) (v := v) (S := (Rn E H F (e_us E p)).1) hbgn
      rw [ho] at f7
      have hb2 : e_xc E (e_us E p) = p ∧ mt (e_kd E (e_us E p)) w = true := by
        unfold bgn at hbgn
        rw [Bool.and_eq_true, decide_eq_true_eq] at hbgn
        exact hbgn
      have hk19 : 19 ≤ e_kd E (e_us E p) := by
        have := hb2.2
        simp only [mt, Bool.or_eq_true, Bool.and_eq_true, beq_iff_eq] at this
        omega
      have hy8 := t8 _ z2 (by omega)
      have hyb : bg (e_yc E (e_us E p)) = false := by
        rcases Bool.eq_false_or_eq_true (bg (e_yc E (e_us E p))) with y | y
        · have := cv_fin (i6 _ z2 hk19 y)
          rw [hb2.1, hf] at this
          exact absurd this (by decide)
        · exact y
      have hlo : e_lo E (e_yc E (e_us E p)) = p + 1 := by omega
      have hXz := cv_xbu (w := w) (v := v) hT0 hp1 hX
      have h1y : 1 ≤ e3 (9 - e_yc E (e_us E p)) := e3_lt (a := 0) (by omega)
      have hcu : CL E u1 (fup H p (H p ++ [(w, v, e_M E)])) F bg (e_us E p) := hself u1 _ F bg (by rw [fu_n (by omega), ho]; simp [ems]) rfl hbz rfl (fun _ _ => rfl) rfl (fun S h => h)
      have hC1 : ∀ q, p < q → q < e_n E → CL E u1 (fup H p (H p ++ [(w, v, e_M E)])) F bg q := by
        intro q h1 h2
        by_cases hqz : q = e_us E p
        · subst hqz; exact hcu
        · exact hCo q h1 h2 hqz
      refine hB (e_yc E (e_us E p)) (by omega) (by omega) (x + 1) R u1 _ F bg (by omega) hI1 (fun q h1 h2 => hC1 q (by omega) h2) ?_ (by rw [hlo]; exact hK) (fun q h1 h2 => cv_nb hT0 i8 (by omega) hyb _ q rfl h1 h2) (fun _ => by rw [hy8.2.1]; exact hbz) (fun q hq hk hyq => ?_) f7 (by rw [hlo]; omega) (by rw [hlo, show 10 - (p + 1) = 9 - p from by omega]; omega) ?_
      · -- XB for the Y side
        intro z hz h16 h19 hl2 hx2 e he
        have hzx := t6 z hz (by omega)
        have hne : e_yc E (e_us E p) ≠ e_xc E z := by
          intro y
          have := hzx.2.1
          rw [← y, hy8.2.1] at this
          subst this
          omega
        have h1 := t10 (e_xc E z) (by omega) (e_yc E (e_us E p)) (by omega) (by omega)
        rw [hy8.2.1] at h1
        exact hXz z hz h16 h19 (by omega) h1 e he
      · have h6 := t8 q hq (by omega)
        have hqz : q = e_us E p := by rw [← h6.2.1, hyq]; exact hy8.2.1
        subst hqz
        refine ⟨(w, v, e_M E), ?_, hb2.2⟩
        rw [hb2.1, fu_s]
        exact List.mem_append.mpr (Or.inr (by simp))
      · intro x' u' H' F' bg' k1 k2 k3 k4 k5 k6 k7 k8
        rw [hlo] at k1 k6
        rw [hlo] at k3
        rw [show 10 - (p + 1) = 9 - p from by omega] at k1
        have hHp : H' p = H p ++ [(w, v, e_M E)] := (k6.2.1 p (by omega)).1.trans fu_s
        refine K x' u' H' F' bg' (by omega) k2 (fun q h1 h2 => k3 q (by omega) h2) ?_ k5 ⟨fr_mono (by omega) (fr_trans hfr1 k6.1), fun q hq => ⟨(k6.2.1 q (by omega)).1.trans (fu_n (by omega)), (k6.2.1 q (by omega)).2.1, (k6.2.1 q (by omega)).2.2⟩, k6.2.2.1, k6.2.2.2.1, fun q hq hk hc => ?_, fun w hw h16 h19 hbw hyw _ => k6.2.2.2.2.2 w hw h16 h19 hbw hyw (fun y => by have hwu := (t8 w hw h16).2.1; rw [y, hy8.2.1] at hwu; subst hwu; omega)⟩ (fun S h => k6.1.2.1 _ (Or.inl (by unfold ab; omega)) S (f6 _ hzp.symm S h)) hHp
        · -- XB comes back down
          intro z hz h16 h19 hl2 hx2 e he
          have hzx := t6 z hz (by omega)
          have hzu : z ≠ e_us E p := by intro y; subst y; omega
          have hne : p ≠ e_xc E z := fun y => hzu (by rw [y]; exact hzx.2.1.symm)
          have h1 := t10 (e_xc E z) (by omega) p (by omega) (by omega)
          exact k4 z hz h16 h19 (by omega) (by omega) e he
        · by_cases hqz : q = e_us E p
          · subst hqz
            intro e he hm
            rw [hb2.1, hHp] at he
            rcases List.mem_append.mp he with y | y
            · have := cv_fin ⟨e, y, hm⟩
              rw [hf] at this
              exact absurd this (by decide)
            · rw [List.mem_singleton] at y
              subst y
              exact ⟨k7, k8⟩
          · exact k6.2.2.2.2.1 q hq hk (hC2 q hq hk (fun y _ => absurd y hqz) hc)
    · -- it says what it says
      rw [if_neg hbgn, List.nil_append] at f7
      have hXz := cv_xbu (w := w) (v := v) hT0 hp1 hX
      have hmul : (hear (e_kd E (e_us E p)) (e_ob E (e_us E p)) (e_t E) (decide (e_xc E (e_us E p) = p)) w v (Rn E H F (e_us E p)).1).2.length * e3 (9 - e_us E p) ≤ 2 * e3 (9 - e_us E p) := Nat.mul_le_mul_right _ g2
      refine ca_list hT0 hE _ (x + 1) R u1 _ F bg z2 hI1 (fun r h1 h2 => hCo r (by omega) h2 (by omega)) hXz (fun q h1 h2 => hK q (by omega) h2) hbz (fun _ => by rw [fu_n (by omega)]; exact hfz') g1 f7 (by omega) (by omega) ?_
      intro x' u' H' F' bg' k1 k2 k3 k4 k5 k6 k7 k8
      have hHp : H' p = H p ++ [(w, v, e_M E)] := (k6.2.1 p (by omega)).1.trans fu_s
      have hHz : H' (e_us E p) = H (e_us E p) ++ ems (e_M E) (hear (e_kd E (e_us E p)) (e_ob E (e_us E p)) (e_t E) (decide (e_xc E (e_us E p) = p)) w v (Rn E H F (e_us E p)).1).2 := by
        rw [k8, fu_n (by omega)]
      have hmz := k6.2.2.1 _ z2 hbz
      refine K x' u' H' F' bg' (by omega) k2 (fun q h1 h2 => ?_) ?_ k5 ⟨fr_trans (fr_mono (by omega) hfr1) (fr_mono (by omega) k6.1), fun q hq => ⟨(k6.2.1 q (by omega)).1.trans (fu_n (by omega)), (k6.2.1 q (by omega)).2.1, (k6.2.1 q (by omega)).2.2⟩, k6.2.2.1, k6.2.2.2.1, fun q hq hk hc => ?_, k6.2.2.2.2.2⟩ (fun S h => k6.1.2.1 _ (Or.inl (by unfold ab; omega)) S (f6 _ hzp.symm S h)) hHp
      · rcases Nat.lt_or_ge (e_us E p) q with y | y
        · exact k3 q y h2
        · by_cases hqz : q = e_us E p
          · subst hqz
            refine hself u' H' F' bg' hHz hmz.2 hmz.1 (k6.2.1 _ (by omega)).1 (fun h16 _ => (k6.2.1 _ (by have := t8 _ z2 h16; omega)).1) ?_ k7
            exact ca_Rn hmz.2 (fun _ => (k6.2.1 _ (by omega)).1) (fun h16 => (k6.2.1 _ (by have := t8 _ z2 h16; omega)).1)
          · have hq' := k6.2.1 q (by omega)
            exact ca_cl (hCo q h1 h2 hqz) hq'.1 hq'.2.1 hq'.2.2 (fun h3 => (k6.2.1 _ (by have := t6 q h2 h3; omega)).1) (fun h16 => (k6.2.1 _ (by have := t8 q h2 h16; omega)).1) (fun S h => k6.1.2.1 _ (Or.inl (by unfold ab; omega)) S h)
      · exact cv_xbd hT0 hp1 hX k4 (fun q h1 h2 => (k6.2.1 q h1).1.trans (fu_n h2))
      · refine k6.2.2.2.2.1 q hq hk (hC2 q hq hk (fun y1 y2 hm => hbgn ?_) hc)
        subst y1
        unfold bgn
        rw [Bool.and_eq_true, decide_eq_true_eq]
        exact ⟨y2, hm⟩
end
section
/-! ===== the cascade: a part begins ===== -/
theorem cb_ini {k p M c : Nat} {a b : Int32} {lg : List Lg} {Hx Hy : List Ev} (h2 : k ≠ 2) (hc : ckm p M = c) (hl : ∀ g ∈ lg, hrs M g.2.2.2 = false) (hx : 3 ≤ k → Hx = []) (hy : 16 ≤ k → Hy = []) : RR k a b p M lg c Hx Hy = (ini k a b (tim M), []) := by
  rw [ca_RR (Hx := []) (Hy := []) hx hy]
  unfold RR
  by_cases h0 : k = 0
  · rw [if_pos h0]
    have : ∀ l : List Lg, (∀ g ∈ l, hrs M g.2.2.2 = false) → src (cl a) p M l = [] := by
      intro l
      induction l with
      | nil => intro _; rfl
      | cons g l ih =>
        intro hl
        unfold src
        rw [if_neg (by rw [hl g (by simp)]; simp)]
        exact ih (fun g' hg' => hl g' (List.mem_cons_of_mem _ hg'))
    rw [this lg hl]
  · rw [if_neg h0, if_neg h2]
    have : inp k p (ckm p M) c [] [] = [] := by
      unfold inp
      rw [hc]
      by_cases h1 : k = 1
      · rw [if_pos h1, Nat.sub_self]; rfl
      · rw [if_neg h1]
        by_cases h3 : k < 3
        · rw [if_pos h3]
        · rw [if_neg h3]
          by_cases h16 : k < 16
          · rw [if_pos h16]
            by_cases ht : tmd k = true
            · rw [if_pos ht]
              show tms p c (c - c) = []
              rw [Nat.sub_self]; rfl
            · rw [if_neg ht]; rfl
          · rw [if_neg h16]
            by_cases h19 : k < 19
            · rw [if_pos h19]; rfl
            · rw [if_neg h19]; rfl
    rw [this]; rfl
theorem cb_nb {LG : List Lg} {M : Nat} (h : ∀ g ∈ LG, hrs M g.2.2.2 = false) : nb LG M = LG.length := by
  unfold nb
  congr 1
  rw [List.filter_eq_self]
  intro g hg
  rw [h g hg]; rfl
theorem cb_pg {E : Env} {a z : Nat} {u u1 u' : SX} {H H' : Nat → List Ev} {F F' : Nat → Nat} {bg bg' : Nat → Bool} (hT : TR E) (hz : z < e_n E) (haz : a ≤ z) (hb : bg z = false) (hfr : FR E a u u1) {z0 : Nat} (hz0 : z0 = z ∨ ∀ w, w < e_n E → 16 ≤ e_kd E w → e_kd E w < 19 → w ≠ z → e_yc E w ≠ z0)
    (h : PG E a z0 u1 H (fup F z (e_M E)) (fup bg z true) u' H' F' bg') (hFz : F' z = e_M E) (hd : DN E F' bg' z) : PG E a z u H F bg u' H' F' bg' := by
  have hne : ∀ q, bg q = true → q ≠ z := fun q hq e => by subst e; rw [hb] at hq; exact absurd hq (by decide)
  refine ⟨fr_trans hfr h.1, fun q hq => ?_, fun q hq hbq => ?_, fun q hq hbq => ?_, fun q hq hk hc => h.2.2.2.2.1 q hq hk ?_, fun w hw h16 h19 hbw hyw hyz => ?_⟩
  · have := h.2.1 q hq
    exact ⟨this.1, this.2.1.trans (fu_n (by omega)), this.2.2.trans (fu_n (by omega))⟩
  · have := h.2.2.1 q hq (by rw [fu_n (hne q hbq)]; exact hbq)
    exact ⟨this.1, this.2.trans (fu_n (hne q hbq))⟩
  · by_cases hqz : q = z
    · subst hqz; exact Or.inr ⟨hFz, hd⟩
    · rcases h.2.2.2.1 q hq hbq with y | y
      · rw [fu_n hqz] at y; exact Or.inl y
      · exact Or.inr y
  · intro e he hm
    have := hc e he hm
    rw [fu_n (hne _ this.1), fu_n (hne _ this.1)]
    exact this
  · have hwz := hne w hbw
    refine h.2.2.2.2.2 w hw h16 h19 (by rw [fu_n hwz]; exact hbw) (by rw [fu_n hyz]; exact hyw) ?_
    rcases hz0 with y | y
    · rw [y]; exact hyz
    · exact y w hw h16 h19 hwz
theorem cb_beg {E : Env} {post : SX → Prop} {z : Nat} (hT : TR E) (hM : tim (e_M E) = e_t E) (ht : e_t E ≤ 200) (hLG : (∀ q, q < e_n E → ∀ g ∈ e_lg E q, hrs (e_M E) g.2.2.2 = false) ∧ ∀ g ∈ e_LG E, hrs (e_M E) g.2.2.2 = false)
    (hE : e_kd E z = 2 → EVT E post z) (hBx : 3 ≤ e_kd E z → BEG E post (e_xc E z)) (hBy : 16 ≤ e_kd E z → e_kd E z < 19 → BEG E post (e_yc E z)) : BEG E post z := by
  intro x R u H F bg hz hI hC hX hK hnb hus hch hS hl hx K
  have hI0 := hI
  have hT0 := hT
  obtain ⟨i1, i2, i3, i4, i5, i6, i7, i8, i9, i10⟩ := hI
  obtain ⟨t1, t2, t3, t4, t5, t6, t7, t8, t9, t10, t11⟩ := hT
  have hlz := t4 z hz
  have hbz := hnb z hlz (Nat.le_refl _)
  have hHZ := (i1.2 z hz).1
  have hHC := (i1.2 z hz).2.1
  have hop : opk (e_kd E z) (e_oa E z) (e_ob E z) := hHZ.2.2.2.2.2.2.2.2
  have hk20 := hop.1
  have h9 : e3 (10 - z) = 3 * e3 (9 - z) + 1 := by
    rw [show 10 - z = (9 - z) + 1 from by omega]; rfl
  have hlo3 : e3 (10 - z) ≤ e3 (10 - e_lo E z) := e3_mono (by omega)
  have hHx : 3 ≤ e_kd E z → H (e_xc E z) = [] := fun h3 => by
    have := t6 z hz h3
    have h4 := t4 (e_xc E z) (by omega)
    exact i7 _ (by omega) (hnb _ (by omega) (by omega))
  have hHy : 16 ≤ e_kd E z → H (e_yc E z) = [] := fun h16 => by
    have h6 := t6 z hz (by omega)
    have h8 := t8 z hz h16
    have h4 := t4 (e_xc E z) (by omega)
    exact i7 _ (by omega) (hnb _ (by omega) (by omega))
  refine sw_bg (by omega) (by omega) hS hHZ hHC ((hC z hlz hz).2 hbz) (fun u1 he => ?_)
  obtain ⟨f1, f2, f3, f4, f5, f6, f7⟩ := he
  have hfr : FR E (e_lo E z) u u1 := by
    refine ⟨f1, fun j hj S hS => f6 j ?_ S hS, fun j hj => ⟨?_, ?_⟩, fun j hj s hs => ca_sub f2 j s hs⟩
    · unfold ab at hj ⊢; omega
    · rw [f3, pk_un (by unfold ab; omega)]
    · rw [f4, pk_un (by unfold ab; omega)]
  have hI1 : IV E u1 H (fup F z (e_M E)) (fup bg z true) := by
    refine ⟨by rw [f1]; exact i1, fun q hq => ?_, i3, fun q hq hb => ?_, ⟨i5.1, ca_sub f2 _ _ i5.2⟩, fun q hq hk hy => ?_, fun q hq hb => ?_, fun q hq hb => ?_, fun q hq hb => ?_, by rw [ca_sent f1]; exact i10⟩
    · by_cases e : q = z
      · subst e; rw [f3, pk_us, fu_s, i7 q hq hbz]; rfl
      · rw [f3, pk_un (ca_ab e), fu_n e]; exact i2 q hq
    · by_cases e : q = z
      · subst e; rw [fu_s]; exact Nat.le_refl _
      · rw [fu_n e] at hb ⊢; exact i4 q hq hb
    · by_cases e : e_yc E q = z
      · exact hch q hq hk e
      · rw [fu_n e] at hy; exact i6 q hq hk hy
    · by_cases e : q = z
      · subst e; rw [fu_s] at hb; exact absurd hb (by decide)
      · rw [fu_n e] at hb; exact i7 q hq hb
    · by_cases e : e_us E q = z
      · rw [e, fu_s]
      · rw [fu_n e]
        by_cases e2 : q = z
        · subst e2; exact hus hq
        · rw [fu_n e2] at hb; exact i8 q hq hb
    · by_cases e : q = z
      · subst e; rw [f4, pk_us, fu_s, cb_nb hLG.2]; exact i10
      · rw [fu_n e] at hb; rw [f4, pk_un (ca_ab e), fu_n e]; exact i9 q hq hb
  have hCo : ∀ q, e_lo E z ≤ q → q < e_n E → q ≠ z → CL E u1 H (fup F z (e_M E)) (fup bg z true) q := fun q h1 h2 hqz => ca_cl (hC q h1 h2) rfl (fu_n hqz) (fu_n hqz) (fun _ => rfl) (fun _ => rfl) (fun S h => f6 _ (ca_ab hqz) S h)
  have hRz : e_kd E z ≠ 2 → Rn E H (fup F z (e_M E)) z = (ini (e_kd E z) (e_oa E z) (e_ob E z) (e_t E), []) := by
    intro h2
    unfold Rn
    rw [fu_s, cb_ini h2 (hK z hlz hz) (hLG.1 z hz) hHx hHy, hM]
  have hCz : e_kd E z ≠ 2 → CL E u1 H (fup F z (e_M E)) (fup bg z true) z := by
    intro h2
    refine ⟨fun _ => ?_, fun hb => by rw [fu_s] at hb; exact absurd hb (by decide)⟩
    rw [hRz h2]
    refine ⟨(i7 z hz hbz).symm, fun _ => ⟨f5, rn_ok_ini hop ht, fun h16 h19 => ?_⟩⟩
    rw [hHx (by omega), hHy h16]
    exact ⟨rfl, rfl⟩
  have hCa : e_kd E z ≠ 2 → ∀ q, e_lo E z ≤ q → q < e_n E → CL E u1 H (fup F z (e_M E)) (fup bg z true) q := by
    intro h2 q h1 h3
    by_cases e : q = z
    · subst e; exact hCz h2
    · exact hCo q h1 h3 e
  by_cases hk2 : e_kd E z < 2
  · -- SOURCE, INTERVAL
    have hb : begs (e_kd E z) (ab E z) (ab E (e_xc E z)) (ab E (e_yc E z)) (e_oa E z) = [] := by unfold begs; rw [if_pos hk2]
    rw [hb, List.nil_append] at f7
    exact K (x + 1) u1 H _ _ (by omega) hI1 (hCa (by omega)) hX f7 (cb_pg hT0 hz hlz hbz hfr (Or.inl rfl) pg_refl fu_s ⟨fun h => by omega, fun h => by omega⟩) fu_s fu_s
  · by_cases hk : e_kd E z = 2
    · -- JUST
      have hb : begs (e_kd E z) (ab E z) (ab E (e_xc E z)) (ab E (e_yc E z)) (e_oa E z) = ots (ab E z) [(1, e_oa E z), (2, 0)] := by unfold begs; rw [if_neg hk2, if_pos hk]; rfl
      rw [hb] at f7
      have hlo := t5 z hz (by omega)
      rw [hlo] at hx hl
      have hRz2 : Rn E H (fup F z (e_M E)) z = (ini (e_kd E z) (e_oa E z) (e_ob E z) (e_t E), [(1, e_oa E z, e_M E), (2, 0, e_M E)]) := by
        unfold Rn RR
        rw [if_neg (by omega), if_pos hk, fu_s, hM]
      refine ca_list hT0 (hE hk) [(1, e_oa E z), (2, 0)] (x + 1) R u1 H _ _ hz hI1 (fun r h1 h2 => hCo r (by omega) h2 (by omega)) hX (fun q h1 h2 => hK q (by omega) h2) fu_s (fun _ => by rw [i7 z hz hbz]; rfl) (rn_wfo_12 _) f7 (by simp; omega) (by simp; omega) ?_
      intro x' u' H' F' bg' k1 k2 k3 k4 k5 k6 k7 k8
      have hmz := k6.2.2.1 z hz fu_s
      rw [fu_s] at hmz
      simp only [List.length_cons, List.length_nil] at k1
      refine K x' u' H' F' bg' (by rw [hlo]; omega) k2 (fun q h1 h2 => ?_) k4 k5 (cb_pg hT0 hz hlz hbz hfr (z0 := e_n E) (Or.inr (fun w hw h16 _ _ => by have := t8 w hw h16; omega)) (by rw [hlo]; exact k6) hmz.2 ⟨fun h => by omega, fun h => by omega⟩) hmz.1 hmz.2
      by_cases e : q = z
      · subst e
        refine ⟨fun _ => ?_, fun hb => by rw [hmz.1] at hb; exact absurd hb (by decide)⟩
        rw [ca_Rn (H := H) (F := fup F q (e_M E)) (by rw [hmz.2, fu_s]) (fun h => by omega) (fun h => by omega), hRz2]
        have hH' : H' q = [(1, e_oa E q, e_M E), (2, 0, e_M E)] := by rw [k8, i7 q hz hbz]; rfl
        refine ⟨hH'.symm, fun hf => ?_⟩
        rw [hH'] at hf
        exact absurd hf (by simp [fin])
      · exact k3 q (by omega) h2
    · have h3 : 3 ≤ e_kd E z := by omega
      have hx6 := t6 z hz h3
      have hx9 : 3 * e3 (9 - z) + 1 ≤ e3 (9 - e_xc E z) := e3_lt (by omega)
      have hxl := t4 (e_xc E z) (by omega)
      have hXx : XB E H (e_xc E z) := by
        intro z' hz' h16 h19 hl2 hx2 e he
        by_cases hzz : z' = z
        · subst hzz; rw [hHy h16] at he; exact absurd he (by simp)
        · have h6 := t6 z' hz' (by omega)
          have hne : e_xc E z ≠ e_xc E z' := fun y => hzz (by rw [← h6.2.1, ← y]; exact hx6.2.1)
          have h1 := t10 (e_xc E z') (by omega) (e_xc E z) (by omega) (by omega)
          rw [hx6.2.1] at h1
          exact hX z' hz' h16 h19 (by omega) h1 e he
      have hXz : ∀ H', XB E H' (e_xc E z) → XB E H' z := by
        intro H' h z' hz' h16 h19 hl2 hx2 e he
        have h6 := t6 z' hz' (by omega)
        have h11 := t11 (e_xc E z') (by omega) z (by omega) hx2
        exact h z' hz' h16 h19 (by omega) (by omega) e he
      have hnbx : ∀ q, e_lo E (e_xc E z) ≤ q → q ≤ e_xc E z → fup bg z true q = false := fun q h1 h2 => by rw [fu_n (by omega)]; exact hnb q (by omega) (by omega)
      have hchx : ∀ q, q < e_n E → 19 ≤ e_kd E q → e_yc E q = e_xc E z → ∃ e ∈ H (e_xc E q), mt (e_kd E q) e.1 = true := by
        intro q hq hkq hyq
        have h8 := t8 q hq (by omega)
        have hqz : q = z := by rw [← h8.2.1, hyq]; exact hx6.2.1
        subst hqz
        omega
      by_cases hj : 16 ≤ e_kd E z ∧ e_kd E z < 19
      · -- a join: X, then Y
        have hb : begs (e_kd E z) (ab E z) (ab E (e_xc E z)) (ab E (e_yc E z)) (e_oa E z) ++ R = (0, ab E (e_xc E z), 0) :: (0, ab E (e_yc E z), 0) :: R := by unfold begs; rw [if_neg hk2, if_neg hk, if_pos hj]; rfl
        rw [hb] at f7
        have hy8 := t8 z hz hj.1
        have hy9 : 3 * e3 (9 - z) + 1 ≤ e3 (9 - e_yc E z) := e3_lt (by omega)
        refine hBx h3 (x + 1) ((0, ab E (e_yc E z), 0) :: R) u1 H _ _ (by omega) hI1 (fun q h1 h2 => hCa hk q (by omega) h2) hXx (by rw [hx6.2.2]; exact hK) hnbx (fun _ => by rw [hx6.2.1, fu_s]) hchx f7 (by rw [List.length_cons, hx6.2.2]; omega) (by rw [hx6.2.2]; omega) ?_
        intro x2 u2 H2 F2 bg2 k1 k2 k3 k4 k5 k6 k7 k8
        rw [hx6.2.2] at k1 k3 k6
        have hmz := k6.2.2.1 z hz fu_s
        rw [fu_s] at hmz
        have hyb2 : bg2 (e_yc E z) = false := k6.2.2.2.2.2 z hz hj.1 hj.2 fu_s (by rw [fu_n (by omega)]; exact hnb _ (by omega) (by omega)) (by omega)
        obtain ⟨j1, j2, j3, j4, j5, j6, j7, j8, j9, j10⟩ := k2
        refine hBy hj.1 hj.2 x2 R u2 H2 F2 bg2 (by omega) ⟨j1, j2, j3, j4, j5, j6, j7, j8, j9, j10⟩ (fun q h1 h2 => k3 q (by omega) h2) ?_ (fun q h1 h2 => hK q (by omega) h2) (fun q h1 h2 => cv_nb hT0 j8 (by omega) hyb2 _ q rfl h1 h2) (fun _ => by rw [hy8.2.1]; exact hmz.1) (fun q hq hkq hyq => ?_) k5 (by omega) ?_ ?_
        · intro z' hz' h16 h19 hl2 hx2 e he
          have h6 := t6 z' hz' (by omega)
          have hzz : z' ≠ z := by intro y; subst y; omega
          have hne : e_yc E z ≠ e_xc E z' := fun y => hzz (by rw [← h6.2.1, ← y]; exact hy8.2.1)
          have h1 := t10 (e_xc E z') (by omega) (e_yc E z) (by omega) (by omega)
          rw [hy8.2.1] at h1
          have h11 := t11 (e_xc E z') (by omega) z (by omega) h1
          exact k4 z' hz' h16 h19 (by omega) (by omega) e he
        · exfalso
          have h8 := t8 q hq (by omega)
          have hqz : q = z := by rw [← h8.2.1, hyq]; exact hy8.2.1
          subst hqz
          omega
        · rw [hy8.2.2.1, show 10 - (e_xc E z + 1) = 9 - e_xc E z from by omega]
          omega
        · intro x3 u3 H3 F3 bg3 m1 m2 m3 m4 m5 m6 m7 m8
          rw [hy8.2.2.1, show 10 - (e_xc E z + 1) = 9 - e_xc E z from by omega] at m1
          rw [hy8.2.2.1] at m3 m6
          have hmz3 := m6.2.2.1 z hz hmz.1
          have hmx3 := m6.2.2.1 _ (by omega) k7
          have hXz3 : XB E H3 z := by
            intro z' hz' h16 h19 hl2 hx2 e he
            have h6 := t6 z' hz' (by omega)
            have h11 := t11 (e_xc E z') (by omega) z (by omega) hx2
            exact m4 z' hz' h16 h19 (by omega) (by omega) e he
          have hdn : DN E F3 bg3 z := ⟨fun _ => ⟨hmx3.1, by rw [hmx3.2, k8, hmz3.2, hmz.2]⟩, fun _ _ => ⟨m7, by rw [m8, hmz3.2, hmz.2]⟩⟩
          have hpg12 : PG E (e_lo E z) (e_yc E z) u1 H (fup F z (e_M E)) (fup bg z true) u3 H3 F3 bg3 := by
            have k6' : PG E (e_lo E z) (e_yc E z) u1 H (fup F z (e_M E)) (fup bg z true) u2 H2 F2 bg2 := ⟨k6.1, k6.2.1, k6.2.2.1, k6.2.2.2.1, k6.2.2.2.2.1, fun w hw h16 h19 hbw hyw _ => k6.2.2.2.2.2 w hw h16 h19 hbw hyw (fun y => by
              have h8 := t8 w hw h16
              have hwz : w = z := by rw [← h8.2.1, y]; exact hx6.2.1
              subst hwz
              omega)⟩
            exact pg_trans hT0 k6' (pg_mono (by omega) m6)
          refine K x3 u3 H3 F3 bg3 (by omega) m2 (fun q h1 h2 => ?_) hXz3 m5 (cb_pg hT0 hz hlz hbz hfr (z0 := e_yc E z) (Or.inr (fun w hw h16 _ hwz y => hwz (by have h8 := t8 w hw h16; rw [← h8.2.1, y]; exact hy8.2.1))) hpg12 (hmz3.2.trans hmz.2) hdn) hmz3.1 (hmz3.2.trans hmz.2)
          rcases Nat.lt_or_ge (e_xc E z) q with y | y
          · exact m3 q (by omega) h2
          · have hq' := m6.2.1 q (by omega)
            exact ca_cl (k3 q (by omega) h2) hq'.1 hq'.2.1 hq'.2.2 (fun h3 => (m6.2.1 _ (by have := t6 q h2 h3; omega)).1) (fun h16 => (m6.2.1 _ (by have := t8 q h2 h16; omega)).1) (fun S h => m6.1.2.1 _ (Or.inl (by unfold ab; omega)) S h)
      · -- one child, or a chain
        have hb : begs (e_kd E z) (ab E z) (ab E (e_xc E z)) (ab E (e_yc E z)) (e_oa E z) ++ R = (0, ab E (e_xc E z), 0) :: R := by unfold begs; rw [if_neg hk2, if_neg hk, if_neg hj]; rfl
        rw [hb] at f7
        refine hBx h3 (x + 1) R u1 H _ _ (by omega) hI1 (fun q h1 h2 => hCa hk q (by omega) h2) hXx (by rw [hx6.2.2]; exact hK) hnbx (fun _ => by rw [hx6.2.1, fu_s]) hchx f7 (by rw [hx6.2.2]; omega) (by rw [hx6.2.2]; omega) ?_
        intro x2 u2 H2 F2 bg2 k1 k2 k3 k4 k5 k6 k7 k8
        rw [hx6.2.2] at k1 k3 k6
        have hmz := k6.2.2.1 z hz fu_s
        rw [fu_s] at hmz
        refine K x2 u2 H2 F2 bg2 (by omega) k2 k3 (hXz H2 k4) k5 (cb_pg hT0 hz hlz hbz hfr (z0 := e_xc E z) (Or.inr (fun w hw h16 _ hwz y => hwz (by have h8 := t8 w hw h16; rw [← h8.2.1, y]; exact hx6.2.1))) k6 hmz.2 ⟨fun _ => ⟨k7, by rw [k8, hmz.2]⟩, fun h16 h19 => absurd ⟨h16, h19⟩ hj⟩) hmz.1 hmz.2
end
section
/-! ===== the cascade, whole ===== -/
theorem cz_all {E : Env} {post : SX → Prop} (hT : TR E) (hM : tim (e_M E) = e_t E) (ht : e_t E ≤ 200) (hLG : (∀ q, q < e_n E → ∀ g ∈ e_lg E q, hrs (e_M E) g.2.2.2 = false) ∧ ∀ g ∈ e_LG E, hrs (e_M E) g.2.2.2 = false) :
    ∀ m, (∀ p, p < e_n E → 20 * (9 - p) ≤ m → EVT E post p) ∧ (∀ z, z < e_n E → 20 * (9 - e_lo E z) + 1 + (z - e_lo E z) ≤ m → BEG E post z) := by
  have hT0 := hT
  obtain ⟨t1, t2, t3, t4, t5, t6, t7, t8, t9, t10, t11⟩ := hT
  intro m
  induction m with
  | zero =>
    refine ⟨fun p hp h => ?_, fun z hz h => ?_⟩
    · omega
    · omega
  | succ m ih =>
    refine ⟨fun p hp h => ?_, fun z hz h => ?_⟩
    · by_cases hr : p + 1 = e_n E
      · exact cw_root hT0 hM hr
      · have h9 := t9 p (by omega)
        refine cw_evt hT0 hM ht (by omega) (ih.1 _ h9.2.1 (by omega)) (fun z hz hl => ih.2 z hz ?_)
        have := t4 z hz
        omega
    · have hlz := t4 z hz
      refine cb_beg hT0 hM ht hLG (fun hk => ?_) (fun h3 => ?_) (fun h16 h19 => ?_)
      · have := t5 z hz (by omega)
        exact ih.1 z hz (by omega)
      · have h6 := t6 z hz h3
        have h4 := t4 (e_xc E z) (by omega)
        exact ih.2 _ (by omega) (by omega)
      · have h6 := t6 z hz (by omega)
        have h8 := t8 z hz h16
        have h4 := t4 (e_xc E z) (by omega)
        exact ih.2 _ (by omega) (by omega)
theorem cz_evt {E : Env} {post : SX → Prop} (hT : TR E) (hM : tim (e_M E) = e_t E) (ht : e_t E ≤ 200) (hLG : (∀ q, q < e_n E → ∀ g ∈ e_lg E q, hrs (e_M E) g.2.2.2 = false) ∧ ∀ g ∈ e_LG E, hrs (e_M E) g.2.2.2 = false) {p : Nat} (hp : p < e_n E) : EVT E post p := (cz_all hT hM ht hLG (20 * (9 - p))).1 p hp (Nat.le_refl _)
theorem cz_beg {E : Env} {post : SX → Prop} (hT : TR E) (hM : tim (e_M E) = e_t E) (ht : e_t E ≤ 200) (hLG : (∀ q, q < e_n E → ∀ g ∈ e_lg E q, hrs (e_M E) g.2.2.2 = false) ∧ ∀ g ∈ e_LG E, hrs (e_M E) g.2.2.2 = false) {z : Nat} (hz : z < e_n E) : BEG E post z := (cz_all hT hM ht hLG _).2 z hz (Nat.le_refl _)
end
section
/-! ===== stage tables, sizes, the layout of a stage's parts ===== -/
def szF (K A B : Nat → Nat) : Nat → Nat → Nat
  | 0, _ => 1
  | f + 1, s => if K s < 3 then 1 else if K s < 16 then 1 + szF K A B f (A s) else 1 + szF K A B f (A s) + szF K A B f (B s)
def sz (K A B : Nat → Nat) (s : Nat) : Nat := szF K A B 13 s
def TB (K A B : Nat → Nat) (ns : Nat) : Prop := ns ≤ 12 ∧ ∀ s, s < ns → K s ≤ 20 ∧ (3 ≤ K s → A s < s) ∧ (16 ≤ K s → B s < s)
theorem tr_szF {K A B : Nat → Nat} {ns : Nat} (h : TB K A B ns) : ∀ f s, s < ns → s < f → szF K A B f s = szF K A B (f + 1) s := by
  intro f
  induction f with
  | zero => intro s _ h; omega
  | succ f ih =>
    intro s hs hf
    have hb := h.2 s hs
    show (if K s < 3 then 1 else if K s < 16 then 1 + szF K A B f (A s) else 1 + szF K A B f (A s) + szF K A B f (B s)) = (if K s < 3 then 1 else if K s < 16 then 1 + szF K A B (f + 1) (A s) else 1 + szF K A B (f + 1) (A s) + szF K A B (f + 1) (B s))
    by_cases h3 : K s < 3
    · rw [if_pos h3, if_pos h3]
    · rw [if_neg h3, if_neg h3]
      have ha := hb.2.1 (by omega)
      rw [ih (A s) (by omega) (by omega)]
      by_cases h16 : K s < 16
      · rw [if_pos h16, if_pos h16]
      · have hbb := hb.2.2 (by omega)
        rw [if_neg h16, if_neg h16, ih (B s) (by omega) (by omega)]
theorem tr_sz {K A B : Nat → Nat} {ns : Nat} (h : TB K A B ns) {s : Nat} (hs : s < ns) : sz K A B s = if K s < 3 then 1 else if K s < 16 then 1 + sz K A B (A s) else 1 + sz K A B (A s) + sz K A B (B s) := by
  have hb := h.2 s hs
  have h12 := h.1
  unfold sz
  show (if K s < 3 then 1 else if K s < 16 then 1 + szF K A B 12 (A s) else 1 + szF K A B 12 (A s) + szF K A B 12 (B s)) = _
  by_cases h3 : K s < 3
  · rw [if_pos h3, if_pos h3]
  · rw [if_neg h3, if_neg h3]
    have ha := hb.2.1 (by omega)
    rw [tr_szF h 12 (A s) (by omega) (by omega)]
    by_cases h16 : K s < 16
    · rw [if_pos h16, if_pos h16]
    · have hbb := hb.2.2 (by omega)
      rw [if_neg h16, if_neg h16, tr_szF h 12 (B s) (by omega) (by omega)]
theorem tr_sz3 {K A B : Nat → Nat} {ns : Nat} (h : TB K A B ns) {s : Nat} (hs : s < ns) (k : K s < 3) : sz K A B s = 1 := by rw [tr_sz h hs, if_pos k]
theorem tr_sz1 {K A B : Nat → Nat} {ns : Nat} (h : TB K A B ns) {s : Nat} (hs : s < ns) (k : 3 ≤ K s) (k2 : K s < 16) : sz K A B s = 1 + sz K A B (A s) := by rw [tr_sz h hs, if_neg (by omega), if_pos k2]
theorem tr_sz2 {K A B : Nat → Nat} {ns : Nat} (h : TB K A B ns) {s : Nat} (hs : s < ns) (k : 16 ≤ K s) : sz K A B s = 1 + sz K A B (A s) + sz K A B (B s) := by rw [tr_sz h hs, if_neg (by omega), if_neg (by omega)]
theorem tr_pos {K A B : Nat → Nat} {ns : Nat} (h : TB K A B ns) {s : Nat} (hs : s < ns) : 1 ≤ sz K A B s := by
  rw [tr_sz h hs]
  split
  · omega
  · split <;> omega
theorem tr_big {K A B : Nat → Nat} {ns : Nat} (h : TB K A B ns) : ∀ s, s < ns → sz K A B s < 2 ^ (s + 1) := by
  intro s
  induction s using Nat.strongRecOn with
  | ind s ih =>
    intro hs
    have hb := h.2 s hs
    have h1 : 2 ≤ 2 ^ (s + 1) := by
      have : 2 ^ 1 ≤ 2 ^ (s + 1) := Nat.pow_le_pow_right (by decide) (by omega)
      omega
    rcases Nat.lt_or_ge (K s) 3 with k | k
    · rw [tr_sz3 h hs k]; omega
    · have ha := hb.2.1 k
      have i1 := ih (A s) ha (by omega)
      have p1 : 2 ^ (A s + 1) ≤ 2 ^ s := Nat.pow_le_pow_right (by decide) (by omega)
      have p2 : 2 ^ (s + 1) = 2 * 2 ^ s := by rw [Nat.pow_succ]; omega
      rcases Nat.lt_or_ge (K s) 16 with k2 | k2
      · rw [tr_sz1 h hs k k2]; omega
      · have hbb := hb.2.2 k2
        have i2 := ih (B s) hbb (by omega)
        have p3 : 2 ^ (B s + 1) ≤ 2 ^ s := Nat.pow_le_pow_right (by decide) (by omega)
        rw [tr_sz2 h hs k2]; omega
theorem tr_big' {K A B : Nat → Nat} {ns : Nat} (h : TB K A B ns) {s : Nat} (hs : s < ns) : sz K A B s < 8192 := by
  have := tr_big h s hs
  have h2 : 2 ^ (s + 1) ≤ 2 ^ 13 := Nat.pow_le_pow_right (by decide) (by have := h.1; omega)
  omega
/-- sg, us lay out stage s from part b on -/
def LYf (K A B sg us : Nat → Nat) : Nat → Nat → Nat → Prop
  | 0, _, _ => False
  | f + 1, b, s => sg (b + sz K A B s - 1) = s ∧ (3 ≤ K s → LYf K A B sg us f b (A s) ∧ us (b + sz K A B (A s) - 1) = b + sz K A B s - 1) ∧ (16 ≤ K s → LYf K A B sg us f (b + sz K A B (A s)) (B s) ∧ us (b + sz K A B s - 2) = b + sz K A B s - 1)
def xcf (K A B sg : Nat → Nat) (p : Nat) : Nat := if K (sg p) < 16 then p - 1 else p - 1 - sz K A B (B (sg p))
def ycf (p : Nat) : Nat := p - 1
def lof (K A B sg : Nat → Nat) (p : Nat) : Nat := p + 1 - sz K A B (sg p)
def Lok (K A B sg us : Nat → Nat) (ns b s : Nat) : Prop :=
  (∀ p, b ≤ p → p < b + sz K A B s → sg p < ns ∧ b + sz K A B (sg p) ≤ p + 1 ∧
    (3 ≤ K (sg p) → b ≤ xcf K A B sg p ∧ xcf K A B sg p < p ∧ us (xcf K A B sg p) = p ∧ sg (xcf K A B sg p) = A (sg p)) ∧
    (16 ≤ K (sg p) → us (p - 1) = p ∧ sg (p - 1) = B (sg p) ∧ xcf K A B sg p < p - 1) ∧
    (p + 1 < b + sz K A B s → p < us p ∧ us p < b + sz K A B s ∧ 3 ≤ K (sg (us p)) ∧ (xcf K A B sg (us p) = p ∨ (16 ≤ K (sg (us p)) ∧ us p - 1 = p)))) ∧
  (∀ w, b ≤ w → w < b + sz K A B s → ∀ p, lof K A B sg w ≤ p → (p < w → us p ≤ w) ∧ (p ≤ w → lof K A B sg w ≤ lof K A B sg p))
theorem tr_root {K A B sg us : Nat → Nat} {f b s : Nat} (h : LYf K A B sg us f b s) : sg (b + sz K A B s - 1) = s := by
  cases f with
  | zero => exact absurd h (by intro z; exact z)
  | succ f => exact h.1
theorem tr_ok {K A B sg us : Nat → Nat} {ns : Nat} (h : TB K A B ns) : ∀ f b s, s < ns → LYf K A B sg us f b s → Lok K A B sg us ns b s := by
  intro f
  induction f with
  | zero => intro b s _ z; exact absurd z (by intro z; exact z)
  | succ f ih =>
    intro b s hs ⟨l1, l2, l3⟩
    have hb := h.2 s hs
    have hpos := tr_pos h hs
    rcases Nat.lt_or_ge (K s) 3 with k | k
    · have e1 := tr_sz3 h hs k
      rw [e1] at l1
      have hbs : sg b = s := by rw [← l1]; congr 1
      refine ⟨fun p hp1 hp2 => ?_, fun w hw1 hw2 p hp => ?_⟩
      · rw [e1] at hp2
        have : p = b := by omega
        subst this
        rw [hbs, e1]
        exact ⟨hs, by omega, fun z => by omega, fun z => by omega, fun z => by omega⟩
      · rw [e1] at hw2
        have : w = b := by omega
        subst this
        unfold lof at hp ⊢
        rw [hbs, e1] at hp
        refine ⟨fun z => by omega, fun z => ?_⟩
        have : p = w := by omega
        subst this
        exact Nat.le_refl _
    · have ha := hb.2.1 k
      have han : A s < ns := by omega
      obtain ⟨l2a, l2b⟩ := l2 k
      have oka := ih b (A s) han l2a
      have ra := tr_root l2a
      have pa := tr_pos h han
      rcases Nat.lt_or_ge (K s) 16 with k2 | k2
      · have e1 := tr_sz1 h hs k k2
        have er : sg (b + sz K A B (A s)) = s := by
          rw [show b + sz K A B (A s) = b + sz K A B s - 1 from by omega]; exact l1
        have eu : us (b + sz K A B (A s) - 1) = b + sz K A B (A s) := by rw [l2b, e1]; omega
        have exr : xcf K A B sg (b + sz K A B (A s)) = b + sz K A B (A s) - 1 := by unfold xcf; rw [er, if_pos k2]
        have elo : lof K A B sg (b + sz K A B (A s)) = b := by unfold lof; rw [er, e1]; omega
        refine ⟨fun p hp1 hp2 => ?_, fun w hw1 hw2 p hp => ?_⟩
        · by_cases hr : p = b + sz K A B (A s)
          · subst hr
            rw [exr, eu, er, ra, e1]
            exact ⟨hs, by omega, fun _ => ⟨by omega, by omega, rfl, rfl⟩, fun z => by omega, fun z => by omega⟩
          · obtain ⟨q1, q2, q3, q4, q5⟩ := oka.1 p hp1 (by omega)
            refine ⟨q1, q2, q3, q4, fun _ => ?_⟩
            by_cases hl : p + 1 < b + sz K A B (A s)
            · have := q5 hl
              exact ⟨this.1, by omega, this.2.2.1, this.2.2.2⟩
            · have hpe : p = b + sz K A B (A s) - 1 := by omega
              rw [hpe, eu, er, exr]
              exact ⟨by omega, by omega, k, Or.inl rfl⟩
        · by_cases hr : w = b + sz K A B (A s)
          · subst hr
            rw [elo] at hp ⊢
            refine ⟨fun z => ?_, fun z => ?_⟩
            · by_cases hl : p + 1 < b + sz K A B (A s)
              · have := (oka.1 p hp (by omega)).2.2.2.2 hl; omega
              · have hpe : p = b + sz K A B (A s) - 1 := by omega
                rw [hpe, eu]; exact Nat.le_refl _
            · by_cases hpr : p = b + sz K A B (A s)
              · rw [hpr, elo]; exact Nat.le_refl _
              · have := (oka.1 p hp (by omega)).2.1
                unfold lof; omega
          · exact oka.2 w hw1 (by omega) p hp
      · have e1 := tr_sz2 h hs k2
        have hbb := hb.2.2 k2
        have hbn : B s < ns := by omega
        obtain ⟨l3a, l3b⟩ := l3 k2
        have okb := ih (b + sz K A B (A s)) (B s) hbn l3a
        have rb := tr_root l3a
        have pb := tr_pos h hbn
        have er : sg (b + sz K A B (A s) + sz K A B (B s)) = s := by
          rw [show b + sz K A B (A s) + sz K A B (B s) = b + sz K A B s - 1 from by omega]; exact l1
        have eu : us (b + sz K A B (A s) - 1) = b + sz K A B (A s) + sz K A B (B s) := by rw [l2b, e1]; omega
        have eu2 : us (b + sz K A B (A s) + sz K A B (B s) - 1) = b + sz K A B (A s) + sz K A B (B s) := by
          have : b + sz K A B s - 2 = b + sz K A B (A s) + sz K A B (B s) - 1 := by omega
          rw [← this, l3b, e1]; omega
        have exr : xcf K A B sg (b + sz K A B (A s) + sz K A B (B s)) = b + sz K A B (A s) - 1 := by unfold xcf; rw [er, if_neg (by omega)]; omega
        have elo : lof K A B sg (b + sz K A B (A s) + sz K A B (B s)) = b := by unfold lof; rw [er, e1]; omega
        have hin : ∀ p, b ≤ p → p < b + sz K A B (A s) + sz K A B (B s) → p < us p ∧ us p ≤ b + sz K A B (A s) + sz K A B (B s) ∧ 3 ≤ K (sg (us p)) ∧ (xcf K A B sg (us p) = p ∨ (16 ≤ K (sg (us p)) ∧ us p - 1 = p)) := by
          intro p hp1 hp2
          rcases Nat.lt_or_ge p (b + sz K A B (A s)) with z | z
          · by_cases hl : p + 1 < b + sz K A B (A s)
            · have := (oka.1 p hp1 z).2.2.2.2 hl
              exact ⟨this.1, by omega, this.2.2.1, this.2.2.2⟩
            · have hpe : p = b + sz K A B (A s) - 1 := by omega
              rw [hpe, eu, er, exr]
              exact ⟨by omega, by omega, k, Or.inl rfl⟩
          · by_cases hl : p + 1 < b + sz K A B (A s) + sz K A B (B s)
            · have := (okb.1 p z hp2).2.2.2.2 hl
              exact ⟨this.1, by omega, this.2.2.1, this.2.2.2⟩
            · have hpe : p = b + sz K A B (A s) + sz K A B (B s) - 1 := by omega
              rw [hpe, eu2, er]
              exact ⟨by omega, by omega, k, Or.inr ⟨k2, rfl⟩⟩
        refine ⟨fun p hp1 hp2 => ?_, fun w hw1 hw2 p hp => ?_⟩
        · by_cases hr : p = b + sz K A B (A s) + sz K A B (B s)
          · subst hr
            rw [exr, eu, eu2, er, ra, rb, e1]
            exact ⟨hs, by omega, fun _ => ⟨by omega, by omega, rfl, rfl⟩, fun _ => ⟨rfl, rfl, by omega⟩, fun z => by omega⟩
          · have h5 := hin p hp1 (by omega)
            rcases Nat.lt_or_ge p (b + sz K A B (A s)) with z | z
            · obtain ⟨q1, q2, q3, q4, q5⟩ := oka.1 p hp1 z
              exact ⟨q1, q2, q3, q4, fun _ => ⟨h5.1, by omega, h5.2.2⟩⟩
            · obtain ⟨q1, q2, q3, q4, q5⟩ := okb.1 p z (by omega)
              exact ⟨q1, by omega, fun z3 => by have := q3 z3; exact ⟨by omega, this.2.1, this.2.2⟩, q4, fun _ => ⟨h5.1, by omega, h5.2.2⟩⟩
        · by_cases hr : w = b + sz K A B (A s) + sz K A B (B s)
          · subst hr
            rw [elo] at hp ⊢
            refine ⟨fun z => (hin p hp z).2.1, fun z => ?_⟩
            by_cases hpr : p = b + sz K A B (A s) + sz K A B (B s)
            · rw [hpr, elo]; exact Nat.le_refl _
            · rcases Nat.lt_or_ge p (b + sz K A B (A s)) with y | y
              · have := (oka.1 p hp y).2.1
                unfold lof; omega
              · have := (okb.1 p y (by omega)).2.1
                unfold lof; omega
          · rcases Nat.lt_or_ge w (b + sz K A B (A s)) with y | y
            · exact oka.2 w hw1 y p hp
            · exact okb.2 w y (by omega) p hp
/-- a layout exists -/
theorem tr_ext {K A B sg us sg' us' : Nat → Nat} {ns : Nat} (h : TB K A B ns) : ∀ f b s, s < ns → LYf K A B sg us f b s → (∀ p, b ≤ p → p < b + sz K A B s → sg' p = sg p) → (∀ p, b ≤ p → p + 1 < b + sz K A B s → us' p = us p) → LYf K A B sg' us' f b s := by
  intro f
  induction f with
  | zero => intro b s _ z; exact absurd z (by intro z; exact z)
  | succ f ih =>
    intro b s hs ⟨l1, l2, l3⟩ h1 h2
    have hpos := tr_pos h hs
    have hb := h.2 s hs
    refine ⟨by rw [h1 _ (by omega) (by omega)]; exact l1, fun k => ?_, fun k => ?_⟩
    · have ha := hb.2.1 k
      have pa := tr_pos h (show A s < ns by omega)
      have he : sz K A B (A s) + 1 ≤ sz K A B s := by
        rcases Nat.lt_or_ge (K s) 16 with k2 | k2
        · rw [tr_sz1 h hs k k2]; omega
        · rw [tr_sz2 h hs k2]; omega
      obtain ⟨q1, q2⟩ := l2 k
      exact ⟨ih b (A s) (by omega) q1 (fun p p1 p2 => h1 p p1 (by omega)) (fun p p1 p2 => h2 p p1 (by omega)), by rw [h2 _ (by omega) (by omega)]; exact q2⟩
    · have ha := hb.2.1 (by omega)
      have hbb := hb.2.2 k
      have pa := tr_pos h (show A s < ns by omega)
      have pb := tr_pos h (show B s < ns by omega)
      have he := tr_sz2 h hs k
      obtain ⟨q1, q2⟩ := l3 k
      exact ⟨ih _ (B s) (by omega) q1 (fun p p1 p2 => h1 p (by omega) (by omega)) (fun p p1 p2 => h2 p (by omega) (by omega)), by rw [h2 _ (by omega) (by omega)]; exact q2⟩
theorem tr_exists {K A B : Nat → Nat} {ns : Nat} (h : TB K A B ns) : ∀ f s, s < ns → s < f → ∀ b, ∃ sg us : Nat → Nat, LYf K A B sg us f b s := by
  intro f
  induction f with
  | zero => intro s _ z; omega
  | succ f ih =>
    intro s hs hf b
    have hb := h.2 s hs
    rcases Nat.lt_or_ge (K s) 3 with k | k
    · exact ⟨fun _ => s, fun _ => 0, rfl, fun z => by omega, fun z => by omega⟩
    · have ha := hb.2.1 k
      have pa := tr_pos h (show A s < ns by omega)
      obtain ⟨sa, ua, la⟩ := ih (A s) (by omega) (by omega) b
      rcases Nat.lt_or_ge (K s) 16 with k2 | k2
      · have e1 := tr_sz1 h hs k k2
        refine ⟨fun p => if p = b + sz K A B s - 1 then s else sa p, fun p => if p = b + sz K A B (A s) - 1 then b + sz K A B s - 1 else ua p, if_pos rfl, fun _ => ⟨tr_ext h f b (A s) (by omega) la (fun p p1 p2 => if_neg (by omega)) (fun p p1 p2 => if_neg (by omega)), if_pos rfl⟩, fun z => by omega⟩
      · have e1 := tr_sz2 h hs k2
        have hbb := hb.2.2 k2
        have pb := tr_pos h (show B s < ns by omega)
        obtain ⟨sb, ub, lb⟩ := ih (B s) (by omega) (by omega) (b + sz K A B (A s))
        refine ⟨fun p => if p = b + sz K A B s - 1 then s else if p < b + sz K A B (A s) then sa p else sb p, fun p => if p = b + sz K A B (A s) - 1 ∨ p = b + sz K A B s - 2 then b + sz K A B s - 1 else if p < b + sz K A B (A s) then ua p else ub p, if_pos rfl, fun _ => ⟨tr_ext h f b (A s) (by omega) la (fun p p1 p2 => ?_) (fun p p1 p2 => ?_), if_pos (Or.inl rfl)⟩, fun _ => ⟨tr_ext h f _ (B s) (by omega) lb (fun p p1 p2 => ?_) (fun p p1 p2 => ?_), if_pos (Or.inr rfl)⟩⟩
        · rw [if_neg (by omega), if_pos (by omega)]
        · rw [if_neg (by omega), if_pos (by omega)]
        · rw [if_neg (by omega), if_neg (by omega)]
        · rw [if_neg (by omega), if_neg (by omega)]
/-- and is unique -/
theorem tr_uniq {K A B sg us sg' us' : Nat → Nat} {ns : Nat} (h : TB K A B ns) : ∀ f f' b s, s < ns → LYf K A B sg us f b s → LYf K A B sg' us' f' b s → (∀ p, b ≤ p → p < b + sz K A B s → sg' p = sg p) ∧ (∀ p, b ≤ p → p + 1 < b + sz K A B s → us' p = us p) := by
  intro f
  induction f with
  | zero => intro f' b s _ z; exact absurd z (by intro z; exact z)
  | succ f ih =>
    intro f' b s hs ⟨l1, l2, l3⟩ h'
    cases f' with
    | zero => exact absurd h' (by intro z; exact z)
    | succ f' =>
      obtain ⟨m1, m2, m3⟩ := h'
      have hb := h.2 s hs
      have hpos := tr_pos h hs
      rcases Nat.lt_or_ge (K s) 3 with k | k
      · have e1 := tr_sz3 h hs k
        refine ⟨fun p p1 p2 => ?_, fun p p1 p2 => by omega⟩
        have : p = b + sz K A B s - 1 := by omega
        rw [this, l1, m1]
      · have ha := hb.2.1 k
        have pa := tr_pos h (show A s < ns by omega)
        have ua := ih f' b (A s) (by omega) (l2 k).1 (m2 k).1
        rcases Nat.lt_or_ge (K s) 16 with k2 | k2
        · have e1 := tr_sz1 h hs k k2
          refine ⟨fun p p1 p2 => ?_, fun p p1 p2 => ?_⟩
          · by_cases e : p = b + sz K A B s - 1
            · rw [e, l1, m1]
            · exact ua.1 p p1 (by omega)
          · by_cases e : p = b + sz K A B (A s) - 1
            · rw [e, (l2 k).2, (m2 k).2]
            · exact ua.2 p p1 (by omega)
        · have e1 := tr_sz2 h hs k2
          have hbb := hb.2.2 k2
          have pb := tr_pos h (show B s < ns by omega)
          have ub := ih f' _ (B s) (by omega) (l3 k2).1 (m3 k2).1
          refine ⟨fun p p1 p2 => ?_, fun p p1 p2 => ?_⟩
          · by_cases e : p = b + sz K A B s - 1
            · rw [e, l1, m1]
            · rcases Nat.lt_or_ge p (b + sz K A B (A s)) with z | z
              · exact ua.1 p p1 z
              · exact ub.1 p z (by omega)
          · by_cases e : p = b + sz K A B (A s) - 1
            · rw [e, (l2 k).2, (m2 k).2]
            · by_cases e2 : p = b + sz K A B s - 2
              · rw [e2, (l3 k2).2, (m3 k2).2]
              · rcases Nat.lt_or_ge p (b + sz K A B (A s)) with z | z
                · exact ua.2 p p1 (by omega)
                · exact ub.2 p z (by omega)
end
section
/-! ===== clearing and laying out parts; the tree of an environment ===== -/
def mkE (id n t M h0 : Nat) (K A B sg us : Nat → Nat) (oa ob : Nat → Int32) (c : Nat → Nat) (lg : Nat → List Lg) (LG : List Lg) (s0 : Sb) : Env := (M, c, lg, t, LG, id, n, h0, fun p => K (sg p), us, xcf K A B sg, ycf, lof K A B sg, sg, fun p => oa (sg p), fun p => ob (sg p), s0)
theorem ly_TR {id t M h0 ns s : Nat} {K A B sg us : Nat → Nat} {oa ob : Nat → Int32} {c : Nat → Nat} {lg : Nat → List Lg} {LG : List Lg} {s0 : Sb} (hid : id < 3) (h : TB K A B ns) (hs : s < ns) (h9 : sz K A B s ≤ 9) (hL : Lok K A B sg us ns 0 s) : TR (mkE id (sz K A B s) t M h0 K A B sg us oa ob c lg LG s0) := by
  obtain ⟨L1, L2⟩ := hL
  have hp := tr_pos h hs
  refine ⟨hid, hp, h9, fun p hp => ?_, fun p hp k => ?_, fun p hp k => ?_, fun p hp k k2 => ?_, fun p hp k => ?_, fun p hp => ?_, fun w hw p h1 h2 => ?_, fun w hw p h1 h2 => ?_⟩
  · have hp' : p < sz K A B s := hp
    have q := L1 p (by omega) (by omega)
    have := tr_pos h q.1
    show lof K A B sg p ≤ p
    unfold lof; omega
  · have hp' : p < sz K A B s := hp
    have q := L1 p (by omega) (by omega)
    have k' : K (sg p) < 3 := k
    show lof K A B sg p = p
    unfold lof
    rw [tr_sz3 h q.1 k']; omega
  · have hp' : p < sz K A B s := hp
    have k' : 3 ≤ K (sg p) := k
    have q := L1 p (by omega) (by omega)
    have q3 := q.2.2.1 k'
    refine ⟨q3.2.1, q3.2.2.1, ?_⟩
    show lof K A B sg (xcf K A B sg p) = lof K A B sg p
    have qx := L1 (xcf K A B sg p) (by omega) (by omega)
    unfold lof
    rw [q3.2.2.2]
    have e : xcf K A B sg p = if K (sg p) < 16 then p - 1 else p - 1 - sz K A B (B (sg p)) := rfl
    rcases Nat.lt_or_ge (K (sg p)) 16 with k2 | k2
    · rw [if_pos k2] at e
      rw [tr_sz1 h q.1 k' k2, e]; omega
    · rw [if_neg (by omega)] at e
      have e2 := tr_sz2 h q.1 k2
      have hb := h.2 _ q.1
      have pa := tr_pos h (show A (sg p) < ns from by have := hb.2.1 k'; omega)
      have hq2 := q.2.1
      rw [e2] at hq2 ⊢
      rw [e]; omega
  · have hp' : p < sz K A B s := hp
    have k' : 3 ≤ K (sg p) := k
    have k2' : K (sg p) < 16 := k2
    have q := L1 p (by omega) (by omega)
    have q3 := q.2.2.1 k'
    show xcf K A B sg p + 1 = p
    have e : xcf K A B sg p = if K (sg p) < 16 then p - 1 else p - 1 - sz K A B (B (sg p)) := rfl
    rw [if_pos k2'] at e
    omega
  · have hp' : p < sz K A B s := hp
    have k' : 16 ≤ K (sg p) := k
    have q := L1 p (by omega) (by omega)
    have q4 := q.2.2.2.1 k'
    refine ⟨?_, q4.1, ?_, q4.2.2⟩
    · show p - 1 + 1 = p
      omega
    · show lof K A B sg (p - 1) = xcf K A B sg p + 1
      unfold lof
      rw [q4.2.1]
      have e : xcf K A B sg p = if K (sg p) < 16 then p - 1 else p - 1 - sz K A B (B (sg p)) := rfl
      rw [if_neg (by omega)] at e
      have e2 := tr_sz2 h q.1 k'
      have hb := h.2 _ q.1
      have pa := tr_pos h (show A (sg p) < ns from by have := hb.2.1 (by omega); omega)
      have hq2 := q.2.1
      rw [e2] at hq2
      rw [e]; omega
  · have hp' : p + 1 < sz K A B s := hp
    have q := (L1 p (by omega) (by omega)).2.2.2.2 (by omega)
    exact ⟨q.1, by have := q.2.1; show us p < sz K A B s; omega, q.2.2.1, q.2.2.2⟩
  · have hw' : w < sz K A B s := hw
    exact (L2 w (by omega) (by omega) p h1).1 h2
  · have hw' : w < sz K A B s := hw
    exact (L2 w (by omega) (by omega) p h1).2 h2
section
variable {f_time : Int32} {f_sent : Int32} {f_stageCount : Int32} {f_tasks : Int32} {a_sourceEnded : (Nat → Int32)} {a_stageKind : (Nat → Int32)} {a_stageA : (Nat → Int32)} {a_stageB : (Nat → Int32)} {a_stageParts : (Nat → Int32)} {a_partStage : (Nat → Int32)} {a_partUser : (Nat → Int32)} {a_partX : (Nat → Int32)} {a_partY : (Nat → Int32)} {a_phase : (Nat → Int32)} {a_beganAfter : (Nat → Int32)} {a_due : (Nat → Int32)} {a_count : (Nat → Int32)} {a_held : (Nat → Int32)} {a_heldY : (Nat → Int32)} {a_hasHeld : (Nat → Int32)} {a_hasHeldY : (Nat → Int32)} {a_queueSize : (Nat → Int32)} {a_queueIsOfX : (Nat → Int32)} {a_queueValue : (Nat → Int32)} {a_queueDue : (Nat → Int32)} {a_subStatus : (Nat → Int32)} {a_subCode : (Nat → Int32)} {a_subEnd : (Nat → Int32)} {a_subDemand : (Nat → Int64)} {a_subRequests : (Nat → Int32)} {a_subDelivered : (Nat → Int32)} {a_subWaiting : (Nat → Int32)} {a_waitValue : (Nat → Int32)} {a_history : (Nat → Int64)} {a_taskWhat : (Nat → Int32)} {a_taskPart : (Nat → Int32)} {a_taskValue : (Nat → Int32)}
def CLR (id m : Nat) (ph pu du co he hY hH hHY qs ph' pu' du' co' he' hY' hH' hHY' qs' : Nat → Int32) : Prop :=
  (∀ k, k < m → ph' (9 * id + k) = 0 ∧ pu' (9 * id + k) = -1 ∧ du' (9 * id + k) = -1 ∧ co' (9 * id + k) = 0 ∧ he' (9 * id + k) = 0 ∧ hY' (9 * id + k) = 0 ∧ hH' (9 * id + k) = 0 ∧ hHY' (9 * id + k) = 0 ∧ qs' (9 * id + k) = 0) ∧
  (∀ j, j < 9 * id ∨ 9 * id + m ≤ j → ph' j = ph j ∧ pu' j = pu j ∧ du' j = du j ∧ co' j = co j ∧ he' j = he j ∧ hY' j = hY j ∧ hH' j = hH j ∧ hHY' j = hHY j ∧ qs' j = qs j)
theorem xl_clr2 {post : SX → Prop} {id : Nat} (hid : id < 3)
    (H : ∀ ph pu du co he hY hH hHY qs : Nat → Int32, CLR id 9 a_phase a_partUser a_due a_count a_held a_heldY a_hasHeld a_hasHeldY a_queueSize ph pu du co he hY hH hHY qs → post (f_time, f_sent, f_stageCount, f_tasks, a_sourceEnded, a_stageKind, a_stageA, a_stageB, a_stageParts, a_partStage, pu, a_partX, a_partY, ph, a_beganAfter, du, co, he, hY, hH, hHY, qs, a_queueIsOfX, a_queueValue, a_queueDue, a_subStatus, a_subCode, a_subEnd, a_subDemand, a_subRequests, a_subDelivered, a_subWaiting, a_waitValue, a_history, a_taskWhat, a_taskPart, a_taskValue)) :
    ∀ (e m : Nat) (ph pu du co he hY hH hHY qs : Nat → Int32), m + e = 9 → CLR id m a_phase a_partUser a_due a_count a_held a_heldY a_hasHeld a_hasHeldY a_queueSize ph pu du co he hY hH hHY qs → wX_clearParts_2 post (nI (9 * id)) f_time f_sent f_stageCount f_tasks (e + 1) (nI m) a_sourceEnded a_stageKind a_stageA a_stageB a_stageParts a_partStage (pu) a_partX a_partY (ph) a_beganAfter (du) (co) (he) (hY) (hH) (hHY) (qs) a_queueIsOfX a_queueValue a_queueDue a_subStatus a_subCode a_subEnd a_subDemand a_subRequests a_subDelivered a_subWaiting a_waitValue a_history a_taskWhat a_taskPart a_taskValue := by
  intro e
  induction e with
  | zero =>
    intro m ph pu du co he hY hH hHY qs hm hc
    have : m = 9 := by omega
    subst this
    exact br_t (by decide) (H _ _ _ _ _ _ _ _ _ hc)
  | succ e ih =>
    intro m ph pu du co he hY hH hHY qs hm hc
    have hin : vp_in (nI (9 * id + m)) 27 := vp_in_nI (by omega) (by decide)
    have hcl : (nI (9 * id + m)).toNatClampNeg = 9 * id + m := nI_clamp (by omega)
    refine br_f (nI_ge (b := 9) (by omega) (by decide)) (nm_r (nI_add _ _) ⟨hin, nm_r (by rw [hcl]) ⟨hin, nm_r (by rw [hcl]) ⟨hin, nm_r (by rw [hcl]) ⟨hin, nm_r (by rw [hcl]) ⟨hin, nm_r (by rw [hcl]) ⟨hin, nm_r (by rw [hcl]) ⟨hin, nm_r (by rw [hcl]) ⟨hin, nm_r (by rw [hcl]) ⟨hin, nm_r (by rw [hcl]) (nm_r (nI_1 m) ?_)⟩⟩⟩⟩⟩⟩⟩⟩⟩)
    refine ih (m + 1) _ _ _ _ _ _ _ _ _ (by omega) ⟨fun k hk => ?_, fun j hj => ?_⟩
    · by_cases hkm : k = m
      · subst hkm
        exact ⟨pk_us, pk_us, pk_us, pk_us, pk_us, pk_us, pk_us, pk_us, pk_us⟩
      · have h := hc.1 k (by omega)
        have hn : 9 * id + k ≠ 9 * id + m := by omega
        rw [pk_un hn, pk_un hn, pk_un hn, pk_un hn, pk_un hn, pk_un hn, pk_un hn, pk_un hn, pk_un hn]
        exact h
    · have h := hc.2 j (by omega)
      have hn : j ≠ 9 * id + m := by omega
      rw [pk_un hn, pk_un hn, pk_un hn, pk_un hn, pk_un hn, pk_un hn, pk_un hn, pk_un hn, pk_un hn]
      exact h
theorem xl_clr {post : SX → Prop} {id : Nat} (hid : id < 3)
    (H : ∀ ph pu du co he hY hH hHY qs : Nat → Int32, CLR id 9 a_phase a_partUser a_due a_count a_held a_heldY a_hasHeld a_hasHeldY a_queueSize ph pu du co he hY hH hHY qs → post (f_time, f_sent, f_stageCount, f_tasks, a_sourceEnded, a_stageKind, a_stageA, a_stageB, a_stageParts, a_partStage, pu, a_partX, a_partY, ph, a_beganAfter, du, co, he, hY, hH, hHY, qs, a_queueIsOfX, a_queueValue, a_queueDue, a_subStatus, a_subCode, a_subEnd, a_subDemand, a_subRequests, a_subDelivered, a_subWaiting, a_waitValue, a_history, a_taskWhat, a_taskPart, a_taskValue)) : wpX_clearParts post (f_time, f_sent, f_stageCount, f_tasks, a_sourceEnded, a_stageKind, a_stageA, a_stageB, a_stageParts, a_partStage, a_partUser, a_partX, a_partY, a_phase, a_beganAfter, a_due, a_count, a_held, a_heldY, a_hasHeld, a_hasHeldY, a_queueSize, a_queueIsOfX, a_queueValue, a_queueDue, a_subStatus, a_subCode, a_subEnd, a_subDemand, a_subRequests, a_subDelivered, a_subWaiting, a_waitValue, a_history, a_taskWhat, a_taskPart, a_taskValue) (nI (9 * id)) :=
  ⟨10, xl_clr2 hid H 9 0 _ _ _ _ _ _ _ _ _ rfl ⟨fun k hk => absurd hk (by omega), fun j _ => ⟨rfl, rfl, rfl, rfl, rfl, rfl, rfl, rfl, rfl⟩⟩⟩
/-- the loop of layOutParts: parts from m on are done -/
def LI (id n m : Nat) (K A B sg us : Nat → Nat) (ps pu px py ps' pu' px' py' : Nat → Int32) : Prop :=
  (∀ p, p < n → p + 1 = n ∨ m ≤ us p → ps' (9 * id + p) = nI (sg p)) ∧
  (∀ p, p + 1 < n → m ≤ us p → pu' (9 * id + p) = nI (9 * id + us p)) ∧
  pu' (9 * id + (n - 1)) = -1 ∧
  (∀ p, m ≤ p → p < n → (3 ≤ K (sg p) → px' (9 * id + p) = nI (9 * id + xcf K A B sg p)) ∧ (16 ≤ K (sg p) → py' (9 * id + p) = nI (9 * id + (p - 1)))) ∧
  (∀ j, j < 9 * id ∨ 9 * id + 9 ≤ j → ps' j = ps j ∧ pu' j = pu j ∧ px' j = px j ∧ py' j = py j)
def TA (ns : Nat) (K A B : Nat → Nat) (sk sa sb sp : Nat → Int32) : Prop := ∀ σ, σ < ns → sk σ = nI (K σ) ∧ (3 ≤ K σ → sa σ = nI (A σ)) ∧ (16 ≤ K σ → sb σ = nI (B σ)) ∧ sp σ = nI (sz K A B σ)
theorem xl_low {a : Nat} (h : a < 1000) : nI a + (-1) < nI a := by
  cases a with
  | zero => decide
  | succ a => rw [pk_m1]; exact nI_lt (by omega) (by omega)
theorem xl_lay2 {post : SX → Prop} {id ns s : Nat} {K A B sg us : Nat → Nat} (hid : id < 3) (hT : TB K A B ns) (hs : s < ns) (h9 : sz K A B s ≤ 9) (hL : Lok K A B sg us ns 0 s) (hA : TA ns K A B a_stageKind a_stageA a_stageB a_stageParts)
    (H : ∀ ps pu px py : Nat → Int32, LI id (sz K A B s) 0 K A B sg us a_partStage a_partUser a_partX a_partY ps pu px py → post (f_time, f_sent, f_stageCount, f_tasks, a_sourceEnded, a_stageKind, a_stageA, a_stageB, a_stageParts, ps, pu, px, py, a_phase, a_beganAfter, a_due, a_count, a_held, a_heldY, a_hasHeld, a_hasHeldY, a_queueSize, a_queueIsOfX, a_queueValue, a_queueDue, a_subStatus, a_subCode, a_subEnd, a_subDemand, a_subRequests, a_subDelivered, a_subWaiting, a_waitValue, a_history, a_taskWhat, a_taskPart, a_taskValue)) :
    ∀ (m : Nat) (ps pu px py : Nat → Int32), m ≤ sz K A B s → LI id (sz K A B s) m K A B sg us a_partStage a_partUser a_partX a_partY ps pu px py → wX_layOutParts_10 post (nI (9 * id)) f_time f_sent f_stageCount f_tasks (m + 1) (nI (9 * id + m) + (-1)) a_sourceEnded a_stageKind a_stageA a_stageB a_stageParts (ps) (pu) (px) (py) a_phase a_beganAfter a_due a_count a_held a_heldY a_hasHeld a_hasHeldY a_queueSize a_queueIsOfX a_queueValue a_queueDue a_subStatus a_subCode a_subEnd a_subDemand a_subRequests a_subDelivered a_subWaiting a_waitValue a_history a_taskWhat a_taskPart a_taskValue := by
  intro m
  induction m with
  | zero =>
    intro ps pu px py hm hI
    exact br_t (xl_low (by omega)) (H _ _ _ _ hI)
  | succ p ih =>
    intro ps pu px py hm hI
    obtain ⟨I1, I2, I3, I4, I5⟩ := hI
    have hq := hL.1 p (by omega) (by omega)
    have e4 : nI (9 * id + (p + 1)) + (-1) = nI (9 * id + p) := by rw [show 9 * id + (p + 1) = 9 * id + p + 1 from by omega, pk_m1]
    have hin : vp_in (nI (9 * id + p)) 27 := vp_in_nI (by omega) (by decide)
    have hcl : (nI (9 * id + p)).toNatClampNeg = 9 * id + p := nI_clamp (by omega)
    have hsg : sg p < ns := hq.1
    have hsg12 : sg p < 12 := by have := hT.1; omega
    have hin12 : vp_in (nI (sg p)) 12 := vp_in_nI hsg12 (by decide)
    have hcs : (nI (sg p)).toNatClampNeg = sg p := nI_clamp (by omega)
    have htab := hA _ hsg
    have hTs := hT.2 _ hsg
    have hpsp : ps (9 * id + p) = nI (sg p) := by
      refine I1 p (by omega) ?_
      by_cases e : p + 1 = sz K A B s
      · exact Or.inl e
      · have := hq.2.2.2.2 (by omega); exact Or.inr (by omega)
    have hkk : a_stageKind (nI (sg p)).toNatClampNeg = nI (K (sg p)) := by rw [hcs]; exact htab.1
    rw [e4]
    refine br_f (nI_nlt (by omega) (by omega)) ⟨hin, nm_r (e' := nI (sg p)) (by rw [hcl]; exact hpsp) (nm_e ⟨hin12, ?_⟩)⟩
    -- those whose user is p are p's children
    have hch : ∀ r, r < sz K A B s → r + 1 ≠ sz K A B s → us r = p → 3 ≤ K (sg p) ∧ (r = xcf K A B sg p ∨ (16 ≤ K (sg p) ∧ r = p - 1)) := by
      intro r hr hr1 hu
      have := (hL.1 r (by omega) (by omega)).2.2.2.2 (by omega)
      rw [hu] at this
      refine ⟨this.2.2.1, ?_⟩
      rcases this.2.2.2 with z | z
      · exact Or.inl z.symm
      · exact Or.inr ⟨z.1, z.2.symm⟩
    by_cases k16 : K (sg p) < 16
    · refine br_t (by rw [hkk]; exact nI_lt (b := 16) k16 (by decide)) ⟨hin12, ?_⟩
      by_cases k3 : K (sg p) < 3
      · refine br_t (by rw [hkk]; exact nI_le (b := 2) (by omega) (by decide)) (nm_e ?_)
        refine ih ps pu px py (by omega) ⟨fun r hr ho => ?_, fun r hr ho => ?_, I3, fun r h1 h2 => ?_, I5⟩
        · refine I1 r hr ?_
          rcases ho with z | z
          · exact Or.inl z
          · by_cases e : us r = p
            · by_cases e1 : r + 1 = sz K A B s
              · exact Or.inl e1
              · have := hch r hr e1 e; omega
            · exact Or.inr (by omega)
        · refine I2 r hr ?_
          by_cases e : us r = p
          · have := hch r (by omega) (by omega) e; omega
          · omega
        · by_cases e : r = p
          · subst e; exact ⟨fun z => by omega, fun z => by omega⟩
          · exact I4 r (by omega) h2
      · have q3 := hq.2.2.1 (by omega)
        have ex : xcf K A B sg p = p - 1 := by unfold xcf; rw [if_pos k16]
        have e6 : nI (9 * id + p) - 1 = nI (9 * id + xcf K A B sg p) := by
          rw [ex, show (1 : Int32) = nI 1 from rfl, pk_sub (by omega)]; congr 1; omega
        have hin6 : vp_in (nI (9 * id + xcf K A B sg p)) 27 := vp_in_nI (by omega) (by decide)
        have hcl6 : (nI (9 * id + xcf K A B sg p)).toNatClampNeg = 9 * id + xcf K A B sg p := nI_clamp (by omega)
        rw [e6]
        refine br_f (by rw [hkk]; exact nI_ge (a := 2) (by omega) (by omega)) ⟨hin12, hin6, nm_r (e' := upd ps (9 * id + xcf K A B sg p) (nI (A (sg p)))) (by rw [hcl6, hcs, htab.2.1 (by omega)]) ⟨hin6, nm_r (e' := upd pu (9 * id + xcf K A B sg p) (nI (9 * id + p))) (by rw [hcl6]) ⟨hin, nm_r (e' := upd px (9 * id + p) (nI (9 * id + xcf K A B sg p))) (by rw [hcl]) (nm_e ?_)⟩⟩⟩
        refine ih _ _ _ _ (by omega) ⟨fun r hr ho => ?_, fun r hr ho => ?_, ?_, fun r h1 h2 => ?_, fun j hj => ?_⟩
        · by_cases e : r = xcf K A B sg p
          · subst e; rw [pk_us, q3.2.2.2]
          · rw [pk_un (by omega)]
            refine I1 r hr ?_
            by_cases e1 : r + 1 = sz K A B s
            · exact Or.inl e1
            · refine Or.inr ?_
              rcases ho with z | z
              · exact absurd z e1
              · by_cases e2 : us r = p
                · have := (hch r hr e1 e2).2; omega
                · omega
        · by_cases e : r = xcf K A B sg p
          · subst e; rw [pk_us, q3.2.2.1]
          · rw [pk_un (by omega)]
            refine I2 r hr ?_
            by_cases e2 : us r = p
            · have := (hch r (by omega) (by omega) e2).2; omega
            · omega
        · rw [pk_un (by omega)]; exact I3
        · by_cases e : r = p
          · subst e; exact ⟨fun _ => pk_us, fun z => by omega⟩
          · rw [pk_un (by omega)]; exact I4 r (by omega) h2
        · have := I5 j hj
          rw [pk_un (by omega), pk_un (by omega), pk_un (by omega)]
          exact this
    · have q3 := hq.2.2.1 (by omega)
      have q4 := hq.2.2.2.1 (by omega)
      have ex : xcf K A B sg p = p - 1 - sz K A B (B (sg p)) := by unfold xcf; rw [if_neg k16]
      have hBs := hTs.2.2 (by omega)
      have hAs := hTs.2.1 (by omega)
      have htb := hA _ (show B (sg p) < ns by omega)
      have h2s := tr_sz2 hT hsg (by omega)
      have pAs := tr_pos hT (show A (sg p) < ns by omega)
      have hq2 := hq.2.1
      have e7 : nI (9 * id + p) - 1 = nI (9 * id + (p - 1)) := by
        rw [show (1 : Int32) = nI 1 from rfl, pk_sub (by omega)]; congr 1; omega
      have hin7 : vp_in (nI (9 * id + (p - 1))) 27 := vp_in_nI (by omega) (by decide)
      have hcl7 : (nI (9 * id + (p - 1))).toNatClampNeg = 9 * id + (p - 1) := nI_clamp (by omega)
      have hin6 : vp_in (nI (9 * id + xcf K A B sg p)) 27 := vp_in_nI (by omega) (by decide)
      have hcl6 : (nI (9 * id + xcf K A B sg p)).toNatClampNeg = 9 * id + xcf K A B sg p := nI_clamp (by omega)
      have hsb : a_stageB (nI (sg p)).toNatClampNeg = nI (B (sg p)) := by rw [hcs]; exact htab.2.2.1 (by omega)
      have e6 : nI (9 * id + (p - 1)) - a_stageParts (a_stageB (nI (sg p)).toNatClampNeg).toNatClampNeg = nI (9 * id + xcf K A B sg p) := by
        rw [hsb, nI_clamp (by have := hT.1; omega), htb.2.2.2, pk_sub (by omega), ex]; congr 1; omega
      refine br_f (by rw [hkk]; exact nI_nlt (b := 16) (by omega) (by omega)) (nm_r e7 ⟨hin12, hin7, nm_r (e' := upd ps (9 * id + (p - 1)) (nI (B (sg p)))) (by rw [hcl7, hsb]) ⟨hin7, nm_r (e' := upd pu (9 * id + (p - 1)) (nI (9 * id + p))) (by rw [hcl7]) ⟨hin, nm_r (e' := upd py (9 * id + p) (nI (9 * id + (p - 1)))) (by rw [hcl]) ⟨hin12, by rw [hsb]; exact vp_in_nI (by have := hT.1; omega) (by decide), nm_r e6 ⟨hin12, ?_⟩⟩⟩⟩⟩)
      refine br_f (by rw [hkk]; exact nI_ge (a := 2) (by omega) (by omega)) ⟨hin12, hin6, nm_r (e' := upd (upd ps (9 * id + (p - 1)) (nI (B (sg p)))) (9 * id + xcf K A B sg p) (nI (A (sg p)))) (by rw [hcl6, hcs, htab.2.1 (by omega)]) ⟨hin6, nm_r (e' := upd (upd pu (9 * id + (p - 1)) (nI (9 * id + p))) (9 * id + xcf K A B sg p) (nI (9 * id + p))) (by rw [hcl6]) ⟨hin, nm_r (e' := upd px (9 * id + p) (nI (9 * id + xcf K A B sg p))) (by rw [hcl]) (nm_e ?_)⟩⟩⟩
      refine ih _ _ _ _ (by omega) ⟨fun r hr ho => ?_, fun r hr ho => ?_, ?_, fun r h1 h2 => ?_, fun j hj => ?_⟩
      · by_cases e : r = xcf K A B sg p
        · subst e; rw [pk_us, q3.2.2.2]
        · rw [pk_un (by omega)]
          by_cases e' : r = p - 1
          · subst e'; rw [pk_us, q4.2.1]
          · rw [pk_un (by omega)]
            refine I1 r hr ?_
            by_cases e1 : r + 1 = sz K A B s
            · exact Or.inl e1
            · refine Or.inr ?_
              rcases ho with z | z
              · exact absurd z e1
              · by_cases e2 : us r = p
                · have := (hch r hr e1 e2).2; omega
                · omega
      · by_cases e : r = xcf K A B sg p
        · subst e; rw [pk_us, q3.2.2.1]
        · rw [pk_un (by omega)]
          by_cases e' : r = p - 1
          · subst e'; rw [pk_us, q4.1]
          · rw [pk_un (by omega)]
            refine I2 r hr ?_
            by_cases e2 : us r = p
            · have := (hch r (by omega) (by omega) e2).2; omega
            · omega
      · rw [pk_un (by omega), pk_un (by omega)]; exact I3
      · by_cases e : r = p
        · subst e; exact ⟨fun _ => pk_us, fun _ => pk_us⟩
        · rw [pk_un (by omega), pk_un (by omega)]; exact I4 r (by omega) h2
      · have := I5 j hj
        rw [pk_un (by omega), pk_un (by omega), pk_un (by omega), pk_un (by omega), pk_un (by omega), pk_un (by omega)]
        exact this
theorem xl_lay {post : SX → Prop} {id ns s : Nat} {K A B sg us : Nat → Nat} (hid : id < 3) (hT : TB K A B ns) (hs : s < ns) (h9 : sz K A B s ≤ 9) (hL : Lok K A B sg us ns 0 s) (hr : sg (sz K A B s - 1) = s) (hA : TA ns K A B a_stageKind a_stageA a_stageB a_stageParts) (hpu : ∀ k, k < 9 → a_partUser (9 * id + k) = -1)
    (H : ∀ ps pu px py : Nat → Int32, LI id (sz K A B s) 0 K A B sg us a_partStage a_partUser a_partX a_partY ps pu px py → post (f_time, f_sent, f_stageCount, f_tasks, a_sourceEnded, a_stageKind, a_stageA, a_stageB, a_stageParts, ps, pu, px, py, a_phase, a_beganAfter, a_due, a_count, a_held, a_heldY, a_hasHeld, a_hasHeldY, a_queueSize, a_queueIsOfX, a_queueValue, a_queueDue, a_subStatus, a_subCode, a_subEnd, a_subDemand, a_subRequests, a_subDelivered, a_subWaiting, a_waitValue, a_history, a_taskWhat, a_taskPart, a_taskValue)) :
    wpX_layOutParts post (f_time, f_sent, f_stageCount, f_tasks, a_sourceEnded, a_stageKind, a_stageA, a_stageB, a_stageParts, a_partStage, a_partUser, a_partX, a_partY, a_phase, a_beganAfter, a_due, a_count, a_held, a_heldY, a_hasHeld, a_hasHeldY, a_queueSize, a_queueIsOfX, a_queueValue, a_queueDue, a_subStatus, a_subCode, a_subEnd, a_subDemand, a_subRequests, a_subDelivered, a_subWaiting, a_waitValue, a_history, a_taskWhat, a_taskPart, a_taskValue) (nI (9 * id)) (nI (9 * id + (sz K A B s - 1))) (nI s) := by
  have hp := tr_pos hT hs
  have hcl : (nI (9 * id + (sz K A B s - 1))).toNatClampNeg = 9 * id + (sz K A B s - 1) := nI_clamp (by omega)
  refine ⟨vp_in_nI (by omega) (by decide), nm_r (e' := upd a_partStage (9 * id + (sz K A B s - 1)) (nI s)) (by rw [hcl]) ⟨sz K A B s + 1, ?_⟩⟩
  have e4 : nI (9 * id + (sz K A B s - 1)) = nI (9 * id + sz K A B s) + (-1) := by
    rw [show 9 * id + sz K A B s = 9 * id + (sz K A B s - 1) + 1 from by omega, pk_m1]
  rw [e4]
  refine xl_lay2 hid hT hs h9 hL hA ?_ (sz K A B s) _ _ _ _ (Nat.le_refl _) ⟨fun p hp1 ho => ?_, fun p hp1 ho => ?_, hpu _ (by omega), fun p h1 h2 => by omega, fun j hj => ⟨pk_un (by omega), rfl, rfl, rfl⟩⟩
  · intro ps pu px py hI
    exact H ps pu px py ⟨hI.1, hI.2.1, hI.2.2.1, hI.2.2.2.1, fun j hj => by have := hI.2.2.2.2 j hj; exact this⟩
  · by_cases e : p + 1 = sz K A B s
    · have : p = sz K A B s - 1 := by omega
      rw [this, pk_us, hr]
    · rcases ho with z | z
      · exact absurd z e
      · have := (hL.1 p (by omega) (by omega)).2.2.2.2 (by omega); omega
  · have := (hL.1 p (by omega) (by omega)).2.2.2.2 (by omega); omega
end
end
section
/-! ===== ticks: a timer, a call; what holds between them ===== -/
def CW (E : Env) : Prop := ∀ q, q < e_n E → tm (e_c E q) q ≤ e_M E ∧ e_M E < tm (e_c E q + 1) q
def RST (E : Env) (u : SX) (H : Nat → List Ev) (F : Nat → Nat) (bg : Nat → Bool) : Prop :=
  IV E u H F bg ∧ (∀ q, q < e_n E → CL E u H F bg q) ∧ RepS u [] ∧ (∀ q, q < e_n E → bg q = true → DN E F bg q) ∧ (∀ q, q < e_n E → 19 ≤ e_kd E q → C2 E H F bg q) ∧ bg (e_n E - 1) = true ∧ CW E
/-- E at another moment: M, clocks, logs -/
def eM (E : Env) (M : Nat) (c : Nat → Nat) (lg : Nat → List Lg) : Env := (M, c, lg, e_t E, e_LG E, e_id E, e_n E, e_h0 E, e_kd E, e_us E, e_xc E, e_yc E, e_lo E, e_sg E, e_oa E, e_ob E, e_s0 E)
theorem tk_ckm {r q t : Nat} (h : q < r) (hr : r < 9) (ht : 1 ≤ t) : ckm r (tm t q) = t - 1 := by
  have e := tim_tm (t := t) (show q < 9 by omega)
  unfold ckm
  rw [e, if_pos (by unfold tm; omega)]
theorem tk_fi0 {k : Nat} {a b : Int32} {t : Nat} {S : PSt} (hk : k ≤ 20) (h : ¬ tmd1 k = true) : fi k a b t S = (S, []) := by
  obtain ⟨d, c, hh, hy, f, fy, qx, q, ox, oy⟩ := S
  simp only [tmd1, tmd, Bool.or_eq_true, beq_iff_eq] at h
  rcases rn_k hk with e | e | e | e | e | e | e | e | e | e | e | e | e | e | e | e | e | e | e | e | e <;> (first | omega | (subst e; rfl))
theorem tk_ckle {p m M c : Nat} (hp : p < 9) (h : m ≤ M) (hM : M < tm (c + 1) p) : ckm p m ≤ c := by
  unfold ckm
  unfold tm at hM ⊢
  have h1 : tim m * 2199023255552 ≤ m := by unfold tim; omega
  have h2 : m < (tim m + 1) * 2199023255552 := by unfold tim; omega
  by_cases hh : m < tim m * 2199023255552 + p * 256
  · rw [if_pos hh]
    rcases Nat.lt_or_ge c (tim m - 1) with z | z
    · exfalso
      have : (c + 2) * 2199023255552 ≤ tim m * 2199023255552 := Nat.mul_le_mul_right _ (by omega)
      omega
    · exact z
  · rw [if_neg hh]
    rcases Nat.lt_or_ge c (tim m) with z | z
    · exfalso
      have : (c + 1) * 2199023255552 ≤ tim m * 2199023255552 := Nat.mul_le_mul_right _ (by omega)
      omega
    · exact z
theorem tk_iv {E : Env} {u : SX} {H : Nat → List Ev} {F : Nat → Nat} {bg : Nat → Bool} {M : Nat} {c : Nat → Nat} {lg : Nat → List Lg} (h : IV E u H F bg) (hM : e_M E ≤ M) : IV (eM E M c lg) u H F bg := by
  obtain ⟨i1, i2, i3, i4, i5, i6, i7, i8, i9, i10⟩ := h
  exact ⟨i1, i2, fun q hq e he => Nat.le_trans (i3 q hq e he) hM, fun q hq hb => Nat.le_trans (i4 q hq hb) hM, i5, i6, i7, i8, i9, i10⟩
/-- a stretch of the cascade that began at part q, seen from rest to rest -/
theorem tk_list {E : Env} {post : SX → Prop} {u u1 : SX} {H : Nat → List Ev} {F : Nat → Nat} {bg : Nat → Bool} {q M : Nat} {c : Nat → Nat} {lg : Nat → List Lg} {S' : PSt} {o : Otp} (hT : TR E) (hR : RST E u H F bg) (hq : q < e_n E) (hbq : bg q = true) (hfq : fin (H q) = false)
    (hM : tim M = e_t E) (ht : e_t E ≤ 200) (hMM : e_M E < M) (hLG : (∀ r, r < e_n E → ∀ g ∈ lg r, hrs M g.2.2.2 = false) ∧ ∀ g ∈ e_LG E, hrs M g.2.2.2 = false) (hck : ∀ r, q < r → r < e_n E → ckm r M = c r) (hcw : CW (eM E M c lg))
    (hoth : ∀ r, r < e_n E → r ≠ q → Rn (eM E M c lg) H F r = Rn E H F r) (hrn : Rn (eM E M c lg) H F q = (S', H q ++ ems M o)) (ho : wfo o) (hol : o.length ≤ 9) (hok : (∀ x ∈ o, x.1 = 1) → okS (e_kd E q) (e_ob E q) S') (hfl : 16 ≤ e_kd E q → e_kd E q < 19 → S' = (Rn E H F q).1)
    (e1 : x_st2 u1 = x_st2 u) (e2 : x_sub u1 = x_sub u) (e3' : x_phase u1 = x_phase u) (e4 : x_beganAfter u1 = x_beganAfter u) (hS' : RepP u1 (ab E q) S') (hfr : ∀ j, j ≠ ab E q → ∀ S, RepP u j S → RepP u1 j S) (hst : RepS u1 (ots (ab E q) o ++ []))
    (K : ∀ u' H' F' bg', RST (eM E M c lg) u' H' F' bg' → FR E 0 u u' → (∀ r, r < e_n E → bg r = true → bg' r = true ∧ F' r = F r) → (∀ r, r < e_n E → bg' r = true → bg r = true ∨ F' r = M) → post u') : Wr post (e_id E) 0 u1 := by
  obtain ⟨hI, hC, hS, hD, hC2, hroot, hCW⟩ := hR
  have hT' : TR (eM E M c lg) := hT
  have hT0 := hT
  obtain ⟨t1, t2, t3, t4, t5, t6, t7, t8, t9, t10, t11⟩ := hT
  have hI1 : IV (eM E M c lg) u1 H F bg := by
    have h := tk_iv (M := M) (c := c) (lg := lg) hI (by omega)
    obtain ⟨i1, i2, i3, i4, i5, i6, i7, i8, i9, i10⟩ := h
    exact ⟨by rw [e1]; exact i1, fun r hr => by rw [e3']; exact i2 r hr, i3, i4, ⟨i5.1, ca_sub e2 _ _ i5.2⟩, i6, i7, i8, fun r hr hb => by rw [e4]; exact i9 r hr hb, by rw [ca_sent e1]; exact i10⟩
  have hC1 : ∀ r, r < e_n E → r ≠ q → CL (eM E M c lg) u1 H F bg r := by
    intro r hr hrq
    have h := hC r hr
    refine ⟨fun hb => ?_, fun hb => hfr _ (ca_ab hrq) _ (h.2 hb)⟩
    rw [hoth r hr hrq]
    have h1 := h.1 hb
    exact ⟨h1.1, fun hf => ⟨hfr _ (ca_ab hrq) _ (h1.2 hf).1, (h1.2 hf).2⟩⟩
  have hXB : XB (eM E M c lg) H q := by
    intro z hz h16 h19 hl hx e he
    have hz' : z < e_n E := hz
    have h16' : 16 ≤ e_kd E z := h16
    have h8 := t8 z hz h16
    have h6 := t6 z hz (by omega)
    have := hI.2.2.1 (e_yc E z) (by omega) e he
    show e.2.2 < M
    omega
  have h9 : e3 (9 - q) ≤ e3 9 := e3_mono (by omega)
  have h99 : e3 9 = 9841 := by decide
  have hmul : o.length * e3 (9 - q) ≤ 9 * e3 (9 - q) := Nat.mul_le_mul_right _ hol
  refine ca_list (E := eM E M c lg) hT' (cz_evt hT' hM ht hLG hq) o 0 [] u1 H F bg hq hI1 (fun r h1 h2 => hC1 r h2 (by omega)) hXB (fun r h1 h2 => hck r (by omega) h2) hbq (fun _ => hfq) ho hst (by simp; omega) (by omega) ?_
  intro x' u' H' F' bg' k1 k2 k3 k4 k5 k6 k7 k8
  have hmq := k6.2.2.1 q hq hbq
  refine sw_end (by omega) k5 (K u' H' F' bg' ⟨k2, fun r hr => ?_, k5, fun r hr hb => ?_, fun r hr hk => k6.2.2.2.2.1 r hr hk (hC2 r hr hk), ?_, hcw⟩ ?_ k6.2.2.1 (fun r hr hb => ?_))
  · rcases Nat.lt_or_ge q r with z | z
    · exact k3 r z hr
    · by_cases hrq : r = q
      · subst hrq
        have e : Rn (eM E M c lg) H' F' r = Rn (eM E M c lg) H F r := ca_Rn hmq.2 (fun h3 => (k6.2.1 _ (by have := t6 r hr h3; exact this.1)).1) (fun h16 => (k6.2.1 _ (by have := t8 r hr h16; show e_yc E r < r; omega)).1)
        refine ⟨fun _ => ?_, fun hb => by rw [hmq.1] at hb; exact absurd hb (by decide)⟩
        rw [e, hrn]
        refine ⟨k8.symm, fun hf => ?_⟩
        rw [k8, rn_fin_app, Bool.or_eq_false_iff] at hf
        refine ⟨k7 _ hS', hok (ro_all_fin hf.2), fun h16 h19 => ?_⟩
        have hcf := ((hC r hr).1 hbq).2 hfq
        have hff := hcf.2.2 h16 h19
        have h6 := t6 r hr (show 3 ≤ e_kd E r from by have : 16 ≤ e_kd E r := h16; omega)
        have h8 := t8 r hr h16
        have hx1 := (k6.2.1 (e_xc E r) h6.1).1
        have hy1 := (k6.2.1 (e_yc E r) (by omega)).1
        show S'.2.2.2.2.2.2.2.2.1 = fin (H' (e_xc E r)) ∧ S'.2.2.2.2.2.2.2.2.2 = fin (H' (e_yc E r))
        rw [hfl h16 h19, hx1, hy1]
        exact hff
      · have hq' := k6.2.1 r (by omega)
        exact ca_cl (hC1 r hr hrq) hq'.1 hq'.2.1 hq'.2.2 (fun h3 => (k6.2.1 _ (by have := t6 r hr h3; show e_xc E r < q; omega)).1) (fun h16 => (k6.2.1 _ (by have := t8 r hr h16; show e_yc E r < q; omega)).1) (fun S h => k6.1.2.1 _ (Or.inl (by unfold ab; show 9 * e_id E + r < 9 * e_id E + q; omega)) S h)
  · rcases k6.2.2.2.1 r hr hb with z | z
    · exact pg_dn hT0 hr k6.2.2.1 z (hD r hr z)
    · exact z.2
  · exact (k6.2.2.1 _ (by show e_n E - 1 < e_n E; omega) hroot).1
  · refine ⟨k6.1.1.trans e1, fun j hj S hS => ?_, fun j hj => ?_, fun j hj s hs => k6.1.2.2.2 j hj s (ca_sub e2 j s hs)⟩
    · have hj' : j < ab E q ∨ 9 * e_id E + e_n E ≤ j := by unfold ab at hj ⊢; omega
      exact k6.1.2.1 j hj' S (hfr j (by unfold ab at hj ⊢; omega) S hS)
    · have := k6.1.2.2.1 j hj
      rw [this.1, this.2, e3', e4]
      exact ⟨rfl, rfl⟩
  · rcases k6.2.2.2.1 r hr hb with z | z
    · exact Or.inl z
    · exact Or.inr z.1
end
section
/-! ===== a timer's tick ===== -/
theorem tt_hrs {t q w : Nat} (hq : q < 9) (h : w ≤ tm t q) : hrs (tm t q) w = false := by
  unfold hrs
  have e : tm t q / 1099511627776 % 2 = 0 := by
    unfold tm
    omega
  rw [if_neg (by omega)]
  exact decide_eq_false (by omega)
theorem tt_tm0 (t q : Nat) : tm t 0 ≤ tm t q := by unfold tm; omega
theorem tt_cw {E : Env} {q t : Nat} {c : Nat → Nat} {lg : Nat → List Lg} (hT : TR E) (hq : q < e_n E) (ht : 1 ≤ t) (hlo : ∀ r, r < q → c r = t) (hhi : ∀ r, q < r → r < e_n E → c r + 1 = t) (hcq : c q = t) : CW (eM E (tm t q) c lg) := by
  intro r hr
  have h9 := hT.2.2.1
  have hr' : r < e_n E := hr
  show tm (c r) r ≤ tm t q ∧ tm t q < tm (c r + 1) r
  rcases Nat.lt_trichotomy r q with z | z | z
  · rw [hlo r z]; unfold tm; omega
  · subst z; rw [hcq]; unfold tm; omega
  · have := hhi r z hr'
    have e : c r = t - 1 := by omega
    rw [e, show t - 1 + 1 = t from by omega]
    unfold tm
    have : (t - 1) * 2199023255552 + 2199023255552 = t * 2199023255552 := by
      rw [show t = t - 1 + 1 from by omega, Nat.add_mul]; omega
    omega
theorem tt_rt {k p fr c : Nat} {a b : Int32} {lg : List Lg} {Hx Hy : List Ev} (ht : tmd1 k = true) (h0 : ckm p fr ≤ c) (hm : 3 ≤ k → ∀ z ∈ Hx, ckm p z.2.2 ≤ c) :
    RR k a b p fr lg (c + 1) Hx Hy = stp k a b (RR k a b p fr lg c Hx Hy) (2, 0, 0, tm (c + 1) p) := by
  rcases Nat.lt_or_ge k 3 with h3 | h3
  · rw [ca_RR (Hx := []) (Hy := Hy) (fun z => by omega) (fun _ => rfl), ca_RR (Hx' := Hx) (Hx := []) (Hy' := Hy) (Hy := Hy) (fun z => by omega) (fun _ => rfl)]
    exact rn_t ht h0 (fun z hz => absurd hz (by simp))
  · exact rn_t ht h0 (hm h3)
theorem tt_skip {E : Env} {u : SX} {H : Nat → List Ev} {F : Nat → Nat} {bg : Nat → Bool} {q t : Nat} (hT : TR E) (hR : RST E u H F bg) (hq : q < e_n E) (ht : 1 ≤ t) (hMM : e_M E < tm t q) (hlo : ∀ r, r < q → e_c E r = t) (hhi : ∀ r, q ≤ r → r < e_n E → e_c E r + 1 = t) (hph : ¬ x_phase u (ab E q) = 1) :
    RST (eM E (tm t q) (fup (e_c E) q t) (e_lg E)) u H F bg := by
  obtain ⟨hI, hC, hS, hD, hC2, hroot, hCW⟩ := hR
  have h9 := hT.2.2.1
  refine ⟨tk_iv hI (by omega), fun r hr => ?_, hS, hD, hC2, hroot, tt_cw hT hq ht (fun r hr => by rw [fu_n (by omega)]; exact hlo r hr) (fun r h1 h2 => by rw [fu_n (by omega)]; exact hhi r (by omega) h2) fu_s⟩
  have hr' : r < e_n E := hr
  have h := hC r hr
  refine ⟨fun hb => ?_, h.2⟩
  have h1 := h.1 hb
  have e : Rn (eM E (tm t q) (fup (e_c E) q t) (e_lg E)) H F r = Rn E H F r := by
    by_cases hrq : r = q
    · subst hrq
      have hfin : fin (H r) = true := by
        have hp := hI.2.1 r hr
        rw [hb] at hp
        rcases Bool.eq_false_or_eq_true (fin (H r)) with z | z
        · exact z
        · rw [z] at hp; exact absurd hp hph
      show RR (e_kd E r) (e_oa E r) (e_ob E r) r (F r) (e_lg E r) (fup (e_c E) r t r) (H (e_xc E r)) (H (e_yc E r)) = RR (e_kd E r) (e_oa E r) (e_ob E r) r (F r) (e_lg E r) (e_c E r) (H (e_xc E r)) (H (e_yc E r))
      rw [fu_s]
      have hc1 := hhi r (Nat.le_refl _) hr'
      by_cases hk : tmd1 (e_kd E r) = true
      · have hcw := hCW r hr
        rw [← hc1, tt_rt hk (tk_ckle (by omega) (hI.2.2.2.1 r hr hb) hcw.2) (fun h3 z hz => ?_)]
        · exact rn_stp_fin (by have := h1.1; unfold Rn at this; rw [this]; exact hfin)
        · have h6 := hT.2.2.2.2.2.1 r hr' h3
          exact tk_ckle (by omega) (hI.2.2.1 (e_xc E r) (by omega) z hz) hcw.2
      · exact rn_t0 hk
    · show RR (e_kd E r) (e_oa E r) (e_ob E r) r (F r) (e_lg E r) (fup (e_c E) q t r) (H (e_xc E r)) (H (e_yc E r)) = RR (e_kd E r) (e_oa E r) (e_ob E r) r (F r) (e_lg E r) (e_c E r) (H (e_xc E r)) (H (e_yc E r))
      rw [fu_n hrq]
  rw [e]
  exact h1
theorem tt_fire {E : Env} {post : SX → Prop} {u : SX} {H : Nat → List Ev} {F : Nat → Nat} {bg : Nat → Bool} {q t : Nat} (hT : TR E) (hR : RST E u H F bg) (hq : q < e_n E) (ht : 1 ≤ t) (het : e_t E = t) (ht2 : t ≤ 200) (hMM : e_M E < tm t q) (hlo : ∀ r, r < q → e_c E r = t) (hhi : ∀ r, q ≤ r → r < e_n E → e_c E r + 1 = t) (hph : x_phase u (ab E q) = 1)
    (hlg : ∀ r, r < e_n E → ∀ g ∈ e_lg E r, g ∈ e_LG E) (hLG : ∀ g ∈ e_LG E, g.2.2.2 ≤ tm t 0)
    (K : ∀ u' H' F' bg', RST (eM E (tm t q) (fup (e_c E) q t) (e_lg E)) u' H' F' bg' → FR E 0 u u' → (∀ r, r < e_n E → bg r = true → bg' r = true ∧ F' r = F r) → (∀ r, r < e_n E → bg' r = true → bg r = true ∨ F' r = tm t q) → post u') :
    wpX_fireTimer (fun u1 => match u1 with | (f_time, f_sent, f_stageCount, f_tasks, a_sourceEnded, a_stageKind, a_stageA, a_stageB, a_stageParts, a_partStage, a_partUser, a_partX, a_partY, a_phase, a_beganAfter, a_due, a_count, a_held, a_heldY, a_hasHeld, a_hasHeldY, a_queueSize, a_queueIsOfX, a_queueValue, a_queueDue, a_subStatus, a_subCode, a_subEnd, a_subDemand, a_subRequests, a_subDelivered, a_subWaiting, a_waitValue, a_history, a_taskWhat, a_taskPart, a_taskValue) => wpX_runTasks post (f_time, f_sent, f_stageCount, f_tasks, a_sourceEnded, a_stageKind, a_stageA, a_stageB, a_stageParts, a_partStage, a_partUser, a_partX, a_partY, a_phase, a_beganAfter, a_due, a_count, a_held, a_heldY, a_hasHeld, a_hasHeldY, a_queueSize, a_queueIsOfX, a_queueValue, a_queueDue, a_subStatus, a_subCode, a_subEnd, a_subDemand, a_subRequests, a_subDelivered, a_subWaiting, a_waitValue, a_history, a_taskWhat, a_taskPart, a_taskValue) (nI (e_id E))) u (nI (ab E q)) := by
  have hR0 := hR
  obtain ⟨hI, hC, hS, hD, hC2, hroot, hCW⟩ := hR
  have h9 := hT.2.2.1
  have hp := hI.2.1 q hq
  have hbq : bg q = true := by
    rcases Bool.eq_false_or_eq_true (bg q) with z | z
    · exact z
    · rw [z, hph] at hp
      have h0 : phs false (fin (H q)) = 0 := rfl
      rw [h0] at hp; exact absurd hp (by decide)
  have hfq : fin (H q) = false := by
    rcases Bool.eq_false_or_eq_true (fin (H q)) with z | z
    · rw [z, hbq, hph] at hp; exact absurd hp (by decide)
    · exact z
  have hcl := (hC q hq).1 hbq
  have hcl2 := hcl.2 hfq
  have hHZ := (hI.1.2 q hq).1
  have hop : opk (e_kd E q) (e_oa E q) (e_ob E q) := hHZ.2.2.2.2.2.2.2.2
  rw [het] at hHZ
  suffices hh : ∀ u1, Eff u u1 (ab E q) (fi (e_kd E q) (e_oa E q) (e_ob E q) t (Rn E H F q).1).1 (fi (e_kd E q) (e_oa E q) (e_ob E q) t (Rn E H F q).1).2 [] → wpX_runTasks post u1 (nI (e_id E)) by
    refine sw_fire hHZ ht hcl2.1 hcl2.2.1 hS (by simp) (fun u1 he => ?_)
    have h2 := hh u1 he
    obtain ⟨f_time, f_sent, f_stageCount, f_tasks, a_sourceEnded, a_stageKind, a_stageA, a_stageB, a_stageParts, a_partStage, a_partUser, a_partX, a_partY, a_phase, a_beganAfter, a_due, a_count, a_held, a_heldY, a_hasHeld, a_hasHeldY, a_queueSize, a_queueIsOfX, a_queueValue, a_queueDue, a_subStatus, a_subCode, a_subEnd, a_subDemand, a_subRequests, a_subDelivered, a_subWaiting, a_waitValue, a_history, a_taskWhat, a_taskPart, a_taskValue⟩ := u1
    exact h2
  intro u1 he
  refine sw_run ?_
  obtain ⟨f1, f2, f3, f4, f5, f6⟩ := he
  have f3' := sv_of_ph (u := u1) f3
  obtain ⟨g1, g2, g3⟩ := rn_fi (t := t) hop hcl2.2.1 ht2
  have hcw := hCW q hq
  have hc1 := hhi q (Nat.le_refl _) hq
  have hhrs : ∀ g ∈ e_LG E, hrs (tm t q) g.2.2.2 = false := fun g hg => tt_hrs (by omega) (Nat.le_trans (hLG g hg) (tt_tm0 t q))
  refine tk_list (E := E) (M := tm t q) (c := fup (e_c E) q t) (lg := e_lg E) (S' := (fi (e_kd E q) (e_oa E q) (e_ob E q) t (Rn E H F q).1).1) (o := (fi (e_kd E q) (e_oa E q) (e_ob E q) t (Rn E H F q).1).2) hT hR0 hq hbq hfq (by rw [tim_tm (by omega)]; exact het.symm) (by omega) hMM ⟨fun r hr g hg => hhrs g (hlg r hr g hg), hhrs⟩ (fun r h1 h2 => ?_) (tt_cw hT hq ht (fun r hr => by rw [fu_n (by omega)]; exact hlo r hr) (fun r h1 h2 => by rw [fu_n (by omega)]; exact hhi r (by omega) h2) fu_s) (fun r hr hrq => ?_) ?_ g1 g2 g3 (fun h16 h19 => ?_) f1 f2 f3'.1 f3'.2 f4 f5 f6 K
  · rw [fu_n (by omega), tk_ckm (by omega) (by omega) ht]
    have := hhi r (by omega) h2
    omega
  · show RR (e_kd E r) (e_oa E r) (e_ob E r) r (F r) (e_lg E r) (fup (e_c E) q t r) (H (e_xc E r)) (H (e_yc E r)) = RR (e_kd E r) (e_oa E r) (e_ob E r) r (F r) (e_lg E r) (e_c E r) (H (e_xc E r)) (H (e_yc E r))
    rw [fu_n hrq]
  · show RR (e_kd E q) (e_oa E q) (e_ob E q) q (F q) (e_lg E q) (fup (e_c E) q t q) (H (e_xc E q)) (H (e_yc E q)) = _
    rw [fu_s]
    have hRO : (RR (e_kd E q) (e_oa E q) (e_ob E q) q (F q) (e_lg E q) (e_c E q) (H (e_xc E q)) (H (e_yc E q))).2 = H q := hcl.1
    by_cases hk : tmd1 (e_kd E q) = true
    · have e := tt_rt (a := e_oa E q) (b := e_ob E q) (lg := e_lg E q) (Hy := H (e_yc E q)) hk (tk_ckle (by omega) (hI.2.2.2.1 q hq hbq) hcw.2) (fun h3 z hz => by
        have h6 := hT.2.2.2.2.2.1 q hq h3
        exact tk_ckle (by omega) (hI.2.2.1 (e_xc E q) (by omega) z hz) hcw.2)
      rw [hc1] at e
      rw [e, rn_stp_go (by rw [hRO]; exact hfq), hRO]
      unfold rsp
      rw [if_pos rfl, tim_tm (by omega)]
      rfl
    · rw [rn_t0 (c := e_c E q) hk, tk_fi0 hop.1 hk]
      show _ = (_, H q ++ [])
      rw [List.append_nil, ← hRO]
      rfl
  · have hk : ¬ tmd1 (e_kd E q) = true := by
      simp only [tmd1, tmd, Bool.or_eq_true, beq_iff_eq]; omega
    rw [tk_fi0 hop.1 hk]
end
section
/-! ===== a call's tick ===== -/
theorem ts_num {t c b : Nat} (hc : c < 4294967295) (hb : b < 256) : (mo t 1 c + b) / 1099511627776 % 2 = 1 ∧ (mo t 1 c + b) / 256 % 4294967296 = c := by
  unfold mo
  constructor
  · have : t * 2199023255552 + 1 * 1099511627776 + c * 256 + b = (t * 2 + 1) * 1099511627776 + (c * 256 + b) := by omega
    rw [this, Nat.add_comm, Nat.add_mul_div_right _ _ (by decide), Nat.div_eq_of_lt (by omega)]
    omega
  · have : t * 2199023255552 + 1 * 1099511627776 + c * 256 + b = (t * 8589934592 + 4294967296 + c) * 256 + b := by omega
    rw [this, Nat.add_comm, Nat.add_mul_div_right _ _ (by decide), Nat.div_eq_of_lt hb, Nat.zero_add]
    have e1 : t * 8589934592 = t * 2 * 4294967296 := by rw [Nat.mul_assoc]
    have e2 : t * 8589934592 + 4294967296 + c = c + (t * 2 + 1) * 4294967296 := by
      rw [e1, Nat.add_mul, Nat.one_mul]
      generalize t * 2 * 4294967296 = z
      omega
    rw [e2, Nat.add_mul_mod_self_right]
    exact Nat.mod_eq_of_lt (by omega)
theorem ts_hrs {t c b w : Nat} (hc : c < 4294967295) (hb : b < 256) (hw : w / 256 % 4294967296 ≤ c) : hrs (mo t 1 c + b) w = false := by
  have h := ts_num (t := t) hc hb
  unfold hrs
  rw [if_pos h.1, h.2]
  exact decide_eq_false (by omega)
theorem ts_win {t c b r : Nat} (hr : r < 9) (hc : c < 4000000000) (hb : b < 256) : tm t r ≤ mo t 1 c + b ∧ mo t 1 c + b < tm (t + 1) r := by
  unfold tm mo
  rw [Nat.add_mul]
  omega
theorem ts_ck {t c b r : Nat} (hr : r < 9) (hc : c < 4000000000) (hb : b < 256) : ckm r (mo t 1 c + b) = t := by
  have e := tim_mo (t := t) (ph := 1) (nu := c) (b := b) (by decide) (by omega) hb
  have h := ts_win (t := t) hr hc hb
  unfold ckm
  rw [e, if_neg (by omega)]
theorem ts_rn {E : Env} {H : Nat → List Ev} {F : Nat → Nat} {q M : Nat} {L : List Lg} {r : Nat} (hrq : r ≠ q) : Rn (eM E M (e_c E) (fup (e_lg E) q L)) H F r = Rn E H F r := by
  show RR (e_kd E r) (e_oa E r) (e_ob E r) r (F r) (fup (e_lg E) q L r) (e_c E r) (H (e_xc E r)) (H (e_yc E r)) = RR (e_kd E r) (e_oa E r) (e_ob E r) r (F r) (e_lg E r) (e_c E r) (H (e_xc E r)) (H (e_yc E r))
  rw [fu_n hrq]
theorem ts_skip {E : Env} {u : SX} {H : Nat → List Ev} {F : Nat → Nat} {bg : Nat → Bool} {q t c : Nat} {Lo : List Lg} {g : Lg} (hT : TR E) (hR : RST E u H F bg) (hq : q < e_n E) (hc : c < 4000000000) (hlq : e_lg E q = Lo) (hg : g.2.2.2 = mo t 1 c) (hMM : e_M E ≤ mo t 1 c + (q + 1)) (hcl : ∀ r, r < e_n E → e_c E r = t)
    (hno : bg q = true → fin (H q) = false → e_kd E q = 0 → ¬ (g.1 = cl (e_oa E q) ∧ hrs (F q) g.2.2.2 = true)) : RST (eM E (mo t 1 c + (q + 1)) (e_c E) (fup (e_lg E) q (Lo ++ [g]))) u H F bg := by
  obtain ⟨hI, hC, hS, hD, hC2, hroot, hCW⟩ := hR
  have h9 := hT.2.2.1
  refine ⟨tk_iv hI hMM, fun r hr => ?_, hS, hD, hC2, hroot, fun r hr => ?_⟩
  · have h := hC r hr
    refine ⟨fun hb => ?_, h.2⟩
    have h1 := h.1 hb
    have e : Rn (eM E (mo t 1 c + (q + 1)) (e_c E) (fup (e_lg E) q (Lo ++ [g]))) H F r = Rn E H F r := by
      by_cases hrq : r = q
      · subst hrq
        show RR (e_kd E r) (e_oa E r) (e_ob E r) r (F r) (fup (e_lg E) r (Lo ++ [g]) r) (e_c E r) (H (e_xc E r)) (H (e_yc E r)) = RR (e_kd E r) (e_oa E r) (e_ob E r) r (F r) (e_lg E r) (e_c E r) (H (e_xc E r)) (H (e_yc E r))
        rw [fu_s, hlq]
        by_cases hk : e_kd E r = 0
        · have hO : src (cl (e_oa E r)) r (F r) Lo = H r := by
            have := h1.1
            unfold Rn RR at this
            rw [if_pos hk, hlq] at this
            exact this
          unfold RR
          rw [if_pos hk, if_pos hk, rn_src_app]
          rcases Bool.eq_false_or_eq_true (fin (src (cl (e_oa E r)) r (F r) Lo)) with z | z
          · rw [if_pos z]
          · rw [if_neg (by rw [z]; decide), if_neg (hno hb (by rw [← hO]; exact z) hk), List.append_nil]
        · exact rn_lg hk
      · exact ts_rn hrq
    rw [e]
    exact h1
  · show tm (e_c E r) r ≤ mo t 1 c + (q + 1) ∧ mo t 1 c + (q + 1) < tm (e_c E r + 1) r
    have hr' : r < e_n E := hr
    rw [hcl r hr']
    exact ts_win (by omega) hc (by omega)
theorem ts_go {E : Env} {post : SX → Prop} {u : SX} {H : Nat → List Ev} {F : Nat → Nat} {bg : Nat → Bool} {q t c : Nat} {Lo : List Lg} {g : Lg} (hT : TR E) (hR : RST E u H F bg) (hq : q < e_n E) (hc : c < 4000000000) (hlq : e_lg E q = Lo) (hg : g.2.2.2 = mo t 1 c) (hMM : e_M E < mo t 1 c + (q + 1)) (hcl : ∀ r, r < e_n E → e_c E r = t) (het : e_t E = t) (ht2 : t ≤ 200)
    (hlg : ∀ r, r < e_n E → ∀ g' ∈ e_lg E r, g' ∈ e_LG E) (hgL : ∀ g' ∈ Lo ++ [g], g' ∈ e_LG E) (hLG : ∀ g' ∈ e_LG E, g'.2.2.2 / 256 % 4294967296 ≤ c)
    (hph : x_phase u (ab E q) = 1) (hk : e_kd E q = 0) (hs : g.1 = cl (e_oa E q)) (hh : hrs (F q) g.2.2.2 = true) (hwo : wfo [(g.2.1 + 1, g.2.2.1)])
    (K : ∀ u' H' F' bg', RST (eM E (mo t 1 c + (q + 1)) (e_c E) (fup (e_lg E) q (Lo ++ [g]))) u' H' F' bg' → FR E 0 u u' → (∀ r, r < e_n E → bg r = true → bg' r = true ∧ F' r = F r) → (∀ r, r < e_n E → bg' r = true → bg r = true ∨ F' r = mo t 1 c + (q + 1)) → post u') :
    wpX_push (fun u1 => match u1 with | (f_time, f_sent, f_stageCount, f_tasks, a_sourceEnded, a_stageKind, a_stageA, a_stageB, a_stageParts, a_partStage, a_partUser, a_partX, a_partY, a_phase, a_beganAfter, a_due, a_count, a_held, a_heldY, a_hasHeld, a_hasHeldY, a_queueSize, a_queueIsOfX, a_queueValue, a_queueDue, a_subStatus, a_subCode, a_subEnd, a_subDemand, a_subRequests, a_subDelivered, a_subWaiting, a_waitValue, a_history, a_taskWhat, a_taskPart, a_taskValue) => wpX_runTasks post (f_time, f_sent, f_stageCount, f_tasks, a_sourceEnded, a_stageKind, a_stageA, a_stageB, a_stageParts, a_partStage, a_partUser, a_partX, a_partY, a_phase, a_beganAfter, a_due, a_count, a_held, a_heldY, a_hasHeld, a_hasHeldY, a_queueSize, a_queueIsOfX, a_queueValue, a_queueDue, a_subStatus, a_subCode, a_subEnd, a_subDemand, a_subRequests, a_subDelivered, a_subWaiting, a_waitValue, a_history, a_taskWhat, a_taskPart, a_taskValue) (nI (e_id E))) u (nI (g.2.1 + 1)) (nI (ab E q)) g.2.2.1 := by
  have hR0 := hR
  obtain ⟨hI, hC, hS, hD, hC2, hroot, hCW⟩ := hR
  have h9 := hT.2.2.1
  have hp := hI.2.1 q hq
  have hbq : bg q = true := by
    rcases Bool.eq_false_or_eq_true (bg q) with z | z
    · exact z
    · rw [z, hph] at hp
      have h0 : phs false (fin (H q)) = 0 := rfl
      rw [h0] at hp; exact absurd hp (by decide)
  have hfq : fin (H q) = false := by
    rcases Bool.eq_false_or_eq_true (fin (H q)) with z | z
    · rw [z, hbq, hph] at hp; exact absurd hp (by decide)
    · exact z
  have hc1 := (hC q hq).1 hbq
  have hc2 := hc1.2 hfq
  have hO : src (cl (e_oa E q)) q (F q) Lo = H q := by
    have := hc1.1
    unfold Rn RR at this
    rw [if_pos hk, hlq] at this
    exact this
  have hhrs : ∀ g' ∈ e_LG E, hrs (mo t 1 c + (q + 1)) g'.2.2.2 = false := fun g' hg' => ts_hrs (by omega) (by omega) (hLG g' hg')
  suffices hh0 : ∀ u1, EffN u u1 [(g.2.1 + 1, ab E q, g.2.2.1)] (x_phase u) → wpX_runTasks post u1 (nI (e_id E)) by
    refine sw_push hS (by simp) (fun u1 he => ?_)
    have h2 := hh0 u1 he
    obtain ⟨f_time, f_sent, f_stageCount, f_tasks, a_sourceEnded, a_stageKind, a_stageA, a_stageB, a_stageParts, a_partStage, a_partUser, a_partX, a_partY, a_phase, a_beganAfter, a_due, a_count, a_held, a_heldY, a_hasHeld, a_hasHeldY, a_queueSize, a_queueIsOfX, a_queueValue, a_queueDue, a_subStatus, a_subCode, a_subEnd, a_subDemand, a_subRequests, a_subDelivered, a_subWaiting, a_waitValue, a_history, a_taskWhat, a_taskPart, a_taskValue⟩ := u1
    exact h2
  intro u1 he
  refine sw_run ?_
  obtain ⟨f1, f2, f3, f4, f5, f6⟩ := he
  refine tk_list (E := E) (M := mo t 1 c + (q + 1)) (c := e_c E) (lg := fup (e_lg E) q (Lo ++ [g])) (S' := (Rn E H F q).1) (o := [(g.2.1 + 1, g.2.2.1)]) hT hR0 hq hbq hfq (by rw [tim_mo (by decide) (by omega) (by omega)]; exact het.symm) (by omega) hMM ⟨fun r hr g' hg' => ?_, hhrs⟩ (fun r h1 h2 => ?_) (fun r hr => ?_) (fun r hr hrq => ts_rn hrq) ?_ hwo (by simp) (fun _ => hc2.2.1) (fun _ _ => rfl) f1 f2 f3 f4 (f5 _ _ hc2.1) (fun j _ S h => f5 j S h) f6 K
  · by_cases hrq : r = q
    · subst hrq
      rw [fu_s] at hg'
      exact hhrs g' (hgL g' hg')
    · rw [fu_n hrq] at hg'
      exact hhrs g' (hlg r hr g' hg')
  · rw [ts_ck (by omega) hc (by omega), hcl r h2]
  · show tm (e_c E r) r ≤ mo t 1 c + (q + 1) ∧ mo t 1 c + (q + 1) < tm (e_c E r + 1) r
    have hr' : r < e_n E := hr
    rw [hcl r hr']
    exact ts_win (by omega) hc (by omega)
  · show RR (e_kd E q) (e_oa E q) (e_ob E q) q (F q) (fup (e_lg E) q (Lo ++ [g]) q) (e_c E q) (H (e_xc E q)) (H (e_yc E q)) = ((RR (e_kd E q) (e_oa E q) (e_ob E q) q (F q) (e_lg E q) (e_c E q) (H (e_xc E q)) (H (e_yc E q))).1, _)
    rw [fu_s]
    unfold RR
    rw [if_pos hk, if_pos hk, rn_src_app, hO, if_neg (by rw [hfq]; decide), if_pos ⟨hs, hh⟩, hg, Nat.add_assoc (mo t 1 c) q 1, show ems (mo t 1 c + (q + 1)) [(g.2.1 + 1, g.2.2.1)] = [(g.2.1 + 1, g.2.2.1, mo t 1 c + (q + 1))] from rfl]
end
section
/-! ===== the loops over parts and subscriptions ===== -/
def FO (id : Nat) (u u' : SX) : Prop :=
  x_st2 u' = x_st2 u ∧ (∀ j, 9 * id ≤ j → j < 9 * id + 9 → (∀ S, RepP u j S → RepP u' j S) ∧ x_phase u' j = x_phase u j ∧ x_beganAfter u' j = x_beganAfter u j) ∧ (∀ s, RepU u id s → RepU u' id s) ∧ RepS u' []
theorem xo_of {E : Env} {id : Nat} {u u' : SX} (hT : TR E) (hne : id ≠ e_id E) (h : FR E 0 u u') (hS : RepS u' []) : FO id u u' := by
  have h9 := hT.2.2.1
  refine ⟨h.1, fun j h1 h2 => ?_, fun s hs => h.2.2.2 id hne s hs, hS⟩
  have hj : j < 9 * e_id E ∨ 9 * e_id E + e_n E ≤ j := by omega
  exact ⟨fun S hS => h.2.1 j hj S hS, h.2.2.1 j hj⟩
theorem xo_rst {E : Env} {u u' : SX} {H : Nat → List Ev} {F : Nat → Nat} {bg : Nat → Bool} (hT : TR E) (h : RST E u H F bg) (hf : FO (e_id E) u u') : RST E u' H F bg := by
  obtain ⟨hI, hC, hS, hD, hC2, hroot, hCW⟩ := h
  obtain ⟨i1, i2, i3, i4, i5, i6, i7, i8, i9, i10⟩ := hI
  obtain ⟨f1, f2, f3, f4⟩ := hf
  have h9 := hT.2.2.1
  have hab : ∀ q, q < e_n E → 9 * e_id E ≤ ab E q ∧ ab E q < 9 * e_id E + 9 := fun q hq => by unfold ab; omega
  refine ⟨⟨by rw [f1]; exact i1, fun q hq => by rw [(f2 _ (hab q hq).1 (hab q hq).2).2.1]; exact i2 q hq, i3, i4, ⟨i5.1, f3 _ i5.2⟩, i6, i7, i8, fun q hq hb => by rw [(f2 _ (hab q hq).1 (hab q hq).2).2.2]; exact i9 q hq hb, by rw [ca_sent f1]; exact i10⟩, fun q hq => ?_, f4, hD, hC2, hroot, hCW⟩
  have hc := hC q hq
  have hr := (f2 _ (hab q hq).1 (hab q hq).2).1
  exact ⟨fun hb => ⟨(hc.1 hb).1, fun hf => ⟨hr _ ((hc.1 hb).2 hf).1, ((hc.1 hb).2 hf).2⟩⟩, fun hb => hr _ (hc.2 hb)⟩
theorem xo_inner {post : SX → Prop} {J : Int32 → Int32 → Int32 → Int32 → Int32 → (Nat → Int32) → (Nat → Int32) → (Nat → Int32) → (Nat → Int32) → (Nat → Int32) → (Nat → Int32) → (Nat → Int32) → (Nat → Int32) → (Nat → Int32) → (Nat → Int32) → (Nat → Int32) → (Nat → Int32) → (Nat → Int32) → (Nat → Int32) → (Nat → Int32) → (Nat → Int32) → (Nat → Int32) → (Nat → Int32) → (Nat → Int32) → (Nat → Int32) → (Nat → Int32) → (Nat → Int32) → (Nat → Int32) → (Nat → Int32) → (Nat → Int64) → (Nat → Int32) → (Nat → Int32) → (Nat → Int32) → (Nat → Int32) → (Nat → Int64) → (Nat → Int32) → (Nat → Int32) → (Nat → Int32) → Prop} {id : Nat} (hid : id < 3) (P : Nat → SX → Prop)
    (hgo : ∀ m u, m < 9 → P m u → x_subStatus u id = 0 → x_phase u (9 * id + m) = 1 → ∀ pst : SX → Prop, (∀ u', P (m + 1) u' → pst u') → wpX_fireTimer (fun u1 => match u1 with | (f_time, f_sent, f_stageCount, f_tasks, a_sourceEnded, a_stageKind, a_stageA, a_stageB, a_stageParts, a_partStage, a_partUser, a_partX, a_partY, a_phase, a_beganAfter, a_due, a_count, a_held, a_heldY, a_hasHeld, a_hasHeldY, a_queueSize, a_queueIsOfX, a_queueValue, a_queueDue, a_subStatus, a_subCode, a_subEnd, a_subDemand, a_subRequests, a_subDelivered, a_subWaiting, a_waitValue, a_history, a_taskWhat, a_taskPart, a_taskValue) => wpX_runTasks pst (f_time, f_sent, f_stageCount, f_tasks, a_sourceEnded, a_stageKind, a_stageA, a_stageB, a_stageParts, a_partStage, a_partUser, a_partX, a_partY, a_phase, a_beganAfter, a_due, a_count, a_held, a_heldY, a_hasHeld, a_hasHeldY, a_queueSize, a_queueIsOfX, a_queueValue, a_queueDue, a_subStatus, a_subCode, a_subEnd, a_subDemand, a_subRequests, a_subDelivered, a_subWaiting, a_waitValue, a_history, a_taskWhat, a_taskPart, a_taskValue) (nI id)) u (nI (9 * id + m)))
    (hno : ∀ m u, m < 9 → P m u → ¬ (x_subStatus u id = 0 ∧ x_phase u (9 * id + m) = 1) → P (m + 1) u) :
    ∀ (e m : Nat) (u : SX), m + e = 9 → P m u → (∀ u', P 9 u' → J (nI (id + 1)) (x_time u') (x_sent u') (x_stageCount u') (x_tasks u') (x_sourceEnded u') (x_stageKind u') (x_stageA u') (x_stageB u') (x_stageParts u') (x_partStage u') (x_partUser u') (x_partX u') (x_partY u') (x_phase u') (x_beganAfter u') (x_due u') (x_count u') (x_held u') (x_heldY u') (x_hasHeld u') (x_hasHeldY u') (x_queueSize u') (x_queueIsOfX u') (x_queueValue u') (x_queueDue u') (x_subStatus u') (x_subCode u') (x_subEnd u') (x_subDemand u') (x_subRequests u') (x_subDelivered u') (x_subWaiting u') (x_waitValue u') (x_history u') (x_taskWhat u') (x_taskPart u') (x_taskValue u')) → wX_runTimers_9 post J (nI id) (e + 1) (nI m) (x_time u) (x_sent u) (x_stageCount u) (x_tasks u) (x_sourceEnded u) (x_stageKind u) (x_stageA u) (x_stageB u) (x_stageParts u) (x_partStage u) (x_partUser u) (x_partX u) (x_partY u) (x_phase u) (x_beganAfter u) (x_due u) (x_count u) (x_held u) (x_heldY u) (x_hasHeld u) (x_hasHeldY u) (x_queueSize u) (x_queueIsOfX u) (x_queueValue u) (x_queueDue u) (x_subStatus u) (x_subCode u) (x_subEnd u) (x_subDemand u) (x_subRequests u) (x_subDelivered u) (x_subWaiting u) (x_waitValue u) (x_history u) (x_taskWhat u) (x_taskPart u) (x_taskValue u) := by
  have hcl : (nI id).toNatClampNeg = id := nI_clamp (by omega)
  have hin : vp_in (nI id) 3 := vp_in_nI hid (by decide)
  intro e
  induction e with
  | zero =>
    intro m u hm hP K
    have : m = 9 := by omega
    subst this
    exact br_t (by decide) (nm_r (nI_1 id) (K u hP))
  | succ e ih =>
    intro m u hm hP K
    have e3 : nI id * 9 + nI m = nI (9 * id + m) := by rw [show (9 : Int32) = nI 9 from rfl, pk_mul, nI_add, Nat.mul_comm]
    have hc3 : (nI (9 * id + m)).toNatClampNeg = 9 * id + m := nI_clamp (by omega)
    refine br_f (nI_ge (b := 9) (by omega) (by decide)) (nm_r e3 ⟨hin, ?_⟩)
    by_cases hs : x_subStatus u id = 0
    · refine br_t (by rw [hcl]; exact hs) ⟨vp_in_nI (by omega) (by decide), ?_⟩
      by_cases hp : x_phase u (9 * id + m) = 1
      · refine br_t (by rw [hc3]; exact hp) ?_
        have := hgo m u (by omega) hP hs hp (fun u2 => match u2 with | (f_time, f_sent, f_stageCount, f_tasks, a_sourceEnded, a_stageKind, a_stageA, a_stageB, a_stageParts, a_partStage, a_partUser, a_partX, a_partY, a_phase, a_beganAfter, a_due, a_count, a_held, a_heldY, a_hasHeld, a_hasHeldY, a_queueSize, a_queueIsOfX, a_queueValue, a_queueDue, a_subStatus, a_subCode, a_subEnd, a_subDemand, a_subRequests, a_subDelivered, a_subWaiting, a_waitValue, a_history, a_taskWhat, a_taskPart, a_taskValue) => ∀ x : Int32, x = nI m + 1 → wX_runTimers_9 post J (nI id) (e + 1) x f_time f_sent f_stageCount f_tasks a_sourceEnded a_stageKind a_stageA a_stageB a_stageParts a_partStage a_partUser a_partX a_partY a_phase a_beganAfter a_due a_count a_held a_heldY a_hasHeld a_hasHeldY a_queueSize a_queueIsOfX a_queueValue a_queueDue a_subStatus a_subCode a_subEnd a_subDemand a_subRequests a_subDelivered a_subWaiting a_waitValue a_history a_taskWhat a_taskPart a_taskValue) (fun u' hP' => by
          have h2 := ih (m + 1) u' (by omega) hP' K
          obtain ⟨f_time, f_sent, f_stageCount, f_tasks, a_sourceEnded, a_stageKind, a_stageA, a_stageB, a_stageParts, a_partStage, a_partUser, a_partX, a_partY, a_phase, a_beganAfter, a_due, a_count, a_held, a_heldY, a_hasHeld, a_hasHeldY, a_queueSize, a_queueIsOfX, a_queueValue, a_queueDue, a_subStatus, a_subCode, a_subEnd, a_subDemand, a_subRequests, a_subDelivered, a_subWaiting, a_waitValue, a_history, a_taskWhat, a_taskPart, a_taskValue⟩ := u'
          exact nm_r (nI_1 m) h2)
        obtain ⟨f_time, f_sent, f_stageCount, f_tasks, a_sourceEnded, a_stageKind, a_stageA, a_stageB, a_stageParts, a_partStage, a_partUser, a_partX, a_partY, a_phase, a_beganAfter, a_due, a_count, a_held, a_heldY, a_hasHeld, a_hasHeldY, a_queueSize, a_queueIsOfX, a_queueValue, a_queueDue, a_subStatus, a_subCode, a_subEnd, a_subDemand, a_subRequests, a_subDelivered, a_subWaiting, a_waitValue, a_history, a_taskWhat, a_taskPart, a_taskValue⟩ := u
        exact this
      · exact br_f (by rw [hc3]; exact hp) (nm_r (nI_1 m) (ih (m + 1) u (by omega) (hno m u (by omega) hP (fun z => hp z.2)) K))
    · exact br_f (by rw [hcl]; exact hs) (nm_r (nI_1 m) (ih (m + 1) u (by omega) (hno m u (by omega) hP (fun z => hs z.1)) K))
theorem xo_outer {post : SX → Prop} (Q : Nat → SX → Prop)
    (hin : ∀ id u, id < 3 → Q id u → ∀ J : Int32 → Int32 → Int32 → Int32 → Int32 → (Nat → Int32) → (Nat → Int32) → (Nat → Int32) → (Nat → Int32) → (Nat → Int32) → (Nat → Int32) → (Nat → Int32) → (Nat → Int32) → (Nat → Int32) → (Nat → Int32) → (Nat → Int32) → (Nat → Int32) → (Nat → Int32) → (Nat → Int32) → (Nat → Int32) → (Nat → Int32) → (Nat → Int32) → (Nat → Int32) → (Nat → Int32) → (Nat → Int32) → (Nat → Int32) → (Nat → Int32) → (Nat → Int32) → (Nat → Int32) → (Nat → Int64) → (Nat → Int32) → (Nat → Int32) → (Nat → Int32) → (Nat → Int32) → (Nat → Int64) → (Nat → Int32) → (Nat → Int32) → (Nat → Int32) → Prop, (∀ u', Q (id + 1) u' → J (nI (id + 1)) (x_time u') (x_sent u') (x_stageCount u') (x_tasks u') (x_sourceEnded u') (x_stageKind u') (x_stageA u') (x_stageB u') (x_stageParts u') (x_partStage u') (x_partUser u') (x_partX u') (x_partY u') (x_phase u') (x_beganAfter u') (x_due u') (x_count u') (x_held u') (x_heldY u') (x_hasHeld u') (x_hasHeldY u') (x_queueSize u') (x_queueIsOfX u') (x_queueValue u') (x_queueDue u') (x_subStatus u') (x_subCode u') (x_subEnd u') (x_subDemand u') (x_subRequests u') (x_subDelivered u') (x_subWaiting u') (x_waitValue u') (x_history u') (x_taskWhat u') (x_taskPart u') (x_taskValue u')) → wX_runTimers_9 post J (nI id) 10 0 (x_time u) (x_sent u) (x_stageCount u) (x_tasks u) (x_sourceEnded u) (x_stageKind u) (x_stageA u) (x_stageB u) (x_stageParts u) (x_partStage u) (x_partUser u) (x_partX u) (x_partY u) (x_phase u) (x_beganAfter u) (x_due u) (x_count u) (x_held u) (x_heldY u) (x_hasHeld u) (x_hasHeldY u) (x_queueSize u) (x_queueIsOfX u) (x_queueValue u) (x_queueDue u) (x_subStatus u) (x_subCode u) (x_subEnd u) (x_subDemand u) (x_subRequests u) (x_subDelivered u) (x_subWaiting u) (x_waitValue u) (x_history u) (x_taskWhat u) (x_taskPart u) (x_taskValue u)) (u : SX) (h : Q 0 u) (K : ∀ u', Q 3 u' → post u') : wpX_runTimers post u := by
  have key : ∀ (e id : Nat) (u : SX), id + e = 3 → Q id u → wX_runTimers_2 post (e + 1) (nI id) (x_time u) (x_sent u) (x_stageCount u) (x_tasks u) (x_sourceEnded u) (x_stageKind u) (x_stageA u) (x_stageB u) (x_stageParts u) (x_partStage u) (x_partUser u) (x_partX u) (x_partY u) (x_phase u) (x_beganAfter u) (x_due u) (x_count u) (x_held u) (x_heldY u) (x_hasHeld u) (x_hasHeldY u) (x_queueSize u) (x_queueIsOfX u) (x_queueValue u) (x_queueDue u) (x_subStatus u) (x_subCode u) (x_subEnd u) (x_subDemand u) (x_subRequests u) (x_subDelivered u) (x_subWaiting u) (x_waitValue u) (x_history u) (x_taskWhat u) (x_taskPart u) (x_taskValue u) := by
    intro e
    induction e with
    | zero =>
      intro id u hi hQ
      have : id = 3 := by omega
      subst this
      have h2 := K u hQ
      obtain ⟨f_time, f_sent, f_stageCount, f_tasks, a_sourceEnded, a_stageKind, a_stageA, a_stageB, a_stageParts, a_partStage, a_partUser, a_partX, a_partY, a_phase, a_beganAfter, a_due, a_count, a_held, a_heldY, a_hasHeld, a_hasHeldY, a_queueSize, a_queueIsOfX, a_queueValue, a_queueDue, a_subStatus, a_subCode, a_subEnd, a_subDemand, a_subRequests, a_subDelivered, a_subWaiting, a_waitValue, a_history, a_taskWhat, a_taskPart, a_taskValue⟩ := u
      exact br_t (by decide) h2
    | succ e ih =>
      intro id u hi hQ
      refine br_f (nI_ge (b := 3) (by omega) (by decide)) ⟨10, ?_⟩
      exact hin id u (by omega) hQ _ (fun u' hQ' => ih (id + 1) u' (by omega) hQ')
  have h0 := key 3 0 u rfl h
  obtain ⟨f_time, f_sent, f_stageCount, f_tasks, a_sourceEnded, a_stageKind, a_stageA, a_stageB, a_stageParts, a_partStage, a_partUser, a_partX, a_partY, a_phase, a_beganAfter, a_due, a_count, a_held, a_heldY, a_hasHeld, a_hasHeldY, a_queueSize, a_queueIsOfX, a_queueValue, a_queueDue, a_subStatus, a_subCode, a_subEnd, a_subDemand, a_subRequests, a_subDelivered, a_subWaiting, a_waitValue, a_history, a_taskWhat, a_taskPart, a_taskValue⟩ := u
  exact ⟨4, h0⟩
end
section
/-! ===== advance ===== -/
def eU (E : Env) (t M : Nat) (c : Nat → Nat) (lg : Nat → List Lg) (LG : List Lg) : Env := (M, c, lg, t, LG, e_id E, e_n E, e_h0 E, e_kd E, e_us E, e_xc E, e_yc E, e_lo E, e_sg E, e_oa E, e_ob E, e_s0 E)
def mv (cc m : Nat) : Prop := m / 1099511627776 % 2 = 1 → m / 256 % 4294967296 ≤ cc
def FS (E : Env) (H : Nat → List Ev) : Sb := ((H (e_n E - 1)).drop (e_h0 E)).foldl evf (e_s0 E)
def AR (E : Env) (B0 cc : Nat) (u : SX) (H : Nat → List Ev) (F : Nat → Nat) (bg : Nat → Bool) : Prop :=
  RST E u H F bg ∧ F (e_n E - 1) = B0 ∧ (∀ q, q < e_n E → bg q = true → mv cc (F q)) ∧ (∀ k, e_n E ≤ k → k < 9 → x_phase u (9 * e_id E + k) = 0)
/-- a configuration cut at a moment, without the cells -/
def CU (E : Env) (H : Nat → List Ev) (F : Nat → Nat) (bg : Nat → Bool) (B0 : Nat) : Prop :=
  (∀ q, q < e_n E → bg q = true → (Rn E H F q).2 = H q) ∧ (∀ q, q < e_n E → bg q = false → H q = []) ∧ (∀ q, q < e_n E → ∀ e ∈ H q, e.2.2 ≤ e_M E) ∧ (∀ q, q < e_n E → bg q = true → F q ≤ e_M E) ∧
  (∀ q, q < e_n E → 19 ≤ e_kd E q → bg (e_yc E q) = true → ∃ e ∈ H (e_xc E q), mt (e_kd E q) e.1 = true) ∧ (∀ q, q + 1 < e_n E → bg q = true → bg (e_us E q) = true) ∧ (∀ q, q < e_n E → bg q = true → DN E F bg q) ∧ (∀ q, q < e_n E → 19 ≤ e_kd E q → C2 E H F bg q) ∧ bg (e_n E - 1) = true ∧ F (e_n E - 1) = B0 ∧ CW E
theorem ad_cu {E : Env} {u : SX} {H : Nat → List Ev} {F : Nat → Nat} {bg : Nat → Bool} {B0 : Nat} (h : RST E u H F bg) (hB : F (e_n E - 1) = B0) : CU E H F bg B0 := by
  obtain ⟨hI, hC, hS, hD, hC2, hroot, hCW⟩ := h
  obtain ⟨i1, i2, i3, i4, i5, i6, i7, i8, i9, i10⟩ := hI
  exact ⟨fun q hq hb => ((hC q hq).1 hb).1, i7, i3, i4, i6, i8, hD, hC2, hroot, hB, hCW⟩
/-- the subscription ended during the call -/
def FIN (E : Env) (B0 T : Nat) (L : List Lg) (u : SX) : Prop :=
  ∃ (t M : Nat) (c : Nat → Nat) (lg : Nat → List Lg) (LG : List Lg) (H : Nat → List Ev) (F : Nat → Nat) (bg : Nat → Bool), CU (eU E t M c lg LG) H F bg B0 ∧ (∀ q, q < e_n E → c q ≤ T ∧ ∃ ex, L = lg q ++ ex ∧ ∀ g ∈ ex, M < g.2.2.2 + (q + 1)) ∧ RepU u (e_id E) (FS E H) ∧ (FS E H).1 ≠ 0
theorem ad_fin_mono {E : Env} {B0 T T' : Nat} {L : List Lg} {u u' : SX} (hT : T ≤ T') (hu : ∀ s, RepU u (e_id E) s → RepU u' (e_id E) s) (h : FIN E B0 T L u) : FIN E B0 T' L u' := by
  obtain ⟨t, M, c, lg, LG, H, F, bg, h1, h2, h3, h4⟩ := h
  exact ⟨t, M, c, lg, LG, H, F, bg, h1, fun q hq => ⟨Nat.le_trans (h2 q hq).1 hT, (h2 q hq).2⟩, hu _ h3, h4⟩
theorem ad_rn_c {E : Env} {t M : Nat} {c c' : Nat → Nat} {lg : Nat → List Lg} {LG : List Lg} {H : Nat → List Ev} {F : Nat → Nat} {q : Nat} (h : c' q = c q) : Rn (eU E t M c' lg LG) H F q = Rn (eU E t M c lg LG) H F q := by
  show RR (e_kd E q) (e_oa E q) (e_ob E q) q (F q) (lg q) (c' q) (H (e_xc E q)) (H (e_yc E q)) = RR (e_kd E q) (e_oa E q) (e_ob E q) q (F q) (lg q) (c q) (H (e_xc E q)) (H (e_yc E q))
  rw [h]
theorem ad_rst_c {E : Env} {t M : Nat} {c c' : Nat → Nat} {lg : Nat → List Lg} {LG : List Lg} {u : SX} {H : Nat → List Ev} {F : Nat → Nat} {bg : Nat → Bool} (h : ∀ q, q < e_n E → c' q = c q) (hR : RST (eU E t M c lg LG) u H F bg) : RST (eU E t M c' lg LG) u H F bg := by
  obtain ⟨hI, hC, hS, hD, hC2, hroot, hCW⟩ := hR
  refine ⟨hI, fun q hq => ?_, hS, hD, hC2, hroot, fun q hq => ?_⟩
  · have hc := hC q hq
    refine ⟨fun hb => ?_, hc.2⟩
    rw [ad_rn_c (h q hq)]
    exact hc.1 hb
  · have := hCW q hq
    show tm (c' q) q ≤ M ∧ M < tm (c' q + 1) q
    rw [h q hq]
    exact this
theorem ad_st {u : SX} {id : Nat} {s : Sb} (h : RepU u id s) : x_subStatus u id = s.1 := by
  obtain ⟨st, co, en, dm, dv, ws, hh⟩ := s
  exact h.1
section
variable {cc t : Nat} {LG : List Lg}
/-- one subscription's state before its part m fires at time t -/
def PI (E : Env) (B0 cc t : Nat) (LG : List Lg) (m : Nat) (u : SX) : Prop :=
  (∃ M H F bg, M < tm t m ∧ AR (eU E t M (fun q => if q < m then t else t - 1) (fun _ => LG) LG) B0 cc u H F bg ∧ (FS E H).1 = 0) ∨ FIN E B0 t LG u
theorem ad_new {E : Env} {B0 m M : Nat} {u u' : SX} {H H' : Nat → List Ev} {F F' : Nat → Nat} {bg bg' : Nat → Bool} (hT : TR E) (hm : m < e_n E) (ht : 1 ≤ t)
    (hA : AR (eU E t M (fun q => if q < m then t else t - 1) (fun _ => LG) LG) B0 cc u H F bg)
    (hR : RST (eM (eU E t M (fun q => if q < m then t else t - 1) (fun _ => LG) LG) (tm t m) (fup (fun q => if q < m then t else t - 1) m t) (fun _ => LG)) u' H' F' bg') (hph : ∀ k, e_n E ≤ k → k < 9 → x_phase u' (9 * e_id E + k) = 0) (hmono : ∀ r, r < e_n E → bg r = true → bg' r = true ∧ F' r = F r) (hnew : ∀ r, r < e_n E → bg' r = true → bg r = true ∨ F' r = tm t m) : PI E B0 cc t LG (m + 1) u' := by
  obtain ⟨hR0, hB, hmv, hpz⟩ := hA
  have h9 := hT.2.2.1
  have hroot : bg (e_n E - 1) = true := hR0.2.2.2.2.2.1
  have h1n := hT.2.1
  have hB' : F' (e_n E - 1) = B0 := (hmono _ (by omega) hroot).2.trans hB
  have hR1 : RST (eU E t (tm t m) (fun q => if q < m + 1 then t else t - 1) (fun _ => LG) LG) u' H' F' bg' := by
    refine ad_rst_c (c := fup (fun q => if q < m then t else t - 1) m t) (fun q hq => ?_) hR
    by_cases e : q = m
    · subst e; rw [fu_s, if_pos (by omega)]
    · rw [fu_n e]
      rcases Nat.lt_or_ge q m with z | z
      · rw [if_pos z, if_pos (by omega)]
      · rw [if_neg (by omega), if_neg (by omega)]
  have hmv' : ∀ q, q < e_n E → bg' q = true → mv cc (F' q) := by
    intro q hq hb
    rcases hnew q hq hb with z | z
    · rw [(hmono q hq z).2]; exact hmv q hq z
    · rw [z]
      intro y
      exfalso
      have : tm t m / 1099511627776 % 2 = 0 := by unfold tm; omega
      omega
  have hRU : RepU u' (e_id E) (FS E H') := hR1.1.2.2.2.2.1.2
  by_cases hs : (FS E H').1 = 0
  · exact Or.inl ⟨tm t m, H', F', bg', by unfold tm; omega, ⟨hR1, hB', hmv', hph⟩, hs⟩
  · refine Or.inr ⟨t, tm t m, (fun q => if q < m + 1 then t else t - 1), (fun _ => LG), LG, H', F', bg', ad_cu hR1 hB', fun q hq => ⟨?_, [], by simp, fun g hg => absurd hg (by simp)⟩, hRU, hs⟩
    dsimp only
    split <;> omega
theorem ad_inner {post : SX → Prop} {J : Int32 → Int32 → Int32 → Int32 → Int32 → (Nat → Int32) → (Nat → Int32) → (Nat → Int32) → (Nat → Int32) → (Nat → Int32) → (Nat → Int32) → (Nat → Int32) → (Nat → Int32) → (Nat → Int32) → (Nat → Int32) → (Nat → Int32) → (Nat → Int32) → (Nat → Int32) → (Nat → Int32) → (Nat → Int32) → (Nat → Int32) → (Nat → Int32) → (Nat → Int32) → (Nat → Int32) → (Nat → Int32) → (Nat → Int32) → (Nat → Int32) → (Nat → Int32) → (Nat → Int32) → (Nat → Int64) → (Nat → Int32) → (Nat → Int32) → (Nat → Int32) → (Nat → Int32) → (Nat → Int64) → (Nat → Int32) → (Nat → Int32) → (Nat → Int32) → Prop} {E : Env} {B0 : Nat} {z : St2} (hT : TR E) (ht : 1 ≤ t) (ht2 : t ≤ 200) (hLG : ∀ g ∈ LG, g.2.2.2 ≤ tm t 0) (S : SX → Prop) (hSt : ∀ u u', FR E 0 u u' → RepS u' [] → S u → S u') (u : SX) (hz : x_st2 u = z) (hS0 : RepS u []) (hSu : S u) (hP : PI E B0 cc t LG 0 u)
    (K : ∀ u', x_st2 u' = z → RepS u' [] → S u' → PI E B0 cc t LG 9 u' → J (nI (e_id E + 1)) (x_time u') (x_sent u') (x_stageCount u') (x_tasks u') (x_sourceEnded u') (x_stageKind u') (x_stageA u') (x_stageB u') (x_stageParts u') (x_partStage u') (x_partUser u') (x_partX u') (x_partY u') (x_phase u') (x_beganAfter u') (x_due u') (x_count u') (x_held u') (x_heldY u') (x_hasHeld u') (x_hasHeldY u') (x_queueSize u') (x_queueIsOfX u') (x_queueValue u') (x_queueDue u') (x_subStatus u') (x_subCode u') (x_subEnd u') (x_subDemand u') (x_subRequests u') (x_subDelivered u') (x_subWaiting u') (x_waitValue u') (x_history u') (x_taskWhat u') (x_taskPart u') (x_taskValue u')) : wX_runTimers_9 post J (nI (e_id E)) 10 0 (x_time u) (x_sent u) (x_stageCount u) (x_tasks u) (x_sourceEnded u) (x_stageKind u) (x_stageA u) (x_stageB u) (x_stageParts u) (x_partStage u) (x_partUser u) (x_partX u) (x_partY u) (x_phase u) (x_beganAfter u) (x_due u) (x_count u) (x_held u) (x_heldY u) (x_hasHeld u) (x_hasHeldY u) (x_queueSize u) (x_queueIsOfX u) (x_queueValue u) (x_queueDue u) (x_subStatus u) (x_subCode u) (x_subEnd u) (x_subDemand u) (x_subRequests u) (x_subDelivered u) (x_subWaiting u) (x_waitValue u) (x_history u) (x_taskWhat u) (x_taskPart u) (x_taskValue u) := by
  have h9 := hT.2.2.1
  refine xo_inner hT.1 (fun m u => x_st2 u = z ∧ RepS u [] ∧ S u ∧ PI E B0 cc t LG m u) ?_ ?_ 9 0 u rfl ⟨hz, hS0, hSu, hP⟩ (fun u' h => K u' h.1 h.2.1 h.2.2.1 h.2.2.2)
  · intro m u hm hP hs hp pst hK
    obtain ⟨hz, hS0, hSu, hP⟩ := hP
    rcases hP with hP | hP
    · obtain ⟨M, H, F, bg, hM, hA, hst⟩ := hP
      have hA0 := hA
      obtain ⟨hR, hB, hmv, hpz⟩ := hA
      by_cases hmn : m < e_n E
      · refine tt_fire (E := eU E t M (fun q => if q < m then t else t - 1) (fun _ => LG) LG) hT hR hmn ht rfl ht2 hM (fun r hr => if_pos hr) (fun r h1 h2 => ?_) hp (fun r hr g hg => hg) hLG (fun u' H' F' bg' k1 k2 k3 k4 => hK u' ?_)
        · show (if r < m then t else t - 1) + 1 = t
          rw [if_neg (by omega)]; omega
        · refine ⟨k2.1.trans hz, k1.2.2.1, hSt u u' k2 k1.2.2.1 hSu, ad_new hT hmn ht hA0 k1 (fun k h1 h2 => ?_) k3 k4⟩
          have := (k2.2.2.1 (9 * e_id E + k) (Or.inr (by show 9 * e_id E + e_n E ≤ 9 * e_id E + k; omega))).1
          rw [this]
          exact hpz k h1 h2
      · have := hpz m (show e_n E ≤ m by omega) hm
        have hp' : x_phase u (9 * e_id E + m) = 1 := hp
        rw [show x_phase u (9 * e_id E + m) = 0 from this] at hp'
        exact absurd hp' (by decide)
    · exfalso
      obtain ⟨t', M, c, lg, LG', H, F, bg, h1, h2, h3, h4⟩ := hP
      rw [ad_st h3] at hs
      exact h4 hs
  · intro m u hm hP hno
    obtain ⟨hz, hS0, hSu, hP⟩ := hP
    refine ⟨hz, hS0, hSu, ?_⟩
    rcases hP with hP | hP
    · obtain ⟨M, H, F, bg, hM, hA, hst⟩ := hP
      have hA0 := hA
      obtain ⟨hR, hB, hmv, hpz⟩ := hA
      have hRU : RepU u (e_id E) (FS E H) := hR.1.2.2.2.2.1.2
      have hst' : x_subStatus u (e_id E) = 0 := by rw [ad_st hRU]; exact hst
      by_cases hmn : m < e_n E
      · have hskip := tt_skip (E := eU E t M (fun q => if q < m then t else t - 1) (fun _ => LG) LG) hT hR hmn ht hM (fun r hr => if_pos hr) (fun r h1 h2 => by
          show (if r < m then t else t - 1) + 1 = t
          rw [if_neg (by omega)]; omega) (fun y => hno ⟨hst', y⟩)
        exact ad_new hT hmn ht hA0 hskip hpz (fun r _ h => ⟨h, rfl⟩) (fun r _ h => Or.inl h)
      · refine Or.inl ⟨M, H, F, bg, by unfold tm at hM ⊢; omega, ⟨ad_rst_c (fun q hq => ?_) hR, hB, hmv, hpz⟩, hst⟩
        rw [if_pos (by omega), if_pos (by omega)]
    · exact Or.inr hP
end
end
section
/-! ===== advance, the loops ===== -/
abbrev CD : Type := (Nat → Bool) × (Nat → Env) × (Nat → Nat) × (Nat → Sb)
def cdOK (D : CD) : Prop := ∀ j, j < 3 → D.1 j = true → TR (D.2.1 j) ∧ e_id (D.2.1 j) = j
def PJ (D : CD) (cc t : Nat) (LG : List Lg) (m j : Nat) (u : SX) : Prop :=
  if D.1 j = true then PI (D.2.1 j) (D.2.2.1 j) cc t LG m u else RepU u j (D.2.2.2 j) ∧ (D.2.2.2 j).1 ≠ 0
def PA (D : CD) (cc t : Nat) (LG : List Lg) (j : Nat) (u : SX) : Prop :=
  if D.1 j = true then ((∃ M H F bg, M < mo t 1 (cc + 1) ∧ AR (eU (D.2.1 j) t M (fun _ => t) (fun _ => LG) LG) (D.2.2.1 j) cc u H F bg ∧ (FS (D.2.1 j) H).1 = 0) ∨ FIN (D.2.1 j) (D.2.2.1 j) t LG u) else RepU u j (D.2.2.2 j) ∧ (D.2.2.2 j).1 ≠ 0
theorem av_fo {E : Env} {B0 cc t m : Nat} {LG : List Lg} {u u' : SX} (hT : TR E) (hf : FO (e_id E) u u') (h : PI E B0 cc t LG m u) : PI E B0 cc t LG m u' := by
  rcases h with h | h
  · obtain ⟨M, H, F, bg, hM, ⟨hR, hB, hmv, hpz⟩, hs⟩ := h
    refine Or.inl ⟨M, H, F, bg, hM, ⟨xo_rst (E := eU E t M (fun q => if q < m then t else t - 1) (fun _ => LG) LG) hT hR hf, hB, hmv, fun k h1 h2 => ?_⟩, hs⟩
    have := (hf.2.1 (9 * e_id E + k) (by omega) (by omega)).2.1
    have h0 := hpz k h1 h2
    show x_phase u' (9 * e_id E + k) = 0
    rw [this]; exact h0
  · exact Or.inr (ad_fin_mono (Nat.le_refl _) hf.2.2.1 h)
theorem av_pj {D : CD} {cc t m j : Nat} {LG : List Lg} {u u' : SX} (hD : cdOK D) (hj : j < 3) (hf : FO j u u') (h : PJ D cc t LG m j u) : PJ D cc t LG m j u' := by
  unfold PJ at h ⊢
  by_cases ha : D.1 j = true
  · rw [if_pos ha] at h ⊢
    have hd := hD j hj ha
    exact av_fo hd.1 (by rw [hd.2]; exact hf) h
  · rw [if_neg ha] at h ⊢
    exact ⟨hf.2.2.1 _ h.1, h.2⟩
theorem av_timers {post : SX → Prop} {D : CD} {cc t : Nat} {LG : List Lg} {u : SX} (hD : cdOK D) (ht : 1 ≤ t) (ht2 : t ≤ 200) (hLG : ∀ g ∈ LG, g.2.2.2 ≤ tm t 0) (hS : RepS u []) (h : ∀ j, j < 3 → PJ D cc t LG 0 j u)
    (K : ∀ u', x_st2 u' = x_st2 u → RepS u' [] → (∀ j, j < 3 → PJ D cc t LG 9 j u') → post u') : wpX_runTimers post u := by
  refine xo_outer (fun id v => x_st2 v = x_st2 u ∧ RepS v [] ∧ (∀ j, j < 3 → PJ D cc t LG (if j < id then 9 else 0) j v)) ?_ u ⟨rfl, hS, fun j hj => h j hj⟩ (fun u' hq => K u' hq.1 hq.2.1 (fun j hj => by have := hq.2.2 j hj; rw [if_pos (by omega)] at this; exact this))
  intro id v hid hQ J hK
  obtain ⟨hz, hS, hP⟩ := hQ
  have hPid := hP id hid
  rw [if_neg (by omega)] at hPid
  unfold PJ at hPid
  by_cases ha : D.1 id = true
  · rw [if_pos ha] at hPid
    obtain ⟨hT, hei⟩ := hD id hid ha
    have hgo := ad_inner (post := post) (J := J) (E := D.2.1 id) (B0 := D.2.2.1 id) (cc := cc) (t := t) (LG := LG) (z := x_st2 u) hT ht ht2 hLG (fun w => ∀ j, j < 3 → j ≠ id → PJ D cc t LG (if j < id then 9 else 0) j w) (fun w w' hfr hS' hw j hj hne => av_pj hD hj (xo_of hT (by rw [hei]; exact hne) hfr hS') (hw j hj hne)) v hz hS (fun j hj _ => hP j hj) hPid ?_
    · rw [hei] at hgo; exact hgo
    · intro u' h1 h2 h3 h4
      rw [hei]
      refine hK u' ⟨h1, h2, fun j hj => ?_⟩
      by_cases hji : j = id
      · subst hji
        rw [if_pos (by omega)]
        unfold PJ
        rw [if_pos ha]
        exact h4
      · have := h3 j hj hji
        rcases Nat.lt_or_ge j id with y | y
        · rw [if_pos y] at this; rw [if_pos (by omega)]; exact this
        · rw [if_neg (by omega)] at this; rw [if_neg (by omega)]; exact this
  · rw [if_neg ha] at hPid
    refine xo_inner hid (fun _ w => w = v) (fun m w hm hw hs hp => ?_) (fun m w hm hw _ => hw) 9 0 v rfl rfl (fun u' hu' => ?_)
    · subst hw
      rw [ad_st hPid.1] at hs
      exact absurd hs hPid.2
    · subst hu'
      refine hK u' ⟨hz, hS, fun j hj => ?_⟩
      by_cases hji : j = id
      · subst hji
        rw [if_pos (by omega)]
        unfold PJ
        rw [if_neg ha]
        exact hPid
      · have := hP j hj
        rcases Nat.lt_or_ge j id with y | y
        · rw [if_pos y] at this; rw [if_pos (by omega)]; exact this
        · rw [if_neg (by omega)] at this; rw [if_neg (by omega)]; exact this
section
variable {f_time : Int32} {f_sent : Int32} {f_stageCount : Int32} {f_tasks : Int32} {a_sourceEnded : (Nat → Int32)} {a_stageKind : (Nat → Int32)} {a_stageA : (Nat → Int32)} {a_stageB : (Nat → Int32)} {a_stageParts : (Nat → Int32)} {a_partStage : (Nat → Int32)} {a_partUser : (Nat → Int32)} {a_partX : (Nat → Int32)} {a_partY : (Nat → Int32)} {a_phase : (Nat → Int32)} {a_beganAfter : (Nat → Int32)} {a_due : (Nat → Int32)} {a_count : (Nat → Int32)} {a_held : (Nat → Int32)} {a_heldY : (Nat → Int32)} {a_hasHeld : (Nat → Int32)} {a_hasHeldY : (Nat → Int32)} {a_queueSize : (Nat → Int32)} {a_queueIsOfX : (Nat → Int32)} {a_queueValue : (Nat → Int32)} {a_queueDue : (Nat → Int32)} {a_subStatus : (Nat → Int32)} {a_subCode : (Nat → Int32)} {a_subEnd : (Nat → Int32)} {a_subDemand : (Nat → Int64)} {a_subRequests : (Nat → Int32)} {a_subDelivered : (Nat → Int32)} {a_subWaiting : (Nat → Int32)} {a_waitValue : (Nat → Int32)} {a_history : (Nat → Int64)} {a_taskWhat : (Nat → Int32)} {a_taskPart : (Nat → Int32)} {a_taskValue : (Nat → Int32)}
theorem av_time {E : Env} {t t' M : Nat} {c : Nat → Nat} {lg : Nat → List Lg} {LG : List Lg} {H : Nat → List Ev} {F : Nat → Nat} {bg : Nat → Bool} (ht' : t' ≤ 200) (h : RST (eU E t M c lg LG) (f_time, f_sent, f_stageCount, f_tasks, a_sourceEnded, a_stageKind, a_stageA, a_stageB, a_stageParts, a_partStage, a_partUser, a_partX, a_partY, a_phase, a_beganAfter, a_due, a_count, a_held, a_heldY, a_hasHeld, a_hasHeldY, a_queueSize, a_queueIsOfX, a_queueValue, a_queueDue, a_subStatus, a_subCode, a_subEnd, a_subDemand, a_subRequests, a_subDelivered, a_subWaiting, a_waitValue, a_history, a_taskWhat, a_taskPart, a_taskValue) H F bg) : RST (eU E t' M c lg LG) (nI t', f_sent, f_stageCount, f_tasks, a_sourceEnded, a_stageKind, a_stageA, a_stageB, a_stageParts, a_partStage, a_partUser, a_partX, a_partY, a_phase, a_beganAfter, a_due, a_count, a_held, a_heldY, a_hasHeld, a_hasHeldY, a_queueSize, a_queueIsOfX, a_queueValue, a_queueDue, a_subStatus, a_subCode, a_subEnd, a_subDemand, a_subRequests, a_subDelivered, a_subWaiting, a_waitValue, a_history, a_taskWhat, a_taskPart, a_taskValue) H F bg := by
  obtain ⟨hI, hC, hS, hD, hC2, hroot, hCW⟩ := h
  obtain ⟨i1, i2, i3, i4, i5, i6, i7, i8, i9, i10⟩ := hI
  refine ⟨⟨⟨rfl, fun p hp => ?_⟩, i2, i3, i4, ⟨i5.1, xe_ru' (xe_ru i5.2)⟩, i6, i7, i8, i9, i10⟩, fun q hq => ?_, xe_stk' (xe_stk hS).1 (xe_stk hS).2, hD, hC2, hroot, hCW⟩
  · obtain ⟨k1, k2, k3⟩ := i1.2 p hp
    obtain ⟨a1, a2, a3, a4⟩ := xg_of_HZ k1
    exact ⟨⟨a1, rfl, ht', a4⟩, k2, k3⟩
  · have hc := hC q hq
    exact ⟨fun hb => ⟨(hc.1 hb).1, fun hf => ⟨xe_rep' (xe_rep ((hc.1 hb).2 hf).1), ((hc.1 hb).2 hf).2⟩⟩, fun hb => xe_rep' (xe_rep (hc.2 hb))⟩
end
theorem av_mo (t : Nat) {cc : Nat} (h : cc < 4000000000) : mo t 1 (cc + 1) < tm (t + 1) 0 := by
  unfold tm mo
  rw [Nat.add_mul t 1, Nat.one_mul, Nat.one_mul, Nat.zero_mul, Nat.add_zero, Nat.add_assoc]
  exact Nat.add_lt_add_left (n := 1099511627776 + (cc + 1) * 256) (m := 2199023255552) (by omega) (t * 2199023255552)
section
variable {f_time : Int32} {f_sent : Int32} {f_stageCount : Int32} {f_tasks : Int32} {a_sourceEnded : (Nat → Int32)} {a_stageKind : (Nat → Int32)} {a_stageA : (Nat → Int32)} {a_stageB : (Nat → Int32)} {a_stageParts : (Nat → Int32)} {a_partStage : (Nat → Int32)} {a_partUser : (Nat → Int32)} {a_partX : (Nat → Int32)} {a_partY : (Nat → Int32)} {a_phase : (Nat → Int32)} {a_beganAfter : (Nat → Int32)} {a_due : (Nat → Int32)} {a_count : (Nat → Int32)} {a_held : (Nat → Int32)} {a_heldY : (Nat → Int32)} {a_hasHeld : (Nat → Int32)} {a_hasHeldY : (Nat → Int32)} {a_queueSize : (Nat → Int32)} {a_queueIsOfX : (Nat → Int32)} {a_queueValue : (Nat → Int32)} {a_queueDue : (Nat → Int32)} {a_subStatus : (Nat → Int32)} {a_subCode : (Nat → Int32)} {a_subEnd : (Nat → Int32)} {a_subDemand : (Nat → Int64)} {a_subRequests : (Nat → Int32)} {a_subDelivered : (Nat → Int32)} {a_subWaiting : (Nat → Int32)} {a_waitValue : (Nat → Int32)} {a_history : (Nat → Int64)} {a_taskWhat : (Nat → Int32)} {a_taskPart : (Nat → Int32)} {a_taskValue : (Nat → Int32)}
theorem av_pa_time {D : CD} {cc t j : Nat} {LG : List Lg} (hcc : cc < 4000000000) (ht' : t + 1 ≤ 200) (h : PA D cc t LG j (f_time, f_sent, f_stageCount, f_tasks, a_sourceEnded, a_stageKind, a_stageA, a_stageB, a_stageParts, a_partStage, a_partUser, a_partX, a_partY, a_phase, a_beganAfter, a_due, a_count, a_held, a_heldY, a_hasHeld, a_hasHeldY, a_queueSize, a_queueIsOfX, a_queueValue, a_queueDue, a_subStatus, a_subCode, a_subEnd, a_subDemand, a_subRequests, a_subDelivered, a_subWaiting, a_waitValue, a_history, a_taskWhat, a_taskPart, a_taskValue)) : PJ D cc (t + 1) LG 0 j (nI (t + 1), f_sent, f_stageCount, f_tasks, a_sourceEnded, a_stageKind, a_stageA, a_stageB, a_stageParts, a_partStage, a_partUser, a_partX, a_partY, a_phase, a_beganAfter, a_due, a_count, a_held, a_heldY, a_hasHeld, a_hasHeldY, a_queueSize, a_queueIsOfX, a_queueValue, a_queueDue, a_subStatus, a_subCode, a_subEnd, a_subDemand, a_subRequests, a_subDelivered, a_subWaiting, a_waitValue, a_history, a_taskWhat, a_taskPart, a_taskValue) := by
  unfold PA at h
  unfold PJ
  by_cases ha : D.1 j = true
  · rw [if_pos ha] at h ⊢
    rcases h with h | h
    · obtain ⟨M, H, F, bg, hM, ⟨hR, hB, hmv, hpz⟩, hs⟩ := h
      refine Or.inl ⟨M, H, F, bg, Nat.lt_trans hM (av_mo t hcc), ⟨ad_rst_c (c := fun _ => t) (fun q _ => ?_) (av_time ht' hR), hB, hmv, hpz⟩, hs⟩
      rw [if_neg (by omega)]
      omega
    · exact Or.inr (ad_fin_mono (by omega) (fun s hs => xe_ru' (xe_ru hs)) h)
  · rw [if_neg ha] at h ⊢
    exact ⟨xe_ru' (xe_ru h.1), h.2⟩
end
theorem av_tm9 (t cc : Nat) : tm t 9 < mo t 1 (cc + 1) := by
  unfold tm mo
  rw [Nat.one_mul, Nat.add_assoc]
  exact Nat.add_lt_add_left (n := 9 * 256) (m := 1099511627776 + (cc + 1) * 256) (by omega) (t * 2199023255552)
theorem av_pj_pa {D : CD} {cc t j : Nat} {LG : List Lg} {u : SX} (hD : cdOK D) (hj : j < 3) (h : PJ D cc t LG 9 j u) : PA D cc t LG j u := by
  unfold PJ at h
  unfold PA
  by_cases ha : D.1 j = true
  · rw [if_pos ha] at h ⊢
    have h9 := (hD j hj ha).1.2.2.1
    rcases h with h | h
    · obtain ⟨M, H, F, bg, hM, ⟨hR, hB, hmv, hpz⟩, hs⟩ := h
      refine Or.inl ⟨M, H, F, bg, ?_, ⟨ad_rst_c (fun q hq => ?_) hR, hB, hmv, hpz⟩, hs⟩
      · exact Nat.lt_trans hM (av_tm9 t cc)
      · rw [if_pos (by omega)]
    · exact Or.inr h
  · rw [if_neg ha] at h ⊢
    exact h
def setT (t : Int32) : St2 → St2
  | (_, b) => (t, b)
theorem av_loop {post : Int32 → SX → Prop} {D : CD} {cc t0 d : Nat} {LG : List Lg} {z : St2} (hcc : cc < 4000000000) (hD : cdOK D) (ht : t0 + d ≤ 200) (hLG : ∀ g ∈ LG, g.2.2.2 ≤ tm (t0 + 1) 0)
    (K : ∀ u', x_st2 u' = setT (nI (t0 + d)) z → RepS u' [] → (∀ j, j < 3 → PA D cc (t0 + d) LG j u') → post (nI (t0 + d)) u') :
    ∀ (e i : Nat) (u : SX), i + e = d → x_st2 u = setT (nI (t0 + i)) z → RepS u [] → (∀ j, j < 3 → PA D cc (t0 + i) LG j u) → wX_advance_21 post (nI d) (e + 1) (nI i) (x_time u) (x_sent u) (x_stageCount u) (x_tasks u) (x_sourceEnded u) (x_stageKind u) (x_stageA u) (x_stageB u) (x_stageParts u) (x_partStage u) (x_partUser u) (x_partX u) (x_partY u) (x_phase u) (x_beganAfter u) (x_due u) (x_count u) (x_held u) (x_heldY u) (x_hasHeld u) (x_hasHeldY u) (x_queueSize u) (x_queueIsOfX u) (x_queueValue u) (x_queueDue u) (x_subStatus u) (x_subCode u) (x_subEnd u) (x_subDemand u) (x_subRequests u) (x_subDelivered u) (x_subWaiting u) (x_waitValue u) (x_history u) (x_taskWhat u) (x_taskPart u) (x_taskValue u) := by
  intro e
  induction e with
  | zero =>
    intro i u hi hz hS hP
    have : i = d := by omega
    subst this
    have h := K u hz hS hP
    have ht1 : x_time u = nI (t0 + i) := congrArg (fun w => w.1) hz
    obtain ⟨f_time, f_sent, f_stageCount, f_tasks, a_sourceEnded, a_stageKind, a_stageA, a_stageB, a_stageParts, a_partStage, a_partUser, a_partX, a_partY, a_phase, a_beganAfter, a_due, a_count, a_held, a_heldY, a_hasHeld, a_hasHeldY, a_queueSize, a_queueIsOfX, a_queueValue, a_queueDue, a_subStatus, a_subCode, a_subEnd, a_subDemand, a_subRequests, a_subDelivered, a_subWaiting, a_waitValue, a_history, a_taskWhat, a_taskPart, a_taskValue⟩ := u
    have ht2 : f_time = nI (t0 + i) := ht1
    refine br_t (nI_le (by omega) (by omega)) ?_
    rw [← ht2] at h
    exact h
  | succ e ih =>
    intro i u hi hz hS hP
    have ht1 : x_time u = nI (t0 + i) := congrArg (fun w => w.1) hz
    obtain ⟨f_time, f_sent, f_stageCount, f_tasks, a_sourceEnded, a_stageKind, a_stageA, a_stageB, a_stageParts, a_partStage, a_partUser, a_partX, a_partY, a_phase, a_beganAfter, a_due, a_count, a_held, a_heldY, a_hasHeld, a_hasHeldY, a_queueSize, a_queueIsOfX, a_queueValue, a_queueDue, a_subStatus, a_subCode, a_subEnd, a_subDemand, a_subRequests, a_subDelivered, a_subWaiting, a_waitValue, a_history, a_taskWhat, a_taskPart, a_taskValue⟩ := u
    have ht2 : f_time = nI (t0 + i) := ht1
    have e1 : f_time + 1 = nI (t0 + i + 1) := by rw [ht2, nI_1]
    refine br_f (nI_ge (by omega) (by omega)) (nm_r e1 ?_)
    have hz' : x_st2 (nI (t0 + i + 1), f_sent, f_stageCount, f_tasks, a_sourceEnded, a_stageKind, a_stageA, a_stageB, a_stageParts, a_partStage, a_partUser, a_partX, a_partY, a_phase, a_beganAfter, a_due, a_count, a_held, a_heldY, a_hasHeld, a_hasHeldY, a_queueSize, a_queueIsOfX, a_queueValue, a_queueDue, a_subStatus, a_subCode, a_subEnd, a_subDemand, a_subRequests, a_subDelivered, a_subWaiting, a_waitValue, a_history, a_taskWhat, a_taskPart, a_taskValue) = setT (nI (t0 + i + 1)) z := by
      rw [xe_st2]
      have h2 := xe_st2.symm.trans hz
      obtain ⟨zt, zr⟩ := z
      have h3 := congrArg (fun w => w.2) h2
      exact congrArg (fun w => (nI (t0 + i + 1), w)) h3
    refine av_timers (D := D) (cc := cc) (t := t0 + i + 1) (LG := LG) hD (by omega) (by omega) (fun g hg => Nat.le_trans (hLG g hg) (by unfold tm; exact Nat.add_le_add_right (Nat.mul_le_mul_right _ (by omega)) _)) (xe_stk' (xe_stk hS).1 (xe_stk hS).2) (fun j hj => av_pa_time hcc (by omega) (hP j hj)) (fun u' h1 h2 h3 => ?_)
    have h4 := ih (i + 1) u' (by omega) (h1.trans hz') h2 (fun j hj => av_pj_pa hD hj (h3 j hj))
    obtain ⟨f_time, f_sent, f_stageCount, f_tasks, a_sourceEnded, a_stageKind, a_stageA, a_stageB, a_stageParts, a_partStage, a_partUser, a_partX, a_partY, a_phase, a_beganAfter, a_due, a_count, a_held, a_heldY, a_hasHeld, a_hasHeldY, a_queueSize, a_queueIsOfX, a_queueValue, a_queueDue, a_subStatus, a_subCode, a_subEnd, a_subDemand, a_subRequests, a_subDelivered, a_subWaiting, a_waitValue, a_history, a_taskWhat, a_taskPart, a_taskValue⟩ := u'
    exact nm_r (nI_1 i) h4
theorem av_setT {u : SX} {t : Int32} (h : x_time u = t) : x_st2 u = setT t (x_st2 u) := by
  subst h; rfl
theorem av_advance {post : Int32 → SX → Prop} {D : CD} {cc t0 d : Nat} {LG : List Lg} {u : SX} (hcc : cc < 4000000000) (hD : cdOK D) (ht : t0 + d ≤ 200) (htu : x_time u = nI t0) (hLG : ∀ g ∈ LG, g.2.2.2 ≤ tm (t0 + 1) 0) (hS : RepS u []) (hP : ∀ j, j < 3 → PA D cc t0 LG j u)
    (K : ∀ u', x_st2 u' = setT (nI (t0 + d)) (x_st2 u) → RepS u' [] → (∀ j, j < 3 → PA D cc (t0 + d) LG j u') → post (nI (t0 + d)) u') : wpX_advance post u (nI d) := by
  have h := av_loop (post := post) (z := x_st2 u) hcc hD ht hLG K d 0 u (by omega) (av_setT htu) hS hP
  obtain ⟨f_time, f_sent, f_stageCount, f_tasks, a_sourceEnded, a_stageKind, a_stageA, a_stageB, a_stageParts, a_partStage, a_partUser, a_partX, a_partY, a_phase, a_beganAfter, a_due, a_count, a_held, a_heldY, a_hasHeld, a_hasHeldY, a_queueSize, a_queueIsOfX, a_queueValue, a_queueDue, a_subStatus, a_subCode, a_subEnd, a_subDemand, a_subRequests, a_subDelivered, a_subWaiting, a_waitValue, a_history, a_taskWhat, a_taskPart, a_taskValue⟩ := u
  have ht2 : f_time = nI t0 := htu
  refine br_f (nI_pos (by omega)) (br_t ?_ ⟨d + 1, h⟩)
  rw [ht2, show (200 : Int32) = nI 200 from rfl, pk_sub (by omega)]
  exact nI_le (by omega) (by omega)
end
section
/-! ===== send ===== -/
def SC (id m s : Nat) (u : SX) : Prop := x_subStatus u id = 0 ∧ x_phase u (9 * id + m) = 1 ∧ x_stageKind u (x_partStage u (9 * id + m)).toNatClampNeg = 0 ∧ x_stageA u (x_partStage u (9 * id + m)).toNatClampNeg = nI s ∧ ¬ x_sent u ≤ x_beganAfter u (9 * id + m)
theorem sn_inner {post : Int32 → SX → Prop} {J0 : Int32 → Int32 → Int32 → Int32 → Int32 → (Nat → Int32) → (Nat → Int32) → (Nat → Int32) → (Nat → Int32) → (Nat → Int32) → (Nat → Int32) → (Nat → Int32) → (Nat → Int32) → (Nat → Int32) → (Nat → Int32) → (Nat → Int32) → (Nat → Int32) → (Nat → Int32) → (Nat → Int32) → (Nat → Int32) → (Nat → Int32) → (Nat → Int32) → (Nat → Int32) → (Nat → Int32) → (Nat → Int32) → (Nat → Int32) → (Nat → Int32) → (Nat → Int32) → (Nat → Int32) → (Nat → Int64) → (Nat → Int32) → (Nat → Int32) → (Nat → Int32) → (Nat → Int32) → (Nat → Int64) → (Nat → Int32) → (Nat → Int32) → (Nat → Int32) → Prop} {id s w : Nat} {v : Int32} (hid : id < 3) (P : Nat → SX → Prop)
    (hst : ∀ m u, m < 9 → P m u → x_subStatus u id = 0 → x_phase u (9 * id + m) = 1 → ∃ σ, σ < 12 ∧ x_partStage u (9 * id + m) = nI σ)
    (hgo : ∀ m u, m < 9 → P m u → SC id m s u → ∀ pst : SX → Prop, (∀ u', P (m + 1) u' → pst u') → wpX_push (fun u1 => match u1 with | (f_time, f_sent, f_stageCount, f_tasks, a_sourceEnded, a_stageKind, a_stageA, a_stageB, a_stageParts, a_partStage, a_partUser, a_partX, a_partY, a_phase, a_beganAfter, a_due, a_count, a_held, a_heldY, a_hasHeld, a_hasHeldY, a_queueSize, a_queueIsOfX, a_queueValue, a_queueDue, a_subStatus, a_subCode, a_subEnd, a_subDemand, a_subRequests, a_subDelivered, a_subWaiting, a_waitValue, a_history, a_taskWhat, a_taskPart, a_taskValue) => wpX_runTasks pst (f_time, f_sent, f_stageCount, f_tasks, a_sourceEnded, a_stageKind, a_stageA, a_stageB, a_stageParts, a_partStage, a_partUser, a_partX, a_partY, a_phase, a_beganAfter, a_due, a_count, a_held, a_heldY, a_hasHeld, a_hasHeldY, a_queueSize, a_queueIsOfX, a_queueValue, a_queueDue, a_subStatus, a_subCode, a_subEnd, a_subDemand, a_subRequests, a_subDelivered, a_subWaiting, a_waitValue, a_history, a_taskWhat, a_taskPart, a_taskValue) (nI id)) u (nI w) (nI (9 * id + m)) v)
    (hno : ∀ m u, m < 9 → P m u → ¬ SC id m s u → P (m + 1) u) :
    ∀ (e m : Nat) (u : SX), m + e = 9 → P m u → (∀ u', P 9 u' → J0 (nI (id + 1)) (x_time u') (x_sent u') (x_stageCount u') (x_tasks u') (x_sourceEnded u') (x_stageKind u') (x_stageA u') (x_stageB u') (x_stageParts u') (x_partStage u') (x_partUser u') (x_partX u') (x_partY u') (x_phase u') (x_beganAfter u') (x_due u') (x_count u') (x_held u') (x_heldY u') (x_hasHeld u') (x_hasHeldY u') (x_queueSize u') (x_queueIsOfX u') (x_queueValue u') (x_queueDue u') (x_subStatus u') (x_subCode u') (x_subEnd u') (x_subDemand u') (x_subRequests u') (x_subDelivered u') (x_subWaiting u') (x_waitValue u') (x_history u') (x_taskWhat u') (x_taskPart u') (x_taskValue u')) → wX_send_67 post J0 (nI w) (nI s) v (nI id) (e + 1) (nI m) (x_time u) (x_sent u) (x_stageCount u) (x_tasks u) (x_sourceEnded u) (x_stageKind u) (x_stageA u) (x_stageB u) (x_stageParts u) (x_partStage u) (x_partUser u) (x_partX u) (x_partY u) (x_phase u) (x_beganAfter u) (x_due u) (x_count u) (x_held u) (x_heldY u) (x_hasHeld u) (x_hasHeldY u) (x_queueSize u) (x_queueIsOfX u) (x_queueValue u) (x_queueDue u) (x_subStatus u) (x_subCode u) (x_subEnd u) (x_subDemand u) (x_subRequests u) (x_subDelivered u) (x_subWaiting u) (x_waitValue u) (x_history u) (x_taskWhat u) (x_taskPart u) (x_taskValue u) := by
  have hcl : (nI id).toNatClampNeg = id := nI_clamp (by omega)
  have hin : vp_in (nI id) 3 := vp_in_nI hid (by decide)
  intro e
  induction e with
  | zero =>
    intro m u hm hP K
    have : m = 9 := by omega
    subst this
    exact br_t (by decide) (nm_r (nI_1 id) (K u hP))
  | succ e ih =>
    intro m u hm hP K
    have e3 : nI id * 9 + nI m = nI (9 * id + m) := by rw [show (9 : Int32) = nI 9 from rfl, pk_mul, nI_add, Nat.mul_comm]
    have hc3 : (nI (9 * id + m)).toNatClampNeg = 9 * id + m := nI_clamp (by omega)
    have hi27 : vp_in (nI (9 * id + m)) 27 := vp_in_nI (by omega) (by decide)
    refine br_f (nI_ge (b := 9) (by omega) (by decide)) (nm_r e3 ?_)
    have skip : ¬ SC id m s u → ∀ x : Int32, x = nI m + 1 → wX_send_67 post J0 (nI w) (nI s) v (nI id) (e + 1) x (x_time u) (x_sent u) (x_stageCount u) (x_tasks u) (x_sourceEnded u) (x_stageKind u) (x_stageA u) (x_stageB u) (x_stageParts u) (x_partStage u) (x_partUser u) (x_partX u) (x_partY u) (x_phase u) (x_beganAfter u) (x_due u) (x_count u) (x_held u) (x_heldY u) (x_hasHeld u) (x_hasHeldY u) (x_queueSize u) (x_queueIsOfX u) (x_queueValue u) (x_queueDue u) (x_subStatus u) (x_subCode u) (x_subEnd u) (x_subDemand u) (x_subRequests u) (x_subDelivered u) (x_subWaiting u) (x_waitValue u) (x_history u) (x_taskWhat u) (x_taskPart u) (x_taskValue u) := fun hn => nm_r (nI_1 m) (ih (m + 1) u (by omega) (hno m u (by omega) hP hn) K)
    -- isRunningSource
    have key : ∀ post2 : Int32 → Prop, ((x_subStatus u id = 0 ∧ x_phase u (9 * id + m) = 1 ∧ x_stageKind u (x_partStage u (9 * id + m)).toNatClampNeg = 0 ∧ x_stageA u (x_partStage u (9 * id + m)).toNatClampNeg = nI s) → post2 1) → (¬ (x_subStatus u id = 0 ∧ x_phase u (9 * id + m) = 1 ∧ x_stageKind u (x_partStage u (9 * id + m)).toNatClampNeg = 0 ∧ x_stageA u (x_partStage u (9 * id + m)).toNatClampNeg = nI s) → post2 0) → wpX_isRunningSource post2 u (nI id) (nI (9 * id + m)) (nI s) := by
      intro post2 h1 h2
      have hst' := hst m u (by omega) hP
      obtain ⟨f_time, f_sent, f_stageCount, f_tasks, a_sourceEnded, a_stageKind, a_stageA, a_stageB, a_stageParts, a_partStage, a_partUser, a_partX, a_partY, a_phase, a_beganAfter, a_due, a_count, a_held, a_heldY, a_hasHeld, a_hasHeldY, a_queueSize, a_queueIsOfX, a_queueValue, a_queueDue, a_subStatus, a_subCode, a_subEnd, a_subDemand, a_subRequests, a_subDelivered, a_subWaiting, a_waitValue, a_history, a_taskWhat, a_taskPart, a_taskValue⟩ := u
      have hst2 : a_subStatus id = 0 → a_phase (9 * id + m) = 1 → ∃ σ, σ < 12 ∧ a_partStage (9 * id + m) = nI σ := hst'
      refine ⟨hin, ?_⟩
      by_cases g1 : a_subStatus id = 0
      · refine br_t (by rw [hcl]; exact g1) ⟨hi27, ?_⟩
        by_cases g2 : a_phase (9 * id + m) = 1
        · obtain ⟨σ, hσ, eσ⟩ := hst2 g1 g2
          have hcσ : (nI σ).toNatClampNeg = σ := nI_clamp (by omega)
          have hiσ : vp_in (nI σ) 12 := vp_in_nI hσ (by decide)
          refine br_t (by rw [hc3]; exact g2) ⟨hi27, nm_r (e' := nI σ) (by rw [hc3]; exact eσ) ⟨hiσ, ?_⟩⟩
          by_cases g3 : a_stageKind (nI σ).toNatClampNeg = 0
          · refine br_t g3 ⟨hiσ, ?_⟩
            by_cases g4 : a_stageA (nI σ).toNatClampNeg = nI s
            · refine br_t g4 ?_
              refine h1 ⟨g1, g2, ?_, ?_⟩
              · rw [show x_partStage (f_time, f_sent, f_stageCount, f_tasks, a_sourceEnded, a_stageKind, a_stageA, a_stageB, a_stageParts, a_partStage, a_partUser, a_partX, a_partY, a_phase, a_beganAfter, a_due, a_count, a_held, a_heldY, a_hasHeld, a_hasHeldY, a_queueSize, a_queueIsOfX, a_queueValue, a_queueDue, a_subStatus, a_subCode, a_subEnd, a_subDemand, a_subRequests, a_subDelivered, a_subWaiting, a_waitValue, a_history, a_taskWhat, a_taskPart, a_taskValue) (9 * id + m) = nI σ from eσ]; exact g3
              · rw [show x_partStage (f_time, f_sent, f_stageCount, f_tasks, a_sourceEnded, a_stageKind, a_stageA, a_stageB, a_stageParts, a_partStage, a_partUser, a_partX, a_partY, a_phase, a_beganAfter, a_due, a_count, a_held, a_heldY, a_hasHeld, a_hasHeldY, a_queueSize, a_queueIsOfX, a_queueValue, a_queueDue, a_subStatus, a_subCode, a_subEnd, a_subDemand, a_subRequests, a_subDelivered, a_subWaiting, a_waitValue, a_history, a_taskWhat, a_taskPart, a_taskValue) (9 * id + m) = nI σ from eσ]; exact g4
            · refine br_f g4 (h2 (fun z => g4 ?_))
              have := z.2.2.2
              rw [show x_partStage (f_time, f_sent, f_stageCount, f_tasks, a_sourceEnded, a_stageKind, a_stageA, a_stageB, a_stageParts, a_partStage, a_partUser, a_partX, a_partY, a_phase, a_beganAfter, a_due, a_count, a_held, a_heldY, a_hasHeld, a_hasHeldY, a_queueSize, a_queueIsOfX, a_queueValue, a_queueDue, a_subStatus, a_subCode, a_subEnd, a_subDemand, a_subRequests, a_subDelivered, a_subWaiting, a_waitValue, a_history, a_taskWhat, a_taskPart, a_taskValue) (9 * id + m) = nI σ from eσ] at this
              exact this
          · refine br_f g3 (h2 (fun z => g3 ?_))
            have := z.2.2.1
            rw [show x_partStage (f_time, f_sent, f_stageCount, f_tasks, a_sourceEnded, a_stageKind, a_stageA, a_stageB, a_stageParts, a_partStage, a_partUser, a_partX, a_partY, a_phase, a_beganAfter, a_due, a_count, a_held, a_heldY, a_hasHeld, a_hasHeldY, a_queueSize, a_queueIsOfX, a_queueValue, a_queueDue, a_subStatus, a_subCode, a_subEnd, a_subDemand, a_subRequests, a_subDelivered, a_subWaiting, a_waitValue, a_history, a_taskWhat, a_taskPart, a_taskValue) (9 * id + m) = nI σ from eσ] at this
            exact this
        · exact br_f (by rw [hc3]; exact g2) (h2 (fun z => g2 z.2.1))
      · exact br_f (by rw [hcl]; exact g1) (h2 (fun z => g1 z.1))
    by_cases hall : x_subStatus u id = 0 ∧ x_phase u (9 * id + m) = 1 ∧ x_stageKind u (x_partStage u (9 * id + m)).toNatClampNeg = 0 ∧ x_stageA u (x_partStage u (9 * id + m)).toNatClampNeg = nI s
    · by_cases hsc : SC id m s u
      · have hpush := hgo m u (by omega) hP hsc (fun u2 => match u2 with | (f_time, f_sent, f_stageCount, f_tasks, a_sourceEnded, a_stageKind, a_stageA, a_stageB, a_stageParts, a_partStage, a_partUser, a_partX, a_partY, a_phase, a_beganAfter, a_due, a_count, a_held, a_heldY, a_hasHeld, a_hasHeldY, a_queueSize, a_queueIsOfX, a_queueValue, a_queueDue, a_subStatus, a_subCode, a_subEnd, a_subDemand, a_subRequests, a_subDelivered, a_subWaiting, a_waitValue, a_history, a_taskWhat, a_taskPart, a_taskValue) => ∀ x : Int32, x = nI m + 1 → wX_send_67 post J0 (nI w) (nI s) v (nI id) (e + 1) x f_time f_sent f_stageCount f_tasks a_sourceEnded a_stageKind a_stageA a_stageB a_stageParts a_partStage a_partUser a_partX a_partY a_phase a_beganAfter a_due a_count a_held a_heldY a_hasHeld a_hasHeldY a_queueSize a_queueIsOfX a_queueValue a_queueDue a_subStatus a_subCode a_subEnd a_subDemand a_subRequests a_subDelivered a_subWaiting a_waitValue a_history a_taskWhat a_taskPart a_taskValue) (fun u' hP' => by
          have h2 := ih (m + 1) u' (by omega) hP' K
          obtain ⟨f_time, f_sent, f_stageCount, f_tasks, a_sourceEnded, a_stageKind, a_stageA, a_stageB, a_stageParts, a_partStage, a_partUser, a_partX, a_partY, a_phase, a_beganAfter, a_due, a_count, a_held, a_heldY, a_hasHeld, a_hasHeldY, a_queueSize, a_queueIsOfX, a_queueValue, a_queueDue, a_subStatus, a_subCode, a_subEnd, a_subDemand, a_subRequests, a_subDelivered, a_subWaiting, a_waitValue, a_history, a_taskWhat, a_taskPart, a_taskValue⟩ := u'
          exact nm_r (nI_1 m) h2)
        have hnb := hsc.2.2.2.2
        have hk := key (fun r => (r = 0 → ∀ x : Int32, x = nI m + 1 → wX_send_67 post J0 (nI w) (nI s) v (nI id) (e + 1) x (x_time u) (x_sent u) (x_stageCount u) (x_tasks u) (x_sourceEnded u) (x_stageKind u) (x_stageA u) (x_stageB u) (x_stageParts u) (x_partStage u) (x_partUser u) (x_partX u) (x_partY u) (x_phase u) (x_beganAfter u) (x_due u) (x_count u) (x_held u) (x_heldY u) (x_hasHeld u) (x_hasHeldY u) (x_queueSize u) (x_queueIsOfX u) (x_queueValue u) (x_queueDue u) (x_subStatus u) (x_subCode u) (x_subEnd u) (x_subDemand u) (x_subRequests u) (x_subDelivered u) (x_subWaiting u) (x_waitValue u) (x_history u) (x_taskWhat u) (x_taskPart u) (x_taskValue u)) ∧ (¬ r = 0 → (vp_in (nI (9 * id + m)) 27 ∧ ((x_sent u ≤ x_beganAfter u (nI (9 * id + m)).toNatClampNeg → ∀ x : Int32, x = nI m + 1 → wX_send_67 post J0 (nI w) (nI s) v (nI id) (e + 1) x (x_time u) (x_sent u) (x_stageCount u) (x_tasks u) (x_sourceEnded u) (x_stageKind u) (x_stageA u) (x_stageB u) (x_stageParts u) (x_partStage u) (x_partUser u) (x_partX u) (x_partY u) (x_phase u) (x_beganAfter u) (x_due u) (x_count u) (x_held u) (x_heldY u) (x_hasHeld u) (x_hasHeldY u) (x_queueSize u) (x_queueIsOfX u) (x_queueValue u) (x_queueDue u) (x_subStatus u) (x_subCode u) (x_subEnd u) (x_subDemand u) (x_subRequests u) (x_subDelivered u) (x_subWaiting u) (x_waitValue u) (x_history u) (x_taskWhat u) (x_taskPart u) (x_taskValue u)) ∧ (¬ x_sent u ≤ x_beganAfter u (nI (9 * id + m)).toNatClampNeg → wpX_push (fun u1 => match u1 with | (f_time, f_sent, f_stageCount, f_tasks, a_sourceEnded, a_stageKind, a_stageA, a_stageB, a_stageParts, a_partStage, a_partUser, a_partX, a_partY, a_phase, a_beganAfter, a_due, a_count, a_held, a_heldY, a_hasHeld, a_hasHeldY, a_queueSize, a_queueIsOfX, a_queueValue, a_queueDue, a_subStatus, a_subCode, a_subEnd, a_subDemand, a_subRequests, a_subDelivered, a_subWaiting, a_waitValue, a_history, a_taskWhat, a_taskPart, a_taskValue) => wpX_runTasks (fun u2 => match u2 with | (f_time, f_sent, f_stageCount, f_tasks, a_sourceEnded, a_stageKind, a_stageA, a_stageB, a_stageParts, a_partStage, a_partUser, a_partX, a_partY, a_phase, a_beganAfter, a_due, a_count, a_held, a_heldY, a_hasHeld, a_hasHeldY, a_queueSize, a_queueIsOfX, a_queueValue, a_queueDue, a_subStatus, a_subCode, a_subEnd, a_subDemand, a_subRequests, a_subDelivered, a_subWaiting, a_waitValue, a_history, a_taskWhat, a_taskPart, a_taskValue) => ∀ x : Int32, x = nI m + 1 → wX_send_67 post J0 (nI w) (nI s) v (nI id) (e + 1) x f_time f_sent f_stageCount f_tasks a_sourceEnded a_stageKind a_stageA a_stageB a_stageParts a_partStage a_partUser a_partX a_partY a_phase a_beganAfter a_due a_count a_held a_heldY a_hasHeld a_hasHeldY a_queueSize a_queueIsOfX a_queueValue a_queueDue a_subStatus a_subCode a_subEnd a_subDemand a_subRequests a_subDelivered a_subWaiting a_waitValue a_history a_taskWhat a_taskPart a_taskValue) (f_time, f_sent, f_stageCount, f_tasks, a_sourceEnded, a_stageKind, a_stageA, a_stageB, a_stageParts, a_partStage, a_partUser, a_partX, a_partY, a_phase, a_beganAfter, a_due, a_count, a_held, a_heldY, a_hasHeld, a_hasHeldY, a_queueSize, a_queueIsOfX, a_queueValue, a_queueDue, a_subStatus, a_subCode, a_subEnd, a_subDemand, a_subRequests, a_subDelivered, a_subWaiting, a_waitValue, a_history, a_taskWhat, a_taskPart, a_taskValue) (nI id)) u (nI w) (nI (9 * id + m)) v))))) (fun _ => br_f (by decide) ⟨hi27, br_f (by rw [hc3]; exact hnb) hpush⟩) (fun z => absurd hall z)
        obtain ⟨f_time, f_sent, f_stageCount, f_tasks, a_sourceEnded, a_stageKind, a_stageA, a_stageB, a_stageParts, a_partStage, a_partUser, a_partX, a_partY, a_phase, a_beganAfter, a_due, a_count, a_held, a_heldY, a_hasHeld, a_hasHeldY, a_queueSize, a_queueIsOfX, a_queueValue, a_queueDue, a_subStatus, a_subCode, a_subEnd, a_subDemand, a_subRequests, a_subDelivered, a_subWaiting, a_waitValue, a_history, a_taskWhat, a_taskPart, a_taskValue⟩ := u
        exact hk
      · have hnb : x_sent u ≤ x_beganAfter u (9 * id + m) := by
          rcases Classical.em (x_sent u ≤ x_beganAfter u (9 * id + m)) with y | y
          · exact y
          · exact absurd ⟨hall.1, hall.2.1, hall.2.2.1, hall.2.2.2, y⟩ hsc
        have hsk := skip hsc
        have hk := key (fun r => (r = 0 → ∀ x : Int32, x = nI m + 1 → wX_send_67 post J0 (nI w) (nI s) v (nI id) (e + 1) x (x_time u) (x_sent u) (x_stageCount u) (x_tasks u) (x_sourceEnded u) (x_stageKind u) (x_stageA u) (x_stageB u) (x_stageParts u) (x_partStage u) (x_partUser u) (x_partX u) (x_partY u) (x_phase u) (x_beganAfter u) (x_due u) (x_count u) (x_held u) (x_heldY u) (x_hasHeld u) (x_hasHeldY u) (x_queueSize u) (x_queueIsOfX u) (x_queueValue u) (x_queueDue u) (x_subStatus u) (x_subCode u) (x_subEnd u) (x_subDemand u) (x_subRequests u) (x_subDelivered u) (x_subWaiting u) (x_waitValue u) (x_history u) (x_taskWhat u) (x_taskPart u) (x_taskValue u)) ∧ (¬ r = 0 → (vp_in (nI (9 * id + m)) 27 ∧ ((x_sent u ≤ x_beganAfter u (nI (9 * id + m)).toNatClampNeg → ∀ x : Int32, x = nI m + 1 → wX_send_67 post J0 (nI w) (nI s) v (nI id) (e + 1) x (x_time u) (x_sent u) (x_stageCount u) (x_tasks u) (x_sourceEnded u) (x_stageKind u) (x_stageA u) (x_stageB u) (x_stageParts u) (x_partStage u) (x_partUser u) (x_partX u) (x_partY u) (x_phase u) (x_beganAfter u) (x_due u) (x_count u) (x_held u) (x_heldY u) (x_hasHeld u) (x_hasHeldY u) (x_queueSize u) (x_queueIsOfX u) (x_queueValue u) (x_queueDue u) (x_subStatus u) (x_subCode u) (x_subEnd u) (x_subDemand u) (x_subRequests u) (x_subDelivered u) (x_subWaiting u) (x_waitValue u) (x_history u) (x_taskWhat u) (x_taskPart u) (x_taskValue u)) ∧ (¬ x_sent u ≤ x_beganAfter u (nI (9 * id + m)).toNatClampNeg → wpX_push (fun u1 => match u1 with | (f_time, f_sent, f_stageCount, f_tasks, a_sourceEnded, a_stageKind, a_stageA, a_stageB, a_stageParts, a_partStage, a_partUser, a_partX, a_partY, a_phase, a_beganAfter, a_due, a_count, a_held, a_heldY, a_hasHeld, a_hasHeldY, a_queueSize, a_queueIsOfX, a_queueValue, a_queueDue, a_subStatus, a_subCode, a_subEnd, a_subDemand, a_subRequests, a_subDelivered, a_subWaiting, a_waitValue, a_history, a_taskWhat, a_taskPart, a_taskValue) => wpX_runTasks (fun u2 => match u2 with | (f_time, f_sent, f_stageCount, f_tasks, a_sourceEnded, a_stageKind, a_stageA, a_stageB, a_stageParts, a_partStage, a_partUser, a_partX, a_partY, a_phase, a_beganAfter, a_due, a_count, a_held, a_heldY, a_hasHeld, a_hasHeldY, a_queueSize, a_queueIsOfX, a_queueValue, a_queueDue, a_subStatus, a_subCode, a_subEnd, a_subDemand, a_subRequests, a_subDelivered, a_subWaiting, a_waitValue, a_history, a_taskWhat, a_taskPart, a_taskValue) => ∀ x : Int32, x = nI m + 1 → wX_send_67 post J0 (nI w) (nI s) v (nI id) (e + 1) x f_time f_sent f_stageCount f_tasks a_sourceEnded a_stageKind a_stageA a_stageB a_stageParts a_partStage a_partUser a_partX a_partY a_phase a_beganAfter a_due a_count a_held a_heldY a_hasHeld a_hasHeldY a_queueSize a_queueIsOfX a_queueValue a_queueDue a_subStatus a_subCode a_subEnd a_subDemand a_subRequests a_subDelivered a_subWaiting a_waitValue a_history a_taskWhat a_taskPart a_taskValue) (f_time, f_sent, f_stageCount, f_tasks, a_sourceEnded, a_stageKind, a_stageA, a_stageB, a_stageParts, a_partStage, a_partUser, a_partX, a_partY, a_phase, a_beganAfter, a_due, a_count, a_held, a_heldY, a_hasHeld, a_hasHeldY, a_queueSize, a_queueIsOfX, a_queueValue, a_queueDue, a_subStatus, a_subCode, a_subEnd, a_subDemand, a_subRequests, a_subDelivered, a_subWaiting, a_waitValue, a_history, a_taskWhat, a_taskPart, a_taskValue) (nI id)) u (nI w) (nI (9 * id + m)) v))))) (fun _ => br_f (by decide) ⟨hi27, br_t (by rw [hc3]; exact hnb) hsk⟩) (fun z => absurd hall z)
        obtain ⟨f_time, f_sent, f_stageCount, f_tasks, a_sourceEnded, a_stageKind, a_stageA, a_stageB, a_stageParts, a_partStage, a_partUser, a_partX, a_partY, a_phase, a_beganAfter, a_due, a_count, a_held, a_heldY, a_hasHeld, a_hasHeldY, a_queueSize, a_queueIsOfX, a_queueValue, a_queueDue, a_subStatus, a_subCode, a_subEnd, a_subDemand, a_subRequests, a_subDelivered, a_subWaiting, a_waitValue, a_history, a_taskWhat, a_taskPart, a_taskValue⟩ := u
        exact hk
    · have hsc : ¬ SC id m s u := fun z => hall ⟨z.1, z.2.1, z.2.2.1, z.2.2.2.1⟩
      have hsk := skip hsc
      have hk := key (fun r => (r = 0 → ∀ x : Int32, x = nI m + 1 → wX_send_67 post J0 (nI w) (nI s) v (nI id) (e + 1) x (x_time u) (x_sent u) (x_stageCount u) (x_tasks u) (x_sourceEnded u) (x_stageKind u) (x_stageA u) (x_stageB u) (x_stageParts u) (x_partStage u) (x_partUser u) (x_partX u) (x_partY u) (x_phase u) (x_beganAfter u) (x_due u) (x_count u) (x_held u) (x_heldY u) (x_hasHeld u) (x_hasHeldY u) (x_queueSize u) (x_queueIsOfX u) (x_queueValue u) (x_queueDue u) (x_subStatus u) (x_subCode u) (x_subEnd u) (x_subDemand u) (x_subRequests u) (x_subDelivered u) (x_subWaiting u) (x_waitValue u) (x_history u) (x_taskWhat u) (x_taskPart u) (x_taskValue u)) ∧ (¬ r = 0 → (vp_in (nI (9 * id + m)) 27 ∧ ((x_sent u ≤ x_beganAfter u (nI (9 * id + m)).toNatClampNeg → ∀ x : Int32, x = nI m + 1 → wX_send_67 post J0 (nI w) (nI s) v (nI id) (e + 1) x (x_time u) (x_sent u) (x_stageCount u) (x_tasks u) (x_sourceEnded u) (x_stageKind u) (x_stageA u) (x_stageB u) (x_stageParts u) (x_partStage u) (x_partUser u) (x_partX u) (x_partY u) (x_phase u) (x_beganAfter u) (x_due u) (x_count u) (x_held u) (x_heldY u) (x_hasHeld u) (x_hasHeldY u) (x_queueSize u) (x_queueIsOfX u) (x_queueValue u) (x_queueDue u) (x_subStatus u) (x_subCode u) (x_subEnd u) (x_subDemand u) (x_subRequests u) (x_subDelivered u) (x_subWaiting u) (x_waitValue u) (x_history u) (x_taskWhat u) (x_taskPart u) (x_taskValue u)) ∧ (¬ x_sent u ≤ x_beganAfter u (nI (9 * id + m)).toNatClampNeg → wpX_push (fun u1 => match u1 with | (f_time, f_sent, f_stageCount, f_tasks, a_sourceEnded, a_stageKind, a_stageA, a_stageB, a_stageParts, a_partStage, a_partUser, a_partX, a_partY, a_phase, a_beganAfter, a_due, a_count, a_held, a_heldY, a_hasHeld, a_hasHeldY, a_queueSize, a_queueIsOfX, a_queueValue, a_queueDue, a_subStatus, a_subCode, a_subEnd, a_subDemand, a_subRequests, a_subDelivered, a_subWaiting, a_waitValue, a_history, a_taskWhat, a_taskPart, a_taskValue) => wpX_runTasks (fun u2 => match u2 with | (f_time, f_sent, f_stageCount, f_tasks, a_sourceEnded, a_stageKind, a_stageA, a_stageB, a_stageParts, a_partStage, a_partUser, a_partX, a_partY, a_phase, a_beganAfter, a_due, a_count, a_held, a_heldY, a_hasHeld, a_hasHeldY, a_queueSize, a_queueIsOfX, a_queueValue, a_queueDue, a_subStatus, a_subCode, a_subEnd, a_subDemand, a_subRequests, a_subDelivered, a_subWaiting, a_waitValue, a_history, a_taskWhat, a_taskPart, a_taskValue) => ∀ x : Int32, x = nI m + 1 → wX_send_67 post J0 (nI w) (nI s) v (nI id) (e + 1) x f_time f_sent f_stageCount f_tasks a_sourceEnded a_stageKind a_stageA a_stageB a_stageParts a_partStage a_partUser a_partX a_partY a_phase a_beganAfter a_due a_count a_held a_heldY a_hasHeld a_hasHeldY a_queueSize a_queueIsOfX a_queueValue a_queueDue a_subStatus a_subCode a_subEnd a_subDemand a_subRequests a_subDelivered a_subWaiting a_waitValue a_history a_taskWhat a_taskPart a_taskValue) (f_time, f_sent, f_stageCount, f_tasks, a_sourceEnded, a_stageKind, a_stageA, a_stageB, a_stageParts, a_partStage, a_partUser, a_partX, a_partY, a_phase, a_beganAfter, a_due, a_count, a_held, a_heldY, a_hasHeld, a_hasHeldY, a_queueSize, a_queueIsOfX, a_queueValue, a_queueDue, a_subStatus, a_subCode, a_subEnd, a_subDemand, a_subRequests, a_subDelivered, a_subWaiting, a_waitValue, a_history, a_taskWhat, a_taskPart, a_taskValue) (nI id)) u (nI w) (nI (9 * id + m)) v))))) (fun z => absurd z hall) (fun _ => br_t rfl hsk)
      obtain ⟨f_time, f_sent, f_stageCount, f_tasks, a_sourceEnded, a_stageKind, a_stageA, a_stageB, a_stageParts, a_partStage, a_partUser, a_partX, a_partY, a_phase, a_beganAfter, a_due, a_count, a_held, a_heldY, a_hasHeld, a_hasHeldY, a_queueSize, a_queueIsOfX, a_queueValue, a_queueDue, a_subStatus, a_subCode, a_subEnd, a_subDemand, a_subRequests, a_subDelivered, a_subWaiting, a_waitValue, a_history, a_taskWhat, a_taskPart, a_taskValue⟩ := u
      exact hk
theorem sn_outer {post : Int32 → SX → Prop} {s w : Nat} {v : Int32} (Q : Nat → SX → Prop)
    (hin : ∀ id u, id < 3 → Q id u → ∀ J0 : Int32 → Int32 → Int32 → Int32 → Int32 → (Nat → Int32) → (Nat → Int32) → (Nat → Int32) → (Nat → Int32) → (Nat → Int32) → (Nat → Int32) → (Nat → Int32) → (Nat → Int32) → (Nat → Int32) → (Nat → Int32) → (Nat → Int32) → (Nat → Int32) → (Nat → Int32) → (Nat → Int32) → (Nat → Int32) → (Nat → Int32) → (Nat → Int32) → (Nat → Int32) → (Nat → Int32) → (Nat → Int32) → (Nat → Int32) → (Nat → Int32) → (Nat → Int32) → (Nat → Int32) → (Nat → Int64) → (Nat → Int32) → (Nat → Int32) → (Nat → Int32) → (Nat → Int32) → (Nat → Int64) → (Nat → Int32) → (Nat → Int32) → (Nat → Int32) → Prop, (∀ u', Q (id + 1) u' → J0 (nI (id + 1)) (x_time u') (x_sent u') (x_stageCount u') (x_tasks u') (x_sourceEnded u') (x_stageKind u') (x_stageA u') (x_stageB u') (x_stageParts u') (x_partStage u') (x_partUser u') (x_partX u') (x_partY u') (x_phase u') (x_beganAfter u') (x_due u') (x_count u') (x_held u') (x_heldY u') (x_hasHeld u') (x_hasHeldY u') (x_queueSize u') (x_queueIsOfX u') (x_queueValue u') (x_queueDue u') (x_subStatus u') (x_subCode u') (x_subEnd u') (x_subDemand u') (x_subRequests u') (x_subDelivered u') (x_subWaiting u') (x_waitValue u') (x_history u') (x_taskWhat u') (x_taskPart u') (x_taskValue u')) → wX_send_67 post J0 (nI w) (nI s) v (nI id) 10 0 (x_time u) (x_sent u) (x_stageCount u) (x_tasks u) (x_sourceEnded u) (x_stageKind u) (x_stageA u) (x_stageB u) (x_stageParts u) (x_partStage u) (x_partUser u) (x_partX u) (x_partY u) (x_phase u) (x_beganAfter u) (x_due u) (x_count u) (x_held u) (x_heldY u) (x_hasHeld u) (x_hasHeldY u) (x_queueSize u) (x_queueIsOfX u) (x_queueValue u) (x_queueDue u) (x_subStatus u) (x_subCode u) (x_subEnd u) (x_subDemand u) (x_subRequests u) (x_subDelivered u) (x_subWaiting u) (x_waitValue u) (x_history u) (x_taskWhat u) (x_taskPart u) (x_taskValue u)) (u : SX) (h : Q 0 u) (K : ∀ u', Q 3 u' → post 1 u') : wX_send_58 post (nI w) (nI s) v 4 0 (x_time u) (x_sent u) (x_stageCount u) (x_tasks u) (x_sourceEnded u) (x_stageKind u) (x_stageA u) (x_stageB u) (x_stageParts u) (x_partStage u) (x_partUser u) (x_partX u) (x_partY u) (x_phase u) (x_beganAfter u) (x_due u) (x_count u) (x_held u) (x_heldY u) (x_hasHeld u) (x_hasHeldY u) (x_queueSize u) (x_queueIsOfX u) (x_queueValue u) (x_queueDue u) (x_subStatus u) (x_subCode u) (x_subEnd u) (x_subDemand u) (x_subRequests u) (x_subDelivered u) (x_subWaiting u) (x_waitValue u) (x_history u) (x_taskWhat u) (x_taskPart u) (x_taskValue u) := by
  have key : ∀ (e id : Nat) (u : SX), id + e = 3 → Q id u → wX_send_58 post (nI w) (nI s) v (e + 1) (nI id) (x_time u) (x_sent u) (x_stageCount u) (x_tasks u) (x_sourceEnded u) (x_stageKind u) (x_stageA u) (x_stageB u) (x_stageParts u) (x_partStage u) (x_partUser u) (x_partX u) (x_partY u) (x_phase u) (x_beganAfter u) (x_due u) (x_count u) (x_held u) (x_heldY u) (x_hasHeld u) (x_hasHeldY u) (x_queueSize u) (x_queueIsOfX u) (x_queueValue u) (x_queueDue u) (x_subStatus u) (x_subCode u) (x_subEnd u) (x_subDemand u) (x_subRequests u) (x_subDelivered u) (x_subWaiting u) (x_waitValue u) (x_history u) (x_taskWhat u) (x_taskPart u) (x_taskValue u) := by
    intro e
    induction e with
    | zero =>
      intro id u hi hQ
      have : id = 3 := by omega
      subst this
      have h2 := K u hQ
      obtain ⟨f_time, f_sent, f_stageCount, f_tasks, a_sourceEnded, a_stageKind, a_stageA, a_stageB, a_stageParts, a_partStage, a_partUser, a_partX, a_partY, a_phase, a_beganAfter, a_due, a_count, a_held, a_heldY, a_hasHeld, a_hasHeldY, a_queueSize, a_queueIsOfX, a_queueValue, a_queueDue, a_subStatus, a_subCode, a_subEnd, a_subDemand, a_subRequests, a_subDelivered, a_subWaiting, a_waitValue, a_history, a_taskWhat, a_taskPart, a_taskValue⟩ := u
      exact br_t (by decide) h2
    | succ e ih =>
      intro id u hi hQ
      refine br_f (nI_ge (b := 3) (by omega) (by decide)) ⟨10, ?_⟩
      exact hin id u (by omega) hQ _ (fun u' hQ' => ih (id + 1) u' (by omega) hQ')
  exact key 3 0 u rfl h
end
section
/-! ===== send: one subscription, then all ===== -/
theorem sq_hmono {F w w' : Nat} (h : hrs F w' = true) (h1 : w' ≤ w) (h2 : w' / 256 % 4294967296 ≤ w / 256 % 4294967296) : hrs F w = true := by
  unfold hrs at h ⊢
  by_cases e : F / 1099511627776 % 2 = 1
  · rw [if_pos e] at h ⊢
    have := of_decide_eq_true h
    exact decide_eq_true (by omega)
  · rw [if_neg e] at h ⊢
    have := of_decide_eq_true h
    exact decide_eq_true (by omega)
theorem sq_nb {Lo : List Lg} {g : Lg} {F : Nat} : nb (Lo ++ [g]) F = nb Lo F + if hrs F g.2.2.2 = true then 0 else 1 := by
  unfold nb
  rw [List.filter_append, List.length_append]
  congr 1
  by_cases h : hrs F g.2.2.2 = true
  · rw [if_pos h]; simp [h]
  · rw [if_neg h]; simp [h]
theorem sq_nb_le {Lo : List Lg} {F : Nat} : nb Lo F ≤ Lo.length := List.length_filter_le _ _
theorem sq_heard {Lo : List Lg} {g : Lg} {F : Nat} (hmon : ∀ g' ∈ Lo, g'.2.2.2 ≤ g.2.2.2 ∧ g'.2.2.2 / 256 % 4294967296 ≤ g.2.2.2 / 256 % 4294967296) : nb (Lo ++ [g]) F < (Lo ++ [g]).length ↔ hrs F g.2.2.2 = true := by
  rw [sq_nb, List.length_append, List.length_singleton]
  have hle := sq_nb_le (Lo := Lo) (F := F)
  constructor
  · intro h
    rcases Bool.eq_false_or_eq_true (hrs F g.2.2.2) with z | z
    · exact z
    · exfalso
      rw [if_neg (by rw [z]; decide)] at h
      have hall : ∀ g' ∈ Lo, hrs F g'.2.2.2 = false := by
        intro g' hg'
        rcases Bool.eq_false_or_eq_true (hrs F g'.2.2.2) with y | y
        · have := sq_hmono y (hmon g' hg').1 (hmon g' hg').2
          rw [z] at this; exact absurd this (by decide)
        · exact y
      have := cb_nb hall
      omega
  · intro h
    rw [if_pos h]; omega
def PS (E : Env) (B0 t c : Nat) (Lo : List Lg) (g : Lg) (m : Nat) (u : SX) : Prop :=
  (∃ M H F bg, M < mo t 1 c + (m + 1) ∧ AR (eU E t M (fun _ => t) (fun q => if q < m then Lo ++ [g] else Lo) (Lo ++ [g])) B0 c u H F bg ∧ (FS E H).1 = 0) ∨ FIN E B0 t (Lo ++ [g]) u
theorem sq_rst_l {E : Env} {t M : Nat} {c : Nat → Nat} {lg lg' : Nat → List Lg} {LG : List Lg} {u : SX} {H : Nat → List Ev} {F : Nat → Nat} {bg : Nat → Bool} (h : ∀ q, q < e_n E → lg' q = lg q) (hR : RST (eU E t M c lg LG) u H F bg) : RST (eU E t M c lg' LG) u H F bg := by
  obtain ⟨hI, hC, hS, hD, hC2, hroot, hCW⟩ := hR
  refine ⟨hI, fun q hq => ?_, hS, hD, hC2, hroot, hCW⟩
  have hc := hC q hq
  refine ⟨fun hb => ?_, hc.2⟩
  have e : Rn (eU E t M c lg' LG) H F q = Rn (eU E t M c lg LG) H F q := by
    show RR (e_kd E q) (e_oa E q) (e_ob E q) q (F q) (lg' q) (c q) (H (e_xc E q)) (H (e_yc E q)) = RR (e_kd E q) (e_oa E q) (e_ob E q) q (F q) (lg q) (c q) (H (e_xc E q)) (H (e_yc E q))
    rw [h q hq]
  rw [e]
  exact hc.1 hb
theorem sq_new {E : Env} {B0 t c m M : Nat} {Lo : List Lg} {g : Lg} {u u' : SX} {H H' : Nat → List Ev} {F F' : Nat → Nat} {bg bg' : Nat → Bool} (hT : TR E) (hm : m < e_n E) (hc : c < 4000000000) (hg : g.2.2.2 = mo t 1 c)
    (hA : AR (eU E t M (fun _ => t) (fun q => if q < m then Lo ++ [g] else Lo) (Lo ++ [g])) B0 c u H F bg)
    (hR : RST (eM (eU E t M (fun _ => t) (fun q => if q < m then Lo ++ [g] else Lo) (Lo ++ [g])) (mo t 1 c + (m + 1)) (fun _ => t) (fup (fun q => if q < m then Lo ++ [g] else Lo) m (Lo ++ [g]))) u' H' F' bg') (hph : ∀ k, e_n E ≤ k → k < 9 → x_phase u' (9 * e_id E + k) = 0) (hmono : ∀ r, r < e_n E → bg r = true → bg' r = true ∧ F' r = F r) (hnew : ∀ r, r < e_n E → bg' r = true → bg r = true ∨ F' r = mo t 1 c + (m + 1)) : PS E B0 t c Lo g (m + 1) u' := by
  obtain ⟨hR0, hB, hmv, hpz⟩ := hA
  have h9 := hT.2.2.1
  have hroot : bg (e_n E - 1) = true := hR0.2.2.2.2.2.1
  have h1n := hT.2.1
  have hB' : F' (e_n E - 1) = B0 := (hmono _ (by omega) hroot).2.trans hB
  have hR1 : RST (eU E t (mo t 1 c + (m + 1)) (fun _ => t) (fun q => if q < m + 1 then Lo ++ [g] else Lo) (Lo ++ [g])) u' H' F' bg' := by
    refine sq_rst_l (lg := fup (fun q => if q < m then Lo ++ [g] else Lo) m (Lo ++ [g])) (fun q hq => ?_) hR
    by_cases e : q = m
    · subst e; rw [fu_s, if_pos (by omega)]
    · rw [fu_n e]
      rcases Nat.lt_or_ge q m with z | z
      · rw [if_pos z, if_pos (by omega)]
      · rw [if_neg (by omega), if_neg (by omega)]
  have hmv' : ∀ q, q < e_n E → bg' q = true → mv c (F' q) := by
    intro q hq hb
    rcases hnew q hq hb with z | z
    · rw [(hmono q hq z).2]; exact hmv q hq z
    · rw [z]
      intro y
      rw [(ts_num (t := t) (c := c) (b := m + 1) (by omega) (by omega)).2]
      exact Nat.le_refl _
  have hRU : RepU u' (e_id E) (FS E H') := hR1.1.2.2.2.2.1.2
  by_cases hs : (FS E H').1 = 0
  · exact Or.inl ⟨mo t 1 c + (m + 1), H', F', bg', by omega, ⟨hR1, hB', hmv', hph⟩, hs⟩
  · refine Or.inr ⟨t, mo t 1 c + (m + 1), (fun _ => t), (fun q => if q < m + 1 then Lo ++ [g] else Lo), Lo ++ [g], H', F', bg', ad_cu hR1 hB', fun q hq => ⟨Nat.le_refl _, ?_⟩, hRU, hs⟩
    dsimp only
    by_cases hq1 : q < m + 1
    · rw [if_pos hq1]
      exact ⟨[], by simp, fun g hg => absurd hg (by simp)⟩
    · rw [if_neg hq1]
      refine ⟨[g], rfl, fun g' hg' => ?_⟩
      rw [List.mem_singleton] at hg'
      subst hg'
      rw [hg]
      omega
theorem sq_inner {post : Int32 → SX → Prop} {J0 : Int32 → Int32 → Int32 → Int32 → Int32 → (Nat → Int32) → (Nat → Int32) → (Nat → Int32) → (Nat → Int32) → (Nat → Int32) → (Nat → Int32) → (Nat → Int32) → (Nat → Int32) → (Nat → Int32) → (Nat → Int32) → (Nat → Int32) → (Nat → Int32) → (Nat → Int32) → (Nat → Int32) → (Nat → Int32) → (Nat → Int32) → (Nat → Int32) → (Nat → Int32) → (Nat → Int32) → (Nat → Int32) → (Nat → Int32) → (Nat → Int32) → (Nat → Int32) → (Nat → Int32) → (Nat → Int64) → (Nat → Int32) → (Nat → Int32) → (Nat → Int32) → (Nat → Int32) → (Nat → Int64) → (Nat → Int32) → (Nat → Int32) → (Nat → Int32) → Prop} {E : Env} {B0 t c s : Nat} {Lo : List Lg} {g : Lg} {z : St2} (hT : TR E) (ht2 : t ≤ 200) (hc : c < 4000000000) (hg : g.2.2.2 = mo t 1 c) (hgs : g.1 = s) (hs3 : s < 3) (hwo : wfo [(g.2.1 + 1, g.2.2.1)]) (hmon : ∀ g' ∈ Lo, g'.2.2.2 ≤ g.2.2.2 ∧ g'.2.2.2 / 256 % 4294967296 ≤ c) (hlen : Lo.length < 1000)
    (S : SX → Prop) (hSt : ∀ u u', FR E 0 u u' → RepS u' [] → S u → S u') (u : SX) (hz : x_st2 u = z) (hS0 : RepS u []) (hSu : S u) (hP : PS E B0 t c Lo g 0 u)
    (K : ∀ u', x_st2 u' = z → RepS u' [] → S u' → PS E B0 t c Lo g 9 u' → J0 (nI (e_id E + 1)) (x_time u') (x_sent u') (x_stageCount u') (x_tasks u') (x_sourceEnded u') (x_stageKind u') (x_stageA u') (x_stageB u') (x_stageParts u') (x_partStage u') (x_partUser u') (x_partX u') (x_partY u') (x_phase u') (x_beganAfter u') (x_due u') (x_count u') (x_held u') (x_heldY u') (x_hasHeld u') (x_hasHeldY u') (x_queueSize u') (x_queueIsOfX u') (x_queueValue u') (x_queueDue u') (x_subStatus u') (x_subCode u') (x_subEnd u') (x_subDemand u') (x_subRequests u') (x_subDelivered u') (x_subWaiting u') (x_waitValue u') (x_history u') (x_taskWhat u') (x_taskPart u') (x_taskValue u')) : wX_send_67 post J0 (nI (g.2.1 + 1)) (nI s) g.2.2.1 (nI (e_id E)) 10 0 (x_time u) (x_sent u) (x_stageCount u) (x_tasks u) (x_sourceEnded u) (x_stageKind u) (x_stageA u) (x_stageB u) (x_stageParts u) (x_partStage u) (x_partUser u) (x_partX u) (x_partY u) (x_phase u) (x_beganAfter u) (x_due u) (x_count u) (x_held u) (x_heldY u) (x_hasHeld u) (x_hasHeldY u) (x_queueSize u) (x_queueIsOfX u) (x_queueValue u) (x_queueDue u) (x_subStatus u) (x_subCode u) (x_subEnd u) (x_subDemand u) (x_subRequests u) (x_subDelivered u) (x_subWaiting u) (x_waitValue u) (x_history u) (x_taskWhat u) (x_taskPart u) (x_taskValue u) := by
  have h9 := hT.2.2.1
  have hnumg : g.2.2.2 / 256 % 4294967296 = c := by
    rw [hg]
    have := (ts_num (t := t) (c := c) (b := 0) (by omega) (by omega)).2
    rw [Nat.add_zero] at this
    exact this
  have hmon2 : ∀ g' ∈ Lo, g'.2.2.2 ≤ g.2.2.2 ∧ g'.2.2.2 / 256 % 4294967296 ≤ g.2.2.2 / 256 % 4294967296 := fun g' hg' => ⟨(hmon g' hg').1, by rw [hnumg]; exact (hmon g' hg').2⟩
  -- what the test of a part means
  have hsc : ∀ (m M : Nat) (u : SX) (H : Nat → List Ev) (F : Nat → Nat) (bg : Nat → Bool), m < e_n E → AR (eU E t M (fun _ => t) (fun q => if q < m then Lo ++ [g] else Lo) (Lo ++ [g])) B0 c u H F bg → bg m = true → (SC (e_id E) m s u ↔ (x_subStatus u (e_id E) = 0 ∧ x_phase u (9 * e_id E + m) = 1 ∧ e_kd E m = 0 ∧ g.1 = cl (e_oa E m) ∧ hrs (F m) g.2.2.2 = true)) := by
    intro m M u H F bg hm hA hb
    obtain ⟨hR, _⟩ := hA
    have hI := hR.1
    have hHZ := (hI.1.2 m hm).1
    have hop : opk (e_kd E m) (e_oa E m) (e_ob E m) := hHZ.2.2.2.2.2.2.2.2
    have hps : x_partStage u (9 * e_id E + m) = nI (e_sg E m) := hHZ.2.2.2.1
    have hs12 : e_sg E m < 12 := hHZ.2.2.2.2.1
    have hkd : x_stageKind u (e_sg E m) = nI (e_kd E m) := hHZ.2.2.2.2.2.1
    have hsa : x_stageA u (e_sg E m) = e_oa E m := hHZ.2.2.2.2.2.2.1
    have hba : x_beganAfter u (9 * e_id E + m) = nI (nb (Lo ++ [g]) (F m)) := hI.2.2.2.2.2.2.2.2.1 m hm hb
    have hse : x_sent u = nI (Lo ++ [g]).length := hI.2.2.2.2.2.2.2.2.2
    have hk20 := hop.1
    have hle := sq_nb_le (Lo := Lo ++ [g]) (F := F m)
    have hl2 : (Lo ++ [g]).length = Lo.length + 1 := by simp
    unfold SC
    rw [hps, nI_clamp (by omega), hkd, hsa, hse, hba, nI_leI (by omega) (by omega), Nat.not_le, sq_heard hmon2]
    constructor
    · rintro ⟨a1, a2, a3, a4, a5⟩
      have hk0 : e_kd E m = 0 := by
        rw [show (0 : Int32) = nI 0 from rfl, nI_eq (by omega) (by omega)] at a3; exact a3
      refine ⟨a1, a2, hk0, ?_, a5⟩
      have h0 := hop.2.1 hk0
      rw [a4, hgs]
      unfold cl
      rw [nI_clamp (by omega)]
    · rintro ⟨a1, a2, a3, a4, a5⟩
      have h0 := hop.2.1 a3
      exact ⟨a1, a2, by rw [a3]; rfl, by rw [← hgs, a4]; exact h0.2, a5⟩
  refine sn_inner hT.1 (fun m u => x_st2 u = z ∧ RepS u [] ∧ S u ∧ PS E B0 t c Lo g m u) ?_ ?_ ?_ 9 0 u rfl ⟨hz, hS0, hSu, hP⟩ (fun u' h => K u' h.1 h.2.1 h.2.2.1 h.2.2.2)
  · intro m u hm hP hs hp
    obtain ⟨hz, hS0, hSu, hP⟩ := hP
    rcases hP with hP | hP
    · obtain ⟨M, H, F, bg, hM, hA, hst⟩ := hP
      by_cases hmn : m < e_n E
      · have hHZ := (hA.1.1.1.2 m hmn).1
        exact ⟨e_sg E m, hHZ.2.2.2.2.1, hHZ.2.2.2.1⟩
      · have h0 : x_phase u (9 * e_id E + m) = 0 := hA.2.2.2 m (show e_n E ≤ m by omega) hm
        rw [h0] at hp
        exact absurd hp (by decide)
    · exfalso
      obtain ⟨t', M, c', lg, LG', H, F, bg, h1, h2, h3, h4⟩ := hP
      rw [ad_st h3] at hs
      exact h4 hs
  · intro m u hm hP hsc0 pst hK
    obtain ⟨hz, hS0, hSu, hP⟩ := hP
    rcases hP with hP | hP
    · obtain ⟨M, H, F, bg, hM, hA, hst⟩ := hP
      have hA0 := hA
      obtain ⟨hR, hB, hmv, hpz⟩ := hA
      by_cases hmn : m < e_n E
      · have hp := hsc0.2.1
        have hb : bg m = true := by
          have h2 := hR.1.2.1 m hmn
          rcases Bool.eq_false_or_eq_true (bg m) with y | y
          · exact y
          · have hp' : x_phase u (ab (eU E t M (fun _ => t) (fun q => if q < m then Lo ++ [g] else Lo) (Lo ++ [g])) m) = 1 := hp
            rw [y, hp'] at h2
            have h0 : phs false (fin (H m)) = 0 := rfl
            rw [h0] at h2
            exact absurd h2 (by decide)
        obtain ⟨a1, a2, a3, a4, a5⟩ := (hsc m M u H F bg hmn hA0 hb).mp hsc0
        refine ts_go (E := eU E t M (fun _ => t) (fun q => if q < m then Lo ++ [g] else Lo) (Lo ++ [g])) (t := t) (c := c) (Lo := Lo) (g := g) hT hR hmn hc (if_neg (Nat.lt_irrefl m)) hg hM (fun _ _ => rfl) rfl ht2 (fun r hr g' hg' => ?_) (fun g' hg' => hg') (fun g' hg' => ?_) a2 a3 a4 a5 hwo (fun u' H' F' bg' k1 k2 k3 k4 => hK u' ?_)
        · have hg2 : g' ∈ (if r < m then Lo ++ [g] else Lo) := hg'
          show g' ∈ Lo ++ [g]
          by_cases hrm : r < m
          · rw [if_pos hrm] at hg2; exact hg2
          · rw [if_neg hrm] at hg2; exact List.mem_append.mpr (Or.inl hg2)
        · rcases List.mem_append.mp hg' with y | y
          · exact (hmon g' y).2
          · rw [List.mem_singleton] at y; subst y; rw [hnumg]; exact Nat.le_refl _
        · refine ⟨k2.1.trans hz, k1.2.2.1, hSt u u' k2 k1.2.2.1 hSu, sq_new hT hmn hc hg hA0 k1 (fun k h1 h2 => ?_) k3 k4⟩
          have := (k2.2.2.1 (9 * e_id E + k) (Or.inr (by show 9 * e_id E + e_n E ≤ 9 * e_id E + k; omega))).1
          rw [this]
          exact hpz k h1 h2
      · have h0 : x_phase u (9 * e_id E + m) = 0 := hpz m (show e_n E ≤ m by omega) hm
        have hp := hsc0.2.1
        rw [h0] at hp
        exact absurd hp (by decide)
    · exfalso
      obtain ⟨t', M, c', lg, LG', H, F, bg, h1, h2, h3, h4⟩ := hP
      have hs := hsc0.1
      rw [ad_st h3] at hs
      exact h4 hs
  · intro m u hm hP hno
    obtain ⟨hz, hS0, hSu, hP⟩ := hP
    refine ⟨hz, hS0, hSu, ?_⟩
    rcases hP with hP | hP
    · obtain ⟨M, H, F, bg, hM, hA, hst⟩ := hP
      have hA0 := hA
      obtain ⟨hR, hB, hmv, hpz⟩ := hA
      have hRU : RepU u (e_id E) (FS E H) := hR.1.2.2.2.2.1.2
      have hst' : x_subStatus u (e_id E) = 0 := by rw [ad_st hRU]; exact hst
      by_cases hmn : m < e_n E
      · have hskip := ts_skip (E := eU E t M (fun _ => t) (fun q => if q < m then Lo ++ [g] else Lo) (Lo ++ [g])) (t := t) (c := c) (Lo := Lo) (g := g) hT hR hmn hc (if_neg (Nat.lt_irrefl m)) hg (Nat.le_of_lt hM) (fun _ _ => rfl) (fun hb hf hk hh => hno ((hsc m M u H F bg hmn hA0 hb).mpr ⟨hst', ?_, hk, hh.1, hh.2⟩))
        · exact sq_new hT hmn hc hg hA0 hskip hpz (fun r _ h => ⟨h, rfl⟩) (fun r _ h => Or.inl h)
        · have := hR.1.2.1 m hmn
          rw [hb, hf] at this
          exact this
      · refine Or.inl ⟨M, H, F, bg, by omega, ⟨sq_rst_l (fun q hq => ?_) hR, hB, hmv, hpz⟩, hst⟩
        rw [if_pos (by omega), if_pos (by omega)]
    · exact Or.inr hP
end
section
/-! ===== send, whole ===== -/
def PSJ (D : CD) (t c : Nat) (Lo : List Lg) (g : Lg) (m j : Nat) (u : SX) : Prop :=
  if D.1 j = true then PS (D.2.1 j) (D.2.2.1 j) t c Lo g m u else RepU u j (D.2.2.2 j) ∧ (D.2.2.2 j).1 ≠ 0
theorem sr_fo {E : Env} {B0 t c m : Nat} {Lo : List Lg} {g : Lg} {u u' : SX} (hT : TR E) (hf : FO (e_id E) u u') (h : PS E B0 t c Lo g m u) : PS E B0 t c Lo g m u' := by
  rcases h with h | h
  · obtain ⟨M, H, F, bg, hM, ⟨hR, hB, hmv, hpz⟩, hs⟩ := h
    refine Or.inl ⟨M, H, F, bg, hM, ⟨xo_rst (E := eU E t M (fun _ => t) (fun q => if q < m then Lo ++ [g] else Lo) (Lo ++ [g])) hT hR hf, hB, hmv, fun k h1 h2 => ?_⟩, hs⟩
    have := (hf.2.1 (9 * e_id E + k) (by omega) (by omega)).2.1
    have h0 := hpz k h1 h2
    show x_phase u' (9 * e_id E + k) = 0
    rw [this]; exact h0
  · exact Or.inr (ad_fin_mono (Nat.le_refl _) hf.2.2.1 h)
theorem sr_pj {D : CD} {t c m j : Nat} {Lo : List Lg} {g : Lg} {u u' : SX} (hD : cdOK D) (hj : j < 3) (hf : FO j u u') (h : PSJ D t c Lo g m j u) : PSJ D t c Lo g m j u' := by
  unfold PSJ at h ⊢
  by_cases ha : D.1 j = true
  · rw [if_pos ha] at h ⊢
    have hd := hD j hj ha
    exact sr_fo hd.1 (by rw [hd.2]; exact hf) h
  · rw [if_neg ha] at h ⊢
    exact ⟨hf.2.2.1 _ h.1, h.2⟩
theorem sr_all {post : Int32 → SX → Prop} {D : CD} {t c s : Nat} {Lo : List Lg} {g : Lg} {u : SX} (hD : cdOK D) (ht2 : t ≤ 200) (hc : c < 4000000000) (hg : g.2.2.2 = mo t 1 c) (hgs : g.1 = s) (hs3 : s < 3) (hwo : wfo [(g.2.1 + 1, g.2.2.1)]) (hmon : ∀ g' ∈ Lo, g'.2.2.2 ≤ g.2.2.2 ∧ g'.2.2.2 / 256 % 4294967296 ≤ c) (hlen : Lo.length < 1000) (hS : RepS u []) (h : ∀ j, j < 3 → PSJ D t c Lo g 0 j u)
    (K : ∀ u', x_st2 u' = x_st2 u → RepS u' [] → (∀ j, j < 3 → PSJ D t c Lo g 9 j u') → post 1 u') : wX_send_58 post (nI (g.2.1 + 1)) (nI s) g.2.2.1 4 0 (x_time u) (x_sent u) (x_stageCount u) (x_tasks u) (x_sourceEnded u) (x_stageKind u) (x_stageA u) (x_stageB u) (x_stageParts u) (x_partStage u) (x_partUser u) (x_partX u) (x_partY u) (x_phase u) (x_beganAfter u) (x_due u) (x_count u) (x_held u) (x_heldY u) (x_hasHeld u) (x_hasHeldY u) (x_queueSize u) (x_queueIsOfX u) (x_queueValue u) (x_queueDue u) (x_subStatus u) (x_subCode u) (x_subEnd u) (x_subDemand u) (x_subRequests u) (x_subDelivered u) (x_subWaiting u) (x_waitValue u) (x_history u) (x_taskWhat u) (x_taskPart u) (x_taskValue u) := by
  refine sn_outer (fun id v => x_st2 v = x_st2 u ∧ RepS v [] ∧ (∀ j, j < 3 → PSJ D t c Lo g (if j < id then 9 else 0) j v)) ?_ u ⟨rfl, hS, fun j hj => h j hj⟩ (fun u' hq => K u' hq.1 hq.2.1 (fun j hj => by have := hq.2.2 j hj; rw [if_pos (by omega)] at this; exact this))
  intro id v hid hQ J hK
  obtain ⟨hz, hS, hP⟩ := hQ
  have hPid := hP id hid
  rw [if_neg (by omega)] at hPid
  unfold PSJ at hPid
  by_cases ha : D.1 id = true
  · rw [if_pos ha] at hPid
    obtain ⟨hT, hei⟩ := hD id hid ha
    have hgo := sq_inner (post := post) (J0 := J) (E := D.2.1 id) (B0 := D.2.2.1 id) (t := t) (c := c) (s := s) (Lo := Lo) (g := g) (z := x_st2 u) hT ht2 hc hg hgs hs3 hwo hmon hlen (fun w => ∀ j, j < 3 → j ≠ id → PSJ D t c Lo g (if j < id then 9 else 0) j w) (fun w w' hfr hS' hw j hj hne => sr_pj hD hj (xo_of hT (by rw [hei]; exact hne) hfr hS') (hw j hj hne)) v hz hS (fun j hj _ => hP j hj) hPid ?_
    · rw [hei] at hgo; exact hgo
    · intro u' h1 h2 h3 h4
      rw [hei]
      refine hK u' ⟨h1, h2, fun j hj => ?_⟩
      by_cases hji : j = id
      · subst hji
        rw [if_pos (by omega)]
        unfold PSJ
        rw [if_pos ha]
        exact h4
      · have := h3 j hj hji
        rcases Nat.lt_or_ge j id with y | y
        · rw [if_pos y] at this; rw [if_pos (by omega)]; exact this
        · rw [if_neg (by omega)] at this; rw [if_neg (by omega)]; exact this
  · rw [if_neg ha] at hPid
    refine sn_inner hid (fun _ w => w = v) (fun m w hm hw hs hp => ?_) (fun m w hm hw hsc => ?_) (fun m w hm hw _ => hw) 9 0 v rfl rfl (fun u' hu' => ?_)
    · subst hw
      rw [ad_st hPid.1] at hs
      exact absurd hs hPid.2
    · subst hw
      have hs := hsc.1
      rw [ad_st hPid.1] at hs
      exact absurd hs hPid.2
    · subst hu'
      refine hK u' ⟨hz, hS, fun j hj => ?_⟩
      by_cases hji : j = id
      · subst hji
        rw [if_pos (by omega)]
        unfold PSJ
        rw [if_neg ha]
        exact hPid
      · have := hP j hj
        rcases Nat.lt_or_ge j id with y | y
        · rw [if_pos y] at this; rw [if_pos (by omega)]; exact this
        · rw [if_neg (by omega)] at this; rw [if_neg (by omega)]; exact this
theorem sr_hear {F M t cc : Nat} (hF : F ≤ M) (hM : M < mo t 1 (cc + 1)) (hcc : cc < 4000000000) (hmv : mv cc F) : hrs F (mo t 1 (cc + 1)) = true := by
  unfold hrs
  by_cases e : F / 1099511627776 % 2 = 1
  · rw [if_pos e]
    have h1 := hmv e
    have h2 := (ts_num (t := t) (c := cc + 1) (b := 0) (by omega) (by omega)).2
    rw [Nat.add_zero] at h2
    rw [h2]
    exact decide_eq_true (by omega)
  · rw [if_neg e]
    exact decide_eq_true (by omega)
def PB (D : CD) (cc t : Nat) (LG : List Lg) (j : Nat) (u : SX) : Prop :=
  if D.1 j = true then (∃ M H F bg, M < mo t 1 (cc + 1) ∧ AR (eU (D.2.1 j) t M (fun _ => t) (fun _ => LG) LG) (D.2.2.1 j) cc u H F bg ∧ (FS (D.2.1 j) H).1 = 0) else RepU u j (D.2.2.2 j) ∧ (D.2.2.2 j).1 ≠ 0
theorem sr_pb {D : CD} {cc t j : Nat} {LG : List Lg} {u : SX} (h : PB D cc t LG j u) : PA D cc t LG j u := by
  unfold PB at h
  unfold PA
  by_cases ha : D.1 j = true
  · rw [if_pos ha] at h ⊢
    exact Or.inl h
  · rw [if_neg ha] at h ⊢
    exact h
section
variable {f_time : Int32} {f_sent : Int32} {f_stageCount : Int32} {f_tasks : Int32} {a_sourceEnded : (Nat → Int32)} {a_stageKind : (Nat → Int32)} {a_stageA : (Nat → Int32)} {a_stageB : (Nat → Int32)} {a_stageParts : (Nat → Int32)} {a_partStage : (Nat → Int32)} {a_partUser : (Nat → Int32)} {a_partX : (Nat → Int32)} {a_partY : (Nat → Int32)} {a_phase : (Nat → Int32)} {a_beganAfter : (Nat → Int32)} {a_due : (Nat → Int32)} {a_count : (Nat → Int32)} {a_held : (Nat → Int32)} {a_heldY : (Nat → Int32)} {a_hasHeld : (Nat → Int32)} {a_hasHeldY : (Nat → Int32)} {a_queueSize : (Nat → Int32)} {a_queueIsOfX : (Nat → Int32)} {a_queueValue : (Nat → Int32)} {a_queueDue : (Nat → Int32)} {a_subStatus : (Nat → Int32)} {a_subCode : (Nat → Int32)} {a_subEnd : (Nat → Int32)} {a_subDemand : (Nat → Int64)} {a_subRequests : (Nat → Int32)} {a_subDelivered : (Nat → Int32)} {a_subWaiting : (Nat → Int32)} {a_waitValue : (Nat → Int32)} {a_history : (Nat → Int64)} {a_taskWhat : (Nat → Int32)} {a_taskPart : (Nat → Int32)} {a_taskValue : (Nat → Int32)}
theorem sr_start {D : CD} {cc t j : Nat} {Lo : List Lg} {g : Lg} {so : Nat → Int32} (hcc : cc < 4000000000) (hg : g.2.2.2 = mo t 1 (cc + 1)) (h : PB D cc t Lo j (f_time, f_sent, f_stageCount, f_tasks, a_sourceEnded, a_stageKind, a_stageA, a_stageB, a_stageParts, a_partStage, a_partUser, a_partX, a_partY, a_phase, a_beganAfter, a_due, a_count, a_held, a_heldY, a_hasHeld, a_hasHeldY, a_queueSize, a_queueIsOfX, a_queueValue, a_queueDue, a_subStatus, a_subCode, a_subEnd, a_subDemand, a_subRequests, a_subDelivered, a_subWaiting, a_waitValue, a_history, a_taskWhat, a_taskPart, a_taskValue)) : PSJ D t (cc + 1) Lo g 0 j (f_time, nI (Lo ++ [g]).length, f_stageCount, f_tasks, so, a_stageKind, a_stageA, a_stageB, a_stageParts, a_partStage, a_partUser, a_partX, a_partY, a_phase, a_beganAfter, a_due, a_count, a_held, a_heldY, a_hasHeld, a_hasHeldY, a_queueSize, a_queueIsOfX, a_queueValue, a_queueDue, a_subStatus, a_subCode, a_subEnd, a_subDemand, a_subRequests, a_subDelivered, a_subWaiting, a_waitValue, a_history, a_taskWhat, a_taskPart, a_taskValue) := by
  unfold PB at h
  unfold PSJ
  by_cases ha : D.1 j = true
  · rw [if_pos ha] at h ⊢
    obtain ⟨M, H, F, bg, hM, ⟨hR, hB, hmv, hpz⟩, hs⟩ := h
    refine Or.inl ⟨M, H, F, bg, Nat.lt_of_lt_of_le hM (Nat.le_add_right _ _), ⟨?_, hB, fun q hq hb y => Nat.le_trans (hmv q hq hb y) (Nat.le_succ _), hpz⟩, hs⟩
    obtain ⟨hI, hC, hS, hDn, hC2, hroot, hCW⟩ := hR
    obtain ⟨i1, i2, i3, i4, i5, i6, i7, i8, i9, i10⟩ := hI
    have hS' := xe_stk hS
    refine ⟨⟨⟨i1.1, fun p hp => ?_⟩, i2, i3, i4, ⟨i5.1, xe_ru' (xe_ru i5.2)⟩, i6, i7, i8, fun q hq hb => ?_, rfl⟩, fun q hq => ?_, xe_stk' hS'.1 hS'.2, hDn, hC2, hroot, hCW⟩
    · obtain ⟨k1, k2, k3⟩ := i1.2 p hp
      exact ⟨xg_of_HZ k1, xg_of_HC k2, xg_of_HU k3⟩
    · have h1 := i9 q hq hb
      have hh := sr_hear (i4 q hq hb) hM hcc (hmv q hq hb)
      have hn : nb (Lo ++ [g]) (F q) = nb Lo (F q) := by
        rw [sq_nb, hg, if_pos hh]; rfl
      show a_beganAfter (ab (D.2.1 j) q) = nI (nb (Lo ++ [g]) (F q))
      rw [hn]
      exact h1
    · have hc := hC q hq
      exact ⟨fun hb => ⟨(hc.1 hb).1, fun hf => ⟨xe_rep' (xe_rep ((hc.1 hb).2 hf).1), ((hc.1 hb).2 hf).2⟩⟩, fun hb => xe_rep' (xe_rep (hc.2 hb))⟩
  · rw [if_neg ha] at h ⊢
    exact ⟨xe_ru' (xe_ru h.1), h.2⟩
end
theorem sr_pl (a c : Nat) : a + c * 256 + (9 + 1) < a + (c + 1) * 256 := by omega
theorem sr_mos (t c : Nat) : mo t 1 c + (9 + 1) < mo t 1 (c + 1) := by
  unfold mo
  exact sr_pl _ c
theorem sr_psj_pa {D : CD} {c t j : Nat} {Lo : List Lg} {g : Lg} {u : SX} (hD : cdOK D) (hj : j < 3) (h : PSJ D t c Lo g 9 j u) : PA D c t (Lo ++ [g]) j u := by
  unfold PSJ at h
  unfold PA
  by_cases ha : D.1 j = true
  · rw [if_pos ha] at h ⊢
    have h9 := (hD j hj ha).1.2.2.1
    rcases h with h | h
    · obtain ⟨M, H, F, bg, hM, ⟨hR, hB, hmv, hpz⟩, hs⟩ := h
      refine Or.inl ⟨M, H, F, bg, ?_, ⟨sq_rst_l (fun q hq => ?_) hR, hB, hmv, hpz⟩, hs⟩
      · exact Nat.lt_trans hM (sr_mos t c)
      · rw [if_pos (by omega)]
    · exact Or.inr h
  · rw [if_neg ha] at h ⊢
    exact h
def setS (se : Int32) (so : Nat → Int32) : St2 → St2
  | (a, _, b, _, r) => (a, se, b, so, r)
theorem sr_send {post : Int32 → SX → Prop} {D : CD} {cc t s w : Nat} {v : Int32} {Lo : List Lg} {u : SX} (hD : cdOK D) (ht2 : t ≤ 200) (hcc : cc < 3000000000) (hs3 : s < 3) (hw : 1 ≤ w) (hw3 : w ≤ 3) (hwo : wfo [(w, v)]) (hmon : ∀ g' ∈ Lo, g'.2.2.2 ≤ mo t 1 (cc + 1) ∧ g'.2.2.2 / 256 % 4294967296 ≤ cc + 1) (hlen : Lo.length < 32) (hse : x_sent u = nI Lo.length) (hso : x_sourceEnded u s = 0) (hS : RepS u []) (h : ∀ j, j < 3 → PB D cc t Lo j u)
    (K : ∀ u', x_st2 u' = setS (nI (Lo.length + 1)) (upd (x_sourceEnded u) s (bI (w != 1))) (x_st2 u) → RepS u' [] → (∀ j, j < 3 → PA D (cc + 1) t (Lo ++ [(s, w - 1, v, mo t 1 (cc + 1))]) j u') → post 1 u') : wpX_send post u (nI w) (nI s) v := by
  have hcl : (nI s).toNatClampNeg = s := nI_clamp (by omega)
  have hin : vp_in (nI s) 3 := vp_in_nI hs3 (by decide)
  obtain ⟨f_time, f_sent, f_stageCount, f_tasks, a_sourceEnded, a_stageKind, a_stageA, a_stageB, a_stageParts, a_partStage, a_partUser, a_partX, a_partY, a_phase, a_beganAfter, a_due, a_count, a_held, a_heldY, a_hasHeld, a_hasHeldY, a_queueSize, a_queueIsOfX, a_queueValue, a_queueDue, a_subStatus, a_subCode, a_subEnd, a_subDemand, a_subRequests, a_subDelivered, a_subWaiting, a_waitValue, a_history, a_taskWhat, a_taskPart, a_taskValue⟩ := u
  have hse' : f_sent = nI Lo.length := hse
  have hso' : a_sourceEnded s = 0 := hso
  have hSt := xe_stk hS
  have hl : (Lo ++ [(s, w - 1, v, mo t 1 (cc + 1))]).length = Lo.length + 1 := by simp
  have hw1 : w - 1 + 1 = w := by omega
  have go : ∀ so : Nat → Int32, so = upd a_sourceEnded s (bI (w != 1)) → wX_send_58 post (nI w) (nI s) v 4 0 f_time (nI (Lo.length + 1)) f_stageCount f_tasks (so) a_stageKind a_stageA a_stageB a_stageParts a_partStage a_partUser a_partX a_partY a_phase a_beganAfter a_due a_count a_held a_heldY a_hasHeld a_hasHeldY a_queueSize a_queueIsOfX a_queueValue a_queueDue a_subStatus a_subCode a_subEnd a_subDemand a_subRequests a_subDelivered a_subWaiting a_waitValue a_history a_taskWhat a_taskPart a_taskValue := by
    intro so hso2
    have hgo := sr_all (post := post) (D := D) (t := t) (c := cc + 1) (s := s) (Lo := Lo) (g := (s, w - 1, v, mo t 1 (cc + 1))) (u := (f_time, nI (Lo ++ [(s, w - 1, v, mo t 1 (cc + 1))]).length, f_stageCount, f_tasks, so, a_stageKind, a_stageA, a_stageB, a_stageParts, a_partStage, a_partUser, a_partX, a_partY, a_phase, a_beganAfter, a_due, a_count, a_held, a_heldY, a_hasHeld, a_hasHeldY, a_queueSize, a_queueIsOfX, a_queueValue, a_queueDue, a_subStatus, a_subCode, a_subEnd, a_subDemand, a_subRequests, a_subDelivered, a_subWaiting, a_waitValue, a_history, a_taskWhat, a_taskPart, a_taskValue)) hD ht2 (by omega) rfl rfl hs3 (by show wfo [(w - 1 + 1, v)]; rw [hw1]; exact hwo) hmon (by omega) (xe_stk' hSt.1 hSt.2) (fun j hj => sr_start (by omega) rfl (h j hj)) (fun u' h1 h2 h3 => K u' ?_ h2 (fun j hj => sr_psj_pa hD hj (h3 j hj)))
    · have hgo2 : wX_send_58 post (nI (w - 1 + 1)) (nI s) v 4 0 f_time (nI (Lo ++ [(s, w - 1, v, mo t 1 (cc + 1))]).length) f_stageCount f_tasks (so) a_stageKind a_stageA a_stageB a_stageParts a_partStage a_partUser a_partX a_partY a_phase a_beganAfter a_due a_count a_held a_heldY a_hasHeld a_hasHeldY a_queueSize a_queueIsOfX a_queueValue a_queueDue a_subStatus a_subCode a_subEnd a_subDemand a_subRequests a_subDelivered a_subWaiting a_waitValue a_history a_taskWhat a_taskPart a_taskValue := hgo
      rw [hw1, hl] at hgo2
      exact hgo2
    · rw [h1, xe_st2, xe_st2, hl, hso2]
      rfl
  refine br_f (nI_pos (by omega)) (br_f (nI_ge (b := 3) hs3 (by decide)) ⟨hin, br_t (by rw [hcl]; exact hso') (br_t (by rw [hse']; exact nI_lt (b := 32) hlen (by decide)) (nm_r (e' := nI (Lo.length + 1)) (by rw [hse', nI_1]) ?_))⟩)
  by_cases h1 : w = 1
  · exact br_t (by rw [h1]; rfl) ⟨hin, nm_e ⟨4, go _ (by rw [hcl, h1]; rfl)⟩⟩
  · have hb : (w != 1) = true := by simpa using h1
    exact br_f (by rw [show (1 : Int32) = nI 1 from rfl, nI_eq (by omega) (by decide)]; exact h1) ⟨hin, nm_e ⟨4, go _ (by rw [hcl, hb]; rfl)⟩⟩
end
section
/-! ===== subscribe of the component ===== -/
def SA (id ns : Nat) : St2 → St2 → Prop
  | (ti, se, _, _, sk, sa, sb, _, ps, pu, px, py, _), (ti', se', _, _, sk', sa', sb', _, ps', pu', px', py', _) =>
    ti' = ti ∧ se' = se ∧ (∀ σ, σ < ns → sk' σ = sk σ ∧ sa' σ = sa σ ∧ sb' σ = sb σ) ∧ ∀ j, 9 * id ≤ j → j < 9 * id + 9 → ps' j = ps j ∧ pu' j = pu j ∧ px' j = px j ∧ py' j = py j
def FO2 (id ns : Nat) (u u' : SX) : Prop :=
  SA id ns (x_st2 u) (x_st2 u') ∧ (∀ j, 9 * id ≤ j → j < 9 * id + 9 → (∀ S, RepP u j S → RepP u' j S) ∧ x_phase u' j = x_phase u j ∧ x_beganAfter u' j = x_beganAfter u j) ∧ (∀ s, RepU u id s → RepU u' id s) ∧ RepS u' []
theorem sb_xs {E : Env} {ns : Nat} {z z' : St2} (hT : TR E) (hsg : ∀ p, p < e_n E → e_sg E p < ns) (h : XS E z) (hA : SA (e_id E) ns z z') : XS E z' := by
  obtain ⟨ti, se, sc, so, sk, sa, sb, sp, ps, pu, px, py, sr⟩ := z
  obtain ⟨ti', se', sc', so', sk', sa', sb', sp', ps', pu', px', py', sr'⟩ := z'
  obtain ⟨h1, h2, h3, h4⟩ := hA
  have h9 := hT.2.2.1
  refine ⟨h1.trans h.1, fun p hp => ?_⟩
  obtain ⟨k1, k2, k3⟩ := h.2 p hp
  obtain ⟨a1, a2, a3, a4, a5, a6, a7, a8, a9⟩ := k1
  have hj := h4 (ab E p) (by unfold ab; omega) (by unfold ab; omega)
  have hσ := h3 _ (hsg p hp)
  refine ⟨⟨a1, h1.trans a2, a3, hj.1.trans a4, a5, hσ.1.trans a6, hσ.2.1.trans a7, hσ.2.2.trans a8, a9⟩, ⟨fun g => ⟨hj.2.2.1.trans (k2.1 g).1, (k2.1 g).2⟩, fun g => ⟨hj.2.2.2.trans (k2.2 g).1, (k2.2 g).2⟩⟩, hj.2.1.trans k3⟩
theorem sb_sent {id ns : Nat} {u u' : SX} (h : SA id ns (x_st2 u) (x_st2 u')) : x_sent u' = x_sent u := h.2.1
theorem sb_rst {E : Env} {ns : Nat} {u u' : SX} {H : Nat → List Ev} {F : Nat → Nat} {bg : Nat → Bool} (hT : TR E) (hsg : ∀ p, p < e_n E → e_sg E p < ns) (h : RST E u H F bg) (hf : FO2 (e_id E) ns u u') : RST E u' H F bg := by
  obtain ⟨hI, hC, hS, hD, hC2, hroot, hCW⟩ := h
  obtain ⟨i1, i2, i3, i4, i5, i6, i7, i8, i9, i10⟩ := hI
  obtain ⟨f1, f2, f3, f4⟩ := hf
  have h9 := hT.2.2.1
  have hab : ∀ q, q < e_n E → 9 * e_id E ≤ ab E q ∧ ab E q < 9 * e_id E + 9 := fun q hq => by unfold ab; omega
  refine ⟨⟨sb_xs hT hsg i1 f1, fun q hq => by rw [(f2 _ (hab q hq).1 (hab q hq).2).2.1]; exact i2 q hq, i3, i4, ⟨i5.1, f3 _ i5.2⟩, i6, i7, i8, fun q hq hb => by rw [(f2 _ (hab q hq).1 (hab q hq).2).2.2]; exact i9 q hq hb, by rw [sb_sent f1]; exact i10⟩, fun q hq => ?_, f4, hD, hC2, hroot, hCW⟩
  have hc := hC q hq
  have hr := (f2 _ (hab q hq).1 (hab q hq).2).1
  exact ⟨fun hb => ⟨(hc.1 hb).1, fun hf => ⟨hr _ ((hc.1 hb).2 hf).1, ((hc.1 hb).2 hf).2⟩⟩, fun hb => hr _ (hc.2 hb)⟩
theorem sb_ar {E : Env} {ns B0 cc : Nat} {u u' : SX} {H : Nat → List Ev} {F : Nat → Nat} {bg : Nat → Bool} (hT : TR E) (hsg : ∀ p, p < e_n E → e_sg E p < ns) (h : AR E B0 cc u H F bg) (hf : FO2 (e_id E) ns u u') : AR E B0 cc u' H F bg := by
  obtain ⟨hR, hB, hmv, hpz⟩ := h
  refine ⟨sb_rst hT hsg hR hf, hB, hmv, fun k h1 h2 => ?_⟩
  rw [(hf.2.1 (9 * e_id E + k) (by omega) (by omega)).2.1]
  exact hpz k h1 h2
/-- the tables of the component -/
def TXt (ns : Nat) (K A B : Nat → Nat) (oa ob : Nat → Int32) : St2 → Prop
  | (_, _, sc, _, sk, sa, sb, sp, _, _, _, _, _) => TB K A B ns ∧ sc = nI ns ∧ ∀ σ, σ < ns → sk σ = nI (K σ) ∧ sa σ = oa σ ∧ sb σ = ob σ ∧ sp σ = nI (sz K A B σ) ∧ opk (K σ) (oa σ) (ob σ) ∧ (3 ≤ K σ → oa σ = nI (A σ)) ∧ (16 ≤ K σ → ob σ = nI (B σ))
theorem sb_TA {ns : Nat} {K A B : Nat → Nat} {oa ob : Nat → Int32} {ti se sc : Int32} {so sk sa sb sp ps pu px py sr : Nat → Int32} (h : TXt ns K A B oa ob (ti, se, sc, so, sk, sa, sb, sp, ps, pu, px, py, sr)) : TA ns K A B sk sa sb sp := by
  intro σ hσ
  obtain ⟨a1, a2, a3, a4, a5, a6, a7⟩ := h.2.2 σ hσ
  exact ⟨a1, fun g => by rw [a2]; exact a6 g, fun g => by rw [a3]; exact a7 g, a4⟩
section
variable {f_time : Int32} {f_sent : Int32} {f_stageCount : Int32} {f_tasks : Int32} {a_sourceEnded : (Nat → Int32)} {a_stageKind : (Nat → Int32)} {a_stageA : (Nat → Int32)} {a_stageB : (Nat → Int32)} {a_stageParts : (Nat → Int32)} {a_partStage : (Nat → Int32)} {a_partUser : (Nat → Int32)} {a_partX : (Nat → Int32)} {a_partY : (Nat → Int32)} {a_phase : (Nat → Int32)} {a_beganAfter : (Nat → Int32)} {a_due : (Nat → Int32)} {a_count : (Nat → Int32)} {a_held : (Nat → Int32)} {a_heldY : (Nat → Int32)} {a_hasHeld : (Nat → Int32)} {a_hasHeldY : (Nat → Int32)} {a_queueSize : (Nat → Int32)} {a_queueIsOfX : (Nat → Int32)} {a_queueValue : (Nat → Int32)} {a_queueDue : (Nat → Int32)} {a_subStatus : (Nat → Int32)} {a_subCode : (Nat → Int32)} {a_subEnd : (Nat → Int32)} {a_subDemand : (Nat → Int64)} {a_subRequests : (Nat → Int32)} {a_subDelivered : (Nat → Int32)} {a_subWaiting : (Nat → Int32)} {a_waitValue : (Nat → Int32)} {a_history : (Nat → Int64)} {a_taskWhat : (Nat → Int32)} {a_taskPart : (Nat → Int32)} {a_taskValue : (Nat → Int32)}
theorem sb_run {post : SX → Prop} {id ns s t cc : Nat} {K A B sg us : Nat → Nat} {oa ob : Nat → Int32} {LG : List Lg} {hh : Nat → Int64} (hid : id < 3) (hX : TXt ns K A B oa ob (x_st2 (f_time, f_sent, f_stageCount, f_tasks, a_sourceEnded, a_stageKind, a_stageA, a_stageB, a_stageParts, a_partStage, a_partUser, a_partX, a_partY, a_phase, a_beganAfter, a_due, a_count, a_held, a_heldY, a_hasHeld, a_hasHeldY, a_queueSize, a_queueIsOfX, a_queueValue, a_queueDue, a_subStatus, a_subCode, a_subEnd, a_subDemand, a_subRequests, a_subDelivered, a_subWaiting, a_waitValue, a_history, a_taskWhat, a_taskPart, a_taskValue))) (hs : s < ns) (h9 : sz K A B s ≤ 9) (hL : Lok K A B sg us ns 0 s) (hr : sg (sz K A B s - 1) = s) (ht : f_time = nI t) (ht2 : t ≤ 200) (hse : f_sent = nI LG.length) (hcc : cc < 3000000000) (hLG : ∀ g ∈ LG, g.2.2.2 / 256 % 4294967296 ≤ cc + 1)
    (hph : ∀ k, k < 9 → a_phase (9 * id + k) = 0) (hcl : ∀ k, k < 9 → RepA a_due a_count a_held a_heldY a_hasHeld a_hasHeldY a_queueSize a_queueIsOfX a_queueValue a_queueDue (9 * id + k) clr) (hli : ∃ ps pu px py, LI id (sz K A B s) 0 K A B sg us ps pu px py a_partStage a_partUser a_partX a_partY) (hsub : RepB a_subStatus a_subCode a_subEnd a_subDemand a_subDelivered a_subWaiting a_waitValue a_history id (0, 0, 0, 0, 0, [], hh)) (hT0 : f_tasks = nI 0)
    (KK : ∀ u' H F bg, AR (eU (mkE id (sz K A B s) t (mo t 1 (cc + 1)) 0 K A B sg us oa ob (fun _ => t) (fun _ => LG) LG (0, 0, 0, 0, 0, [], hh)) t (mo t 1 (cc + 1)) (fun _ => t) (fun _ => LG) LG) (mo t 1 (cc + 1)) (cc + 1) u' H F bg → FR (mkE id (sz K A B s) t (mo t 1 (cc + 1)) 0 K A B sg us oa ob (fun _ => t) (fun _ => LG) LG (0, 0, 0, 0, 0, [], hh)) 0 (f_time, f_sent, f_stageCount, f_tasks, a_sourceEnded, a_stageKind, a_stageA, a_stageB, a_stageParts, a_partStage, a_partUser, a_partX, a_partY, a_phase, a_beganAfter, a_due, a_count, a_held, a_heldY, a_hasHeld, a_hasHeldY, a_queueSize, a_queueIsOfX, a_queueValue, a_queueDue, a_subStatus, a_subCode, a_subEnd, a_subDemand, a_subRequests, a_subDelivered, a_subWaiting, a_waitValue, a_history, a_taskWhat, a_taskPart, a_taskValue) u' → post u') :
    wpX_push (fun u1 => match u1 with | (f_time, f_sent, f_stageCount, f_tasks, a_sourceEnded, a_stageKind, a_stageA, a_stageB, a_stageParts, a_partStage, a_partUser, a_partX, a_partY, a_phase, a_beganAfter, a_due, a_count, a_held, a_heldY, a_hasHeld, a_hasHeldY, a_queueSize, a_queueIsOfX, a_queueValue, a_queueDue, a_subStatus, a_subCode, a_subEnd, a_subDemand, a_subRequests, a_subDelivered, a_subWaiting, a_waitValue, a_history, a_taskWhat, a_taskPart, a_taskValue) => wpX_runTasks post (f_time, f_sent, f_stageCount, f_tasks, a_sourceEnded, a_stageKind, a_stageA, a_stageB, a_stageParts, a_partStage, a_partUser, a_partX, a_partY, a_phase, a_beganAfter, a_due, a_count, a_held, a_heldY, a_hasHeld, a_hasHeldY, a_queueSize, a_queueIsOfX, a_queueValue, a_queueDue, a_subStatus, a_subCode, a_subEnd, a_subDemand, a_subRequests, a_subDelivered, a_subWaiting, a_waitValue, a_history, a_taskWhat, a_taskPart, a_taskValue) (nI id)) (f_time, f_sent, f_stageCount, f_tasks, a_sourceEnded, a_stageKind, a_stageA, a_stageB, a_stageParts, a_partStage, a_partUser, a_partX, a_partY, a_phase, a_beganAfter, a_due, a_count, a_held, a_heldY, a_hasHeld, a_hasHeldY, a_queueSize, a_queueIsOfX, a_queueValue, a_queueDue, a_subStatus, a_subCode, a_subEnd, a_subDemand, a_subRequests, a_subDelivered, a_subWaiting, a_waitValue, a_history, a_taskWhat, a_taskPart, a_taskValue) (nI 0) (nI (9 * id + (sz K A B s - 1))) 0 := by
  obtain ⟨ps0, pu0, px0, py0, hI1, hI2, hI3, hI4, hI5⟩ := hli
  have hTB := hX.1
  have hpos := tr_pos hTB hs
  have hTR := ly_TR (id := id) (t := t) (M := mo t 1 (cc + 1)) (h0 := 0) (oa := oa) (ob := ob) (c := fun _ => t) (lg := fun _ => LG) (LG := LG) (s0 := (0, 0, 0, 0, 0, [], hh)) hid hTB hs h9 hL
  have hrs0 : ∀ g ∈ LG, hrs (mo t 1 (cc + 1)) g.2.2.2 = false := fun g hg => by
    have := ts_hrs (t := t) (c := cc + 1) (b := 0) (by omega) (by omega) (hLG g hg)
    rw [Nat.add_zero] at this
    exact this
  have htim : tim (mo t 1 (cc + 1)) = t := by
    have := tim_mo (t := t) (ph := 1) (nu := cc + 1) (b := 0) (by decide) (by omega) (by omega)
    rw [Nat.add_zero] at this
    exact this
  have hck : ∀ q, q < 9 → ckm q (mo t 1 (cc + 1)) = t := fun q hq => by
    have := ts_ck (t := t) (c := cc + 1) (b := 0) hq (by omega) (by omega)
    rw [Nat.add_zero] at this
    exact this
  have hwin : ∀ q, q < 9 → tm t q ≤ mo t 1 (cc + 1) ∧ mo t 1 (cc + 1) < tm (t + 1) q := fun q hq => by
    have := ts_win (t := t) (c := cc + 1) (b := 0) hq (by omega) (by omega)
    rw [Nat.add_zero] at this
    exact this
  suffices hh0 : ∀ u1, EffN (f_time, f_sent, f_stageCount, f_tasks, a_sourceEnded, a_stageKind, a_stageA, a_stageB, a_stageParts, a_partStage, a_partUser, a_partX, a_partY, a_phase, a_beganAfter, a_due, a_count, a_held, a_heldY, a_hasHeld, a_hasHeldY, a_queueSize, a_queueIsOfX, a_queueValue, a_queueDue, a_subStatus, a_subCode, a_subEnd, a_subDemand, a_subRequests, a_subDelivered, a_subWaiting, a_waitValue, a_history, a_taskWhat, a_taskPart, a_taskValue) u1 [(0, 9 * id + (sz K A B s - 1), 0)] (x_phase (f_time, f_sent, f_stageCount, f_tasks, a_sourceEnded, a_stageKind, a_stageA, a_stageB, a_stageParts, a_partStage, a_partUser, a_partX, a_partY, a_phase, a_beganAfter, a_due, a_count, a_held, a_heldY, a_hasHeld, a_hasHeldY, a_queueSize, a_queueIsOfX, a_queueValue, a_queueDue, a_subStatus, a_subCode, a_subEnd, a_subDemand, a_subRequests, a_subDelivered, a_subWaiting, a_waitValue, a_history, a_taskWhat, a_taskPart, a_taskValue)) → wpX_runTasks post u1 (nI id) by
    refine sw_push (R := []) (xe_stk' hT0 True.intro) (by simp) (fun u1 he => ?_)
    have h2 := hh0 u1 he
    obtain ⟨f_time, f_sent, f_stageCount, f_tasks, a_sourceEnded, a_stageKind, a_stageA, a_stageB, a_stageParts, a_partStage, a_partUser, a_partX, a_partY, a_phase, a_beganAfter, a_due, a_count, a_held, a_heldY, a_hasHeld, a_hasHeldY, a_queueSize, a_queueIsOfX, a_queueValue, a_queueDue, a_subStatus, a_subCode, a_subEnd, a_subDemand, a_subRequests, a_subDelivered, a_subWaiting, a_waitValue, a_history, a_taskWhat, a_taskPart, a_taskValue⟩ := u1
    exact h2
  intro u1 he
  refine sw_run ?_
  obtain ⟨f1, f2, f3, f4, f5, f6⟩ := he
  have hXS : XS (mkE id (sz K A B s) t (mo t 1 (cc + 1)) 0 K A B sg us oa ob (fun _ => t) (fun _ => LG) LG (0, 0, 0, 0, 0, [], hh)) (x_st2 (f_time, f_sent, f_stageCount, f_tasks, a_sourceEnded, a_stageKind, a_stageA, a_stageB, a_stageParts, a_partStage, a_partUser, a_partX, a_partY, a_phase, a_beganAfter, a_due, a_count, a_held, a_heldY, a_hasHeld, a_hasHeldY, a_queueSize, a_queueIsOfX, a_queueValue, a_queueDue, a_subStatus, a_subCode, a_subEnd, a_subDemand, a_subRequests, a_subDelivered, a_subWaiting, a_waitValue, a_history, a_taskWhat, a_taskPart, a_taskValue)) := by
    refine ⟨ht, fun p hp => ?_⟩
    have hp' : p < sz K A B s := hp
    have hq := hL.1 p (by omega) (by omega)
    have h12 := hTB.1
    obtain ⟨a1, a2, a3, a4, a5, a6, a7⟩ := hX.2.2 _ hq.1
    have hps : a_partStage (9 * id + p) = nI (sg p) := by
      refine hI1 p hp' ?_
      by_cases e : p + 1 = sz K A B s
      · exact Or.inl e
      · exact Or.inr (Nat.zero_le _)
    refine ⟨⟨by show 9 * id + p < 27; omega, ht, ht2, hps, by show sg p < 12; omega, a1, a2, a3, a5⟩, ⟨fun g => ⟨(hI4 p (Nat.zero_le _) hp').1 g, ?_⟩, fun g => ⟨(hI4 p (Nat.zero_le _) hp').2 g, ?_, ?_⟩⟩, ?_⟩
    · have := hq.2.2.1 g
      show 9 * id + xcf K A B sg p < 27
      omega
    · show 9 * id + (p - 1) < 27
      omega
    · have := hq.2.2.2.1 g
      show 9 * id + xcf K A B sg p ≠ 9 * id + (p - 1)
      omega
    · show a_partUser (9 * id + p) = if p + 1 = sz K A B s then -1 else nI (9 * id + us p)
      by_cases e : p + 1 = sz K A B s
      · rw [if_pos e, show p = sz K A B s - 1 from by omega]; exact hI3
      · rw [if_neg e]; exact hI2 p (by omega) (Nat.zero_le _)
  have hIV : IV (mkE id (sz K A B s) t (mo t 1 (cc + 1)) 0 K A B sg us oa ob (fun _ => t) (fun _ => LG) LG (0, 0, 0, 0, 0, [], hh)) u1 (fun _ => []) (fun _ => 0) (fun _ => false) := by
    refine ⟨by rw [f1]; exact hXS, fun q hq => ?_, fun q hq e he => absurd he (by simp), fun q hq hb => Bool.noConfusion hb, ⟨Nat.zero_le _, ca_sub f2 _ _ (xe_ru' hsub)⟩, fun q hq hk hb => Bool.noConfusion hb, fun q hq _ => rfl, fun q hq hb => Bool.noConfusion hb, fun q hq hb => Bool.noConfusion hb, by rw [ca_sent f1]; exact hse⟩
    rw [f3]
    have hq' : q < sz K A B s := hq
    exact hph q (by omega)
  have hCL : ∀ q, q < sz K A B s → CL (mkE id (sz K A B s) t (mo t 1 (cc + 1)) 0 K A B sg us oa ob (fun _ => t) (fun _ => LG) LG (0, 0, 0, 0, 0, [], hh)) u1 (fun _ => []) (fun _ => 0) (fun _ => false) q := fun q hq => ⟨fun hb => Bool.noConfusion hb, fun _ => f5 _ _ (xe_rep' (hcl q (by omega)))⟩
  have hlo : lof K A B sg (sz K A B s - 1) = 0 := by unfold lof; rw [hr]; omega
  have h310 : e3 10 = 29524 := by decide
  refine cz_beg (z := sz K A B s - 1) hTR htim ht2 ⟨fun q hq g hg => hrs0 g hg, hrs0⟩ (show sz K A B s - 1 < sz K A B s by omega) 0 [] u1 (fun _ => []) (fun _ => 0) (fun _ => false) (show sz K A B s - 1 < sz K A B s by omega) hIV (fun q h1 h2 => hCL q h2) (fun z hz h16 h19 h1 h2 e he => absurd he (by simp)) (fun q h1 h2 => hck q (by have h2' : q < sz K A B s := h2; omega)) (fun q _ _ => rfl) (fun h => by have h' : sz K A B s - 1 + 1 < sz K A B s := h; omega) (fun q hq hk hy => ?_) f6 ?_ ?_ ?_
  · exfalso
    have h8 := hTR.2.2.2.2.2.2.2.1 q hq (by have hk' : 19 ≤ K (sg q) := hk; show 16 ≤ K (sg q); omega)
    have hq' : q < sz K A B s := hq
    rw [hy] at h8
    have := h8.1
    omega
  · show [].length + 3 + 10 * (9 - lof K A B sg (sz K A B s - 1)) + (sz K A B s - 1 - lof K A B sg (sz K A B s - 1)) ≤ 128
    rw [hlo]; simp; omega
  · show 0 + e3 (10 - lof K A B sg (sz K A B s - 1)) ≤ 1000000 + e3 (9 - (sz K A B s - 1))
    rw [hlo, Nat.sub_zero, h310]; omega
  · intro x' u' H' F' bg' k1 k2 k3 k4 k5 k6 k7 k8
    have k1' : x' + e3 (9 - (sz K A B s - 1)) ≤ 0 + e3 (10 - lof K A B sg (sz K A B s - 1)) := k1
    rw [hlo, Nat.sub_zero, h310] at k1'
    have k3' : ∀ q, q < sz K A B s → CL (mkE id (sz K A B s) t (mo t 1 (cc + 1)) 0 K A B sg us oa ob (fun _ => t) (fun _ => LG) LG (0, 0, 0, 0, 0, [], hh)) u' H' F' bg' q := fun q hq => k3 q (by show lof K A B sg (sz K A B s - 1) ≤ q; rw [hlo]; exact Nat.zero_le _) hq
    have hFq : ∀ q, q < sz K A B s → bg' q = true → F' q = mo t 1 (cc + 1) := fun q hq hb => by
      rcases k6.2.2.2.1 q hq hb with y | y
      · exact Bool.noConfusion y
      · exact y.1
    have hfr : FR (mkE id (sz K A B s) t (mo t 1 (cc + 1)) 0 K A B sg us oa ob (fun _ => t) (fun _ => LG) LG (0, 0, 0, 0, 0, [], hh)) 0 u1 u' := fr_mono (Nat.zero_le _) k6.1
    have hfr1 : FR (mkE id (sz K A B s) t (mo t 1 (cc + 1)) 0 K A B sg us oa ob (fun _ => t) (fun _ => LG) LG (0, 0, 0, 0, 0, [], hh)) 0 (f_time, f_sent, f_stageCount, f_tasks, a_sourceEnded, a_stageKind, a_stageA, a_stageB, a_stageParts, a_partStage, a_partUser, a_partX, a_partY, a_phase, a_beganAfter, a_due, a_count, a_held, a_heldY, a_hasHeld, a_hasHeldY, a_queueSize, a_queueIsOfX, a_queueValue, a_queueDue, a_subStatus, a_subCode, a_subEnd, a_subDemand, a_subRequests, a_subDelivered, a_subWaiting, a_waitValue, a_history, a_taskWhat, a_taskPart, a_taskValue) u1 := ⟨f1, fun j _ S h => f5 j S h, fun j _ => ⟨by rw [f3], by rw [f4]⟩, fun j _ s' hs' => ca_sub f2 j s' hs'⟩
    refine sw_end (by omega) k5 (KK u' H' F' bg' ⟨⟨k2, k3', k5, fun q hq hb => ?_, fun q hq hk => ?_, k7, fun q hq => hwin q (by have hq' : q < sz K A B s := hq; omega)⟩, k8, fun q hq hb => ?_, fun k h1 h2 => ?_⟩ (fr_trans hfr1 hfr))
    · rcases k6.2.2.2.1 q hq hb with y | y
      · exact Bool.noConfusion y
      · exact y.2
    · exact k6.2.2.2.2.1 q hq hk (fun e he _ => absurd he (by simp))
    · rw [hFq q hq hb]
      intro _
      have := (ts_num (t := t) (c := cc + 1) (b := 0) (by omega) (by omega)).2
      rw [Nat.add_zero] at this
      omega
    · have h1' : sz K A B s ≤ k := h1
      have := (hfr.2.2.1 (9 * id + k) (Or.inr (by show 9 * id + sz K A B s ≤ 9 * id + k; omega))).1
      rw [show 9 * e_id (eU (mkE id (sz K A B s) t (mo t 1 (cc + 1)) 0 K A B sg us oa ob (fun _ => t) (fun _ => LG) LG (0, 0, 0, 0, 0, [], hh)) t (mo t 1 (cc + 1)) (fun _ => t) (fun _ => LG) LG) + k = 9 * id + k from rfl, this, f3]
      exact hph k h2
end
end
section
/-! ===== the reference: its streams in arrays ===== -/
def y_stages (u : SY) : Int32 := u.1
def y_heard (u : SY) : Int32 := u.2.1
def y_now (u : SY) : Int32 := u.2.2.1
def y_calls (u : SY) : Int64 := u.2.2.2.1
def y_parts (u : SY) : Int32 := u.2.2.2.2.1
def y_start (u : SY) : Int64 := u.2.2.2.2.2.1
def y_at (u : SY) : Int32 := u.2.2.2.2.2.2.1
def y_nextX (u : SY) : Int32 := u.2.2.2.2.2.2.2.1
def y_nextY (u : SY) : Int32 := u.2.2.2.2.2.2.2.2.1
def y_x (u : SY) : Int32 := u.2.2.2.2.2.2.2.2.2.1
def y_y (u : SY) : Int32 := u.2.2.2.2.2.2.2.2.2.2.1
def y_kind (u : SY) : (Nat → Int32) := u.2.2.2.2.2.2.2.2.2.2.2.1
def y_opA (u : SY) : (Nat → Int32) := u.2.2.2.2.2.2.2.2.2.2.2.2.1
def y_opB (u : SY) : (Nat → Int32) := u.2.2.2.2.2.2.2.2.2.2.2.2.2.1
def y_heardBy (u : SY) : (Nat → Int32) := u.2.2.2.2.2.2.2.2.2.2.2.2.2.2.1
def y_what (u : SY) : (Nat → Int32) := u.2.2.2.2.2.2.2.2.2.2.2.2.2.2.2.1
def y_said (u : SY) : (Nat → Int32) := u.2.2.2.2.2.2.2.2.2.2.2.2.2.2.2.2.1
def y_when (u : SY) : (Nat → Int64) := u.2.2.2.2.2.2.2.2.2.2.2.2.2.2.2.2.2.1
def y_over (u : SY) : (Nat → Int32) := u.2.2.2.2.2.2.2.2.2.2.2.2.2.2.2.2.2.2.1
def y_part (u : SY) : (Nat → Int32) := u.2.2.2.2.2.2.2.2.2.2.2.2.2.2.2.2.2.2.2.1
def y_first (u : SY) : (Nat → Int32) := u.2.2.2.2.2.2.2.2.2.2.2.2.2.2.2.2.2.2.2.2.1
def y_second (u : SY) : (Nat → Int32) := u.2.2.2.2.2.2.2.2.2.2.2.2.2.2.2.2.2.2.2.2.2.1
def y_user (u : SY) : (Nat → Int32) := u.2.2.2.2.2.2.2.2.2.2.2.2.2.2.2.2.2.2.2.2.2.2.1
def y_goStage (u : SY) : (Nat → Int32) := u.2.2.2.2.2.2.2.2.2.2.2.2.2.2.2.2.2.2.2.2.2.2.2.1
def y_goStep (u : SY) : (Nat → Int32) := u.2.2.2.2.2.2.2.2.2.2.2.2.2.2.2.2.2.2.2.2.2.2.2.2.1
def y_done (u : SY) : (Nat → Int32) := u.2.2.2.2.2.2.2.2.2.2.2.2.2.2.2.2.2.2.2.2.2.2.2.2.2.1
def y_val (u : SY) : (Nat → Int32) := u.2.2.2.2.2.2.2.2.2.2.2.2.2.2.2.2.2.2.2.2.2.2.2.2.2.2.1
def y_mom (u : SY) : (Nat → Int64) := u.2.2.2.2.2.2.2.2.2.2.2.2.2.2.2.2.2.2.2.2.2.2.2.2.2.2.2.1
def y_cnt (u : SY) : (Nat → Int32) := u.2.2.2.2.2.2.2.2.2.2.2.2.2.2.2.2.2.2.2.2.2.2.2.2.2.2.2.2.1
def y_end (u : SY) : (Nat → Int32) := u.2.2.2.2.2.2.2.2.2.2.2.2.2.2.2.2.2.2.2.2.2.2.2.2.2.2.2.2.2.1
def y_endMom (u : SY) : (Nat → Int64) := u.2.2.2.2.2.2.2.2.2.2.2.2.2.2.2.2.2.2.2.2.2.2.2.2.2.2.2.2.2.2.1
def y_begun (u : SY) : (Nat → Int32) := u.2.2.2.2.2.2.2.2.2.2.2.2.2.2.2.2.2.2.2.2.2.2.2.2.2.2.2.2.2.2.2.1
def y_status (u : SY) : (Nat → Int32) := u.2.2.2.2.2.2.2.2.2.2.2.2.2.2.2.2.2.2.2.2.2.2.2.2.2.2.2.2.2.2.2.2.1
def y_stageOf (u : SY) : (Nat → Int32) := u.2.2.2.2.2.2.2.2.2.2.2.2.2.2.2.2.2.2.2.2.2.2.2.2.2.2.2.2.2.2.2.2.2.1
def y_began (u : SY) : (Nat → Int64) := u.2.2.2.2.2.2.2.2.2.2.2.2.2.2.2.2.2.2.2.2.2.2.2.2.2.2.2.2.2.2.2.2.2.2.1
def y_taken (u : SY) : (Nat → Int32) := u.2.2.2.2.2.2.2.2.2.2.2.2.2.2.2.2.2.2.2.2.2.2.2.2.2.2.2.2.2.2.2.2.2.2.2.1
def y_demand (u : SY) : (Nat → Int64) := u.2.2.2.2.2.2.2.2.2.2.2.2.2.2.2.2.2.2.2.2.2.2.2.2.2.2.2.2.2.2.2.2.2.2.2.2.1
def y_asked (u : SY) : (Nat → Int32) := u.2.2.2.2.2.2.2.2.2.2.2.2.2.2.2.2.2.2.2.2.2.2.2.2.2.2.2.2.2.2.2.2.2.2.2.2.2.1
def y_code (u : SY) : (Nat → Int32) := u.2.2.2.2.2.2.2.2.2.2.2.2.2.2.2.2.2.2.2.2.2.2.2.2.2.2.2.2.2.2.2.2.2.2.2.2.2.2.1
def y_waits (u : SY) : (Nat → Int32) := u.2.2.2.2.2.2.2.2.2.2.2.2.2.2.2.2.2.2.2.2.2.2.2.2.2.2.2.2.2.2.2.2.2.2.2.2.2.2.2.1
def y_waiting (u : SY) : (Nat → Int32) := u.2.2.2.2.2.2.2.2.2.2.2.2.2.2.2.2.2.2.2.2.2.2.2.2.2.2.2.2.2.2.2.2.2.2.2.2.2.2.2.2.1
def y_came (u : SY) : (Nat → Int32) := u.2.2.2.2.2.2.2.2.2.2.2.2.2.2.2.2.2.2.2.2.2.2.2.2.2.2.2.2.2.2.2.2.2.2.2.2.2.2.2.2.2.1
def y_given (u : SY) : (Nat → Int32) := u.2.2.2.2.2.2.2.2.2.2.2.2.2.2.2.2.2.2.2.2.2.2.2.2.2.2.2.2.2.2.2.2.2.2.2.2.2.2.2.2.2.2.1
def y_got (u : SY) : (Nat → Int64) := u.2.2.2.2.2.2.2.2.2.2.2.2.2.2.2.2.2.2.2.2.2.2.2.2.2.2.2.2.2.2.2.2.2.2.2.2.2.2.2.2.2.2.2
def evs (L : List (Int32 × Nat)) (z : Option (Int32 × Nat)) : List Ev := L.map (fun x => (1, x.1, x.2)) ++ (match z with | none => [] | some w => [(if w.1 = 0 then 2 else 3, w.1, w.2)])
def zok (z : Option (Int32 × Nat)) : Prop := ∀ w, z = some w → w.2 < 1000000000000000 ∧ ∃ j : Nat, j ≤ 9 ∧ w.1 = nI j
def YA (va : Nat → Int32) (mm : Nat → Int64) (cn en : Nat → Int32) (em : Nat → Int64) (q : Nat) (L : List (Int32 × Nat)) (z : Option (Int32 × Nat)) : Prop :=
  cn q = nI L.length ∧ L.length ≤ 255 ∧ (∀ i x, L[i]? = some x → va (256 * q + i) = x.1 ∧ mm (256 * q + i) = lN x.2 ∧ x.2 < 1000000000000000) ∧ zok z ∧ (z = none → en q = -1) ∧ (∀ w, z = some w → en q = w.1 ∧ em q = lN w.2)
/-- the other parts' streams stay -/
def YF (p : Nat) (va : Nat → Int32) (mm : Nat → Int64) (cn en : Nat → Int32) (em : Nat → Int64) (va' : Nat → Int32) (mm' : Nat → Int64) (cn' en' : Nat → Int32) (em' : Nat → Int64) : Prop :=
  ∀ q, q ≠ p → ∀ L z, YA va mm cn en em q L z → YA va' mm' cn' en' em' q L z
theorem yb_idx {L : List (Int32 × Nat)} {i : Nat} {x : Int32 × Nat} (h : L[i]? = some x) : i < L.length := by
  rcases Nat.lt_or_ge i L.length with z | z
  · exact z
  · rw [List.getElem?_eq_none z] at h; exact absurd h (by simp)
theorem yb_frame {p : Nat} {va va' : Nat → Int32} {mm mm' : Nat → Int64} {cn en cn' en' : Nat → Int32} {em em' : Nat → Int64} (h1 : ∀ q, q ≠ p → cn' q = cn q ∧ en' q = en q ∧ em' q = em q) (h2 : ∀ q, q ≠ p → ∀ i, i < 256 → va' (256 * q + i) = va (256 * q + i) ∧ mm' (256 * q + i) = mm (256 * q + i)) : YF p va mm cn en em va' mm' cn' en' em' := by
  intro q hq L z h
  obtain ⟨a1, a2, a3, a4, a5, a6⟩ := h
  obtain ⟨b1, b2, b3⟩ := h1 q hq
  refine ⟨b1.trans a1, a2, fun i x hx => ?_, a4, fun hz => b2.trans (a5 hz), fun w hw => ⟨b2.trans (a6 w hw).1, b3.trans (a6 w hw).2⟩⟩
  have hi := yb_idx hx
  have hh := h2 q hq i (by omega)
  have ha := a3 i x hx
  exact ⟨hh.1.trans ha.1, hh.2.trans ha.2.1, ha.2.2⟩
theorem yb_refl {p : Nat} {va : Nat → Int32} {mm : Nat → Int64} {cn en : Nat → Int32} {em : Nat → Int64} : YF p va mm cn en em va mm cn en em := fun _ _ _ _ h => h
theorem yb_trans {p : Nat} {va va' va2 : Nat → Int32} {mm mm' mm2 : Nat → Int64} {cn en cn' en' cn2 en2 : Nat → Int32} {em em' em2 : Nat → Int64} (h1 : YF p va mm cn en em va' mm' cn' en' em') (h2 : YF p va' mm' cn' en' em' va2 mm2 cn2 en2 em2) : YF p va mm cn en em va2 mm2 cn2 en2 em2 := fun q hq L z h => h2 q hq L z (h1 q hq L z h)
theorem yb_m1 {z : Option (Int32 × Nat)} (h : zok z) {en : Int32} (h1 : z = none → en = -1) (h2 : ∀ w, z = some w → en = w.1) : (en < 0 ↔ z = none) ∧ (0 ≤ en ↔ z ≠ none) ∧ (en = 0 ↔ ∃ m, z = some (0, m)) := by
  cases z with
  | none =>
    rw [h1 rfl]
    exact ⟨⟨fun _ => rfl, fun _ => by decide⟩, ⟨fun y => absurd y (by decide), fun y => absurd rfl y⟩, ⟨fun y => absurd y (by decide), fun ⟨m, y⟩ => by simp at y⟩⟩
  | some w =>
    obtain ⟨hm, j, hj, ej⟩ := h w rfl
    rw [h2 w rfl, ej]
    refine ⟨⟨fun y => absurd y (nI_pos (by omega)), fun y => by simp at y⟩, ⟨fun _ => by simp, fun _ => nI_pos' (by omega)⟩, ?_⟩
    constructor
    · intro y
      refine ⟨w.2, ?_⟩
      have : w.1 = 0 := by rw [ej]; exact y
      rw [← this]
    · rintro ⟨m, y⟩
      have y' : w = (0, m) := by simpa using y
      rw [← ej, y']
theorem yb_if {c d A B : Prop} (e : c ↔ d) (f : d → A) (g : ¬ d → B) : (c → A) ∧ (¬ c → B) := ⟨fun h => f (e.mp h), fun h => g (fun y => h (e.mpr y))⟩
section
variable {f_stages : Int32} {f_heard : Int32} {f_now : Int32} {f_calls : Int64} {f_parts : Int32} {f_start : Int64} {f_at : Int32} {f_nextX : Int32} {f_nextY : Int32} {f_x : Int32} {f_y : Int32} {a_kind : (Nat → Int32)} {a_opA : (Nat → Int32)} {a_opB : (Nat → Int32)} {a_heardBy : (Nat → Int32)} {a_what : (Nat → Int32)} {a_said : (Nat → Int32)} {a_when : (Nat → Int64)} {a_over : (Nat → Int32)} {a_part : (Nat → Int32)} {a_first : (Nat → Int32)} {a_second : (Nat → Int32)} {a_user : (Nat → Int32)} {a_goStage : (Nat → Int32)} {a_goStep : (Nat → Int32)} {a_done : (Nat → Int32)} {a_val : (Nat → Int32)} {a_mom : (Nat → Int64)} {a_cnt : (Nat → Int32)} {a_end : (Nat → Int32)} {a_endMom : (Nat → Int64)} {a_begun : (Nat → Int32)} {a_status : (Nat → Int32)} {a_stageOf : (Nat → Int32)} {a_began : (Nat → Int64)} {a_taken : (Nat → Int32)} {a_demand : (Nat → Int64)} {a_asked : (Nat → Int32)} {a_code : (Nat → Int32)} {a_waits : (Nat → Int32)} {a_waiting : (Nat → Int32)} {a_came : (Nat → Int32)} {a_given : (Nat → Int32)} {a_got : (Nat → Int64)}
theorem yw_put {post : SY → Prop} {p t m : Nat} {v : Int32} {L : List (Int32 × Nat)} (hp : p < 9) (hat : f_at = nI p) (hnow : f_now = nI t) (ht : t ≤ 200) (hm : m < 1000000000000000) (hY : YA a_val a_mom a_cnt a_end a_endMom p L none) (hl : L.length < 255)
    (H1 : tim m ≤ t → ∀ va mm cn, YA va mm cn a_end a_endMom p (L ++ [(v, m)]) none → YF p a_val a_mom a_cnt a_end a_endMom va mm cn a_end a_endMom → post (f_stages, f_heard, f_now, f_calls, f_parts, f_start, f_at, f_nextX, f_nextY, f_x, f_y, a_kind, a_opA, a_opB, a_heardBy, a_what, a_said, a_when, a_over, a_part, a_first, a_second, a_user, a_goStage, a_goStep, a_done, va, mm, cn, a_end, a_endMom, a_begun, a_status, a_stageOf, a_began, a_taken, a_demand, a_asked, a_code, a_waits, a_waiting, a_came, a_given, a_got))
    (H2 : ¬ tim m ≤ t → post (f_stages, f_heard, f_now, f_calls, f_parts, f_start, f_at, f_nextX, f_nextY, f_x, f_y, a_kind, a_opA, a_opB, a_heardBy, a_what, a_said, a_when, a_over, a_part, a_first, a_second, a_user, a_goStage, a_goStep, a_done, a_val, a_mom, a_cnt, a_end, a_endMom, a_begun, a_status, a_stageOf, a_began, a_taken, a_demand, a_asked, a_code, a_waits, a_waiting, a_came, a_given, a_got)) : wpY_put post (f_stages, f_heard, f_now, f_calls, f_parts, f_start, f_at, f_nextX, f_nextY, f_x, f_y, a_kind, a_opA, a_opB, a_heardBy, a_what, a_said, a_when, a_over, a_part, a_first, a_second, a_user, a_goStage, a_goStep, a_done, a_val, a_mom, a_cnt, a_end, a_endMom, a_begun, a_status, a_stageOf, a_began, a_taken, a_demand, a_asked, a_code, a_waits, a_waiting, a_came, a_given, a_got) v (lN m) := by
  obtain ⟨a1, a2, a3, a4, a5, a6⟩ := hY
  have hcl : f_at.toNatClampNeg = p := by rw [hat]; exact nI_clamp (by omega)
  have hin : vp_in f_at 9 := by rw [hat]; exact vp_in_nI hp (by decide)
  have a1' : a_cnt f_at.toNatClampNeg = nI L.length := by rw [hcl]; exact a1
  have hti : tim m < 1000 := by unfold tim; omega
  have ei : 256 * f_at + a_cnt f_at.toNatClampNeg = nI (256 * p + L.length) := by
    rw [a1', hat, show (256 : Int32) = nI 256 from rfl, pk_mul, nI_add]
  have hii : vp_in (256 * f_at + a_cnt f_at.toNatClampNeg) 2304 := by rw [ei]; exact vp_in_nI (by omega) (by decide)
  have hci : (256 * f_at + a_cnt f_at.toNatClampNeg).toNatClampNeg = 256 * p + L.length := by rw [ei]; exact nI_clamp (by omega)
  have hle : ((lN m) >>> ((41 : Int32).toInt64 &&& 63)).toInt32 ≤ f_now ↔ tim m ≤ t := by rw [ts_time (by omega), hnow, nI_leI (by omega) (by omega)]
  refine yb_if hle (fun h => ⟨hin, hii, nm_r (e' := upd a_val (256 * p + L.length) v) (by rw [hci]) ⟨hin, hin, nm_r (e' := upd a_cnt p (nI (L.length + 1))) (by rw [a1', hcl, nI_1]) ⟨hii, nm_r (e' := vp_updL a_mom (256 * p + L.length) (lN m)) (by rw [hci]) ?_⟩⟩⟩) H2
  refine H1 h _ _ _ ⟨?_, by simp; omega, fun i x hx => ?_, a4, a5, a6⟩ (yb_frame (fun q hq => ⟨pk_un hq, rfl, rfl⟩) (fun q hq i hi => ⟨pk_un (by omega), pk_uLn (by omega)⟩))
  · rw [pk_us]; simp
  · have hi := yb_idx hx
    rw [List.length_append, List.length_singleton] at hi
    by_cases e : i = L.length
    · subst e
      rw [List.getElem?_concat_length] at hx
      cases hx
      exact ⟨pk_us, pk_uLs, hm⟩
    · rw [List.getElem?_append_left (by omega)] at hx
      rw [pk_un (by omega), pk_uLn (by omega)]
      exact a3 i x hx
theorem yw_stop {post : SY → Prop} {p t m j : Nat} {v : Int32} {L : List (Int32 × Nat)} (hp : p < 9) (hat : f_at = nI p) (hnow : f_now = nI t) (ht : t ≤ 200) (hm : m < 1000000000000000) (hj : j ≤ 9) (hv : v = nI j) (hY : YA a_val a_mom a_cnt a_end a_endMom p L none)
    (H1 : tim m ≤ t → ∀ en em, YA a_val a_mom a_cnt en em p L (some (v, m)) → YF p a_val a_mom a_cnt a_end a_endMom a_val a_mom a_cnt en em → post (f_stages, f_heard, f_now, f_calls, f_parts, f_start, f_at, f_nextX, f_nextY, f_x, f_y, a_kind, a_opA, a_opB, a_heardBy, a_what, a_said, a_when, a_over, a_part, a_first, a_second, a_user, a_goStage, a_goStep, a_done, a_val, a_mom, a_cnt, en, em, a_begun, a_status, a_stageOf, a_began, a_taken, a_demand, a_asked, a_code, a_waits, a_waiting, a_came, a_given, a_got))
    (H2 : ¬ tim m ≤ t → post (f_stages, f_heard, f_now, f_calls, f_parts, f_start, f_at, f_nextX, f_nextY, f_x, f_y, a_kind, a_opA, a_opB, a_heardBy, a_what, a_said, a_when, a_over, a_part, a_first, a_second, a_user, a_goStage, a_goStep, a_done, a_val, a_mom, a_cnt, a_end, a_endMom, a_begun, a_status, a_stageOf, a_began, a_taken, a_demand, a_asked, a_code, a_waits, a_waiting, a_came, a_given, a_got)) : wpY_stop post (f_stages, f_heard, f_now, f_calls, f_parts, f_start, f_at, f_nextX, f_nextY, f_x, f_y, a_kind, a_opA, a_opB, a_heardBy, a_what, a_said, a_when, a_over, a_part, a_first, a_second, a_user, a_goStage, a_goStep, a_done, a_val, a_mom, a_cnt, a_end, a_endMom, a_begun, a_status, a_stageOf, a_began, a_taken, a_demand, a_asked, a_code, a_waits, a_waiting, a_came, a_given, a_got) v (lN m) := by
  obtain ⟨a1, a2, a3, a4, a5, a6⟩ := hY
  have hcl : f_at.toNatClampNeg = p := by rw [hat]; exact nI_clamp (by omega)
  have hin : vp_in f_at 9 := by rw [hat]; exact vp_in_nI hp (by decide)
  have hti : tim m < 1000 := by unfold tim; omega
  have hle : ((lN m) >>> ((41 : Int32).toInt64 &&& 63)).toInt32 ≤ f_now ↔ tim m ≤ t := by rw [ts_time (by omega), hnow, nI_leI (by omega) (by omega)]
  refine yb_if hle (fun h => ⟨hin, nm_r (e' := upd a_end p v) (by rw [hcl]) ⟨hin, nm_r (e' := vp_updL a_endMom p (lN m)) (by rw [hcl]) ?_⟩⟩) H2
  refine H1 h _ _ ⟨a1, a2, a3, fun w hw => ?_, fun y => by simp at y, fun w hw => ?_⟩ (yb_frame (fun q hq => ⟨rfl, pk_un hq, pk_uLn hq⟩) (fun q hq i hi => ⟨rfl, rfl⟩))
  · cases hw; exact ⟨hm, j, hj, hv⟩
  · cases hw; exact ⟨pk_us, pk_uLs⟩
theorem yw_of {post : Int64 → Prop} {q i : Nat} {L : List (Int32 × Nat)} {z : Option (Int32 × Nat)} {x : Int32 × Nat} (hq : q < 9) (hY : YA a_val a_mom a_cnt a_end a_endMom q L z) (hx : L[i]? = some x) (H : post (lN x.2)) : wpY_of post (f_stages, f_heard, f_now, f_calls, f_parts, f_start, f_at, f_nextX, f_nextY, f_x, f_y, a_kind, a_opA, a_opB, a_heardBy, a_what, a_said, a_when, a_over, a_part, a_first, a_second, a_user, a_goStage, a_goStep, a_done, a_val, a_mom, a_cnt, a_end, a_endMom, a_begun, a_status, a_stageOf, a_began, a_taken, a_demand, a_asked, a_code, a_waits, a_waiting, a_came, a_given, a_got) (nI q) (nI i) := by
  have hi := yb_idx hx
  have ha := hY.2.2.1 i x hx
  have hl := hY.2.1
  have e : 256 * nI q + nI i = nI (256 * q + i) := by rw [show (256 : Int32) = nI 256 from rfl, pk_mul, nI_add]
  have hc : (256 * nI q + nI i).toNatClampNeg = 256 * q + i := by rw [e]; exact nI_clamp (by omega)
  refine ⟨by rw [e]; exact vp_in_nI (by omega) (by decide), ?_⟩
  rw [hc, ha.2.1]
  exact H
theorem yw_word {post : Int32 → Prop} {q i : Nat} {L : List (Int32 × Nat)} {z : Option (Int32 × Nat)} {x : Int32 × Nat} (hq : q < 9) (hY : YA a_val a_mom a_cnt a_end a_endMom q L z) (hx : L[i]? = some x) (H : post x.1) : wpY_word post (f_stages, f_heard, f_now, f_calls, f_parts, f_start, f_at, f_nextX, f_nextY, f_x, f_y, a_kind, a_opA, a_opB, a_heardBy, a_what, a_said, a_when, a_over, a_part, a_first, a_second, a_user, a_goStage, a_goStep, a_done, a_val, a_mom, a_cnt, a_end, a_endMom, a_begun, a_status, a_stageOf, a_began, a_taken, a_demand, a_asked, a_code, a_waits, a_waiting, a_came, a_given, a_got) (nI q) (nI i) := by
  have hi := yb_idx hx
  have ha := hY.2.2.1 i x hx
  have hl := hY.2.1
  have e : 256 * nI q + nI i = nI (256 * q + i) := by rw [show (256 : Int32) = nI 256 from rfl, pk_mul, nI_add]
  have hc : (256 * nI q + nI i).toNatClampNeg = 256 * q + i := by rw [e]; exact nI_clamp (by omega)
  refine ⟨by rw [e]; exact vp_in_nI (by omega) (by decide), ?_⟩
  rw [hc, ha.1]
  exact H
theorem yw_later {post : Int64 → Prop} {p m b : Nat} (hp : p < 9) (hat : f_at = nI p) (hm : m < 1000000000000000) (hb : b ≤ 1000) (H : post (lN (tm (tim m + b) p))) : wpY_later post (f_stages, f_heard, f_now, f_calls, f_parts, f_start, f_at, f_nextX, f_nextY, f_x, f_y, a_kind, a_opA, a_opB, a_heardBy, a_what, a_said, a_when, a_over, a_part, a_first, a_second, a_user, a_goStage, a_goStep, a_done, a_val, a_mom, a_cnt, a_end, a_endMom, a_begun, a_status, a_stageOf, a_began, a_taken, a_demand, a_asked, a_code, a_waits, a_waiting, a_came, a_given, a_got) (lN m) (nI b) := by
  have hti : tim m < 1000 := by unfold tim; omega
  show post (((((((((lN m) >>> ((41 : Int32).toInt64 &&& 63)).toInt32 + nI b).toInt64) <<< ((41 : Int32).toInt64 &&& 63)) ||| (0 <<< ((40 : Int32).toInt64 &&& 63))) ||| (f_at.toInt64 <<< ((8 : Int32).toInt64 &&& 63))) ||| 0))
  rw [ts_time (by omega), nI_add, nI_l (by omega), hat, nI_l (by omega)]
  have := ts_mo (t := tim m + b) (ph := 0) (nu := p) (by omega) (by decide) (by omega)
  rw [show lN 0 = (0 : Int64) from by decide] at this
  rw [this, ← tm_mo]
  exact H
end
end
section
/-! ===== the reference: one ===== -/
theorem yo_snoc (Lo : List (Int32 × Nat)) (v : Int32) (m : Nat) : evs (Lo ++ [(v, m)]) none = evs Lo none ++ [(1, v, m)] := by simp [evs]
theorem yo_end (Lo : List (Int32 × Nat)) (v : Int32) (m : Nat) : evs Lo (some (v, m)) = evs Lo none ++ [(if v = 0 then 2 else 3, v, m)] := by simp [evs]
theorem yo_fin (Lo : List (Int32 × Nat)) : fin (evs Lo none) = false := by simp [evs, fin]
theorem yo_item {k : Nat} {a b : Int32} {S : PSt} {Lo : List (Int32 × Nat)} {v : Int32} {m : Nat} : stp k a b (S, evs Lo none) (0, 1, v, m) = ((hi k b (tim m) true v S).1, evs Lo none ++ ems m (hi k b (tim m) true v S).2) := by
  rw [rn_stp_go (yo_fin Lo)]
  rfl
theorem yo_tgc (x : Int32 × Nat) (r : List (Int32 × Nat)) (z : Option (Int32 × Nat)) : tg 0 (evs (x :: r) z) = (0, 1, x.1, x.2) :: tg 0 (evs r z) := by simp [evs, tg]
section
variable {f_stages : Int32} {f_heard : Int32} {f_now : Int32} {f_calls : Int64} {f_parts : Int32} {f_start : Int64} {f_at : Int32} {f_nextX : Int32} {f_nextY : Int32} {f_x : Int32} {f_y : Int32} {a_kind : (Nat → Int32)} {a_opA : (Nat → Int32)} {a_opB : (Nat → Int32)} {a_heardBy : (Nat → Int32)} {a_what : (Nat → Int32)} {a_said : (Nat → Int32)} {a_when : (Nat → Int64)} {a_over : (Nat → Int32)} {a_part : (Nat → Int32)} {a_first : (Nat → Int32)} {a_second : (Nat → Int32)} {a_user : (Nat → Int32)} {a_goStage : (Nat → Int32)} {a_goStep : (Nat → Int32)} {a_done : (Nat → Int32)} {a_val : (Nat → Int32)} {a_mom : (Nat → Int64)} {a_cnt : (Nat → Int32)} {a_end : (Nat → Int32)} {a_endMom : (Nat → Int64)} {a_begun : (Nat → Int32)} {a_status : (Nat → Int32)} {a_stageOf : (Nat → Int32)} {a_began : (Nat → Int64)} {a_taken : (Nat → Int32)} {a_demand : (Nat → Int64)} {a_asked : (Nat → Int32)} {a_code : (Nat → Int32)} {a_waits : (Nat → Int32)} {a_waiting : (Nat → Int32)} {a_came : (Nat → Int32)} {a_given : (Nat → Int32)} {a_got : (Nat → Int64)}
/-- behind the items: the end goes on -/
theorem yo_fin1 {post : SY → Prop} {p xq t k : Nat} {a b : Int32} {L Lo : List (Int32 × Nat)} {z : Option (Int32 × Nat)} {S : PSt} {va : Nat → Int32} {mm : Nat → Int64} {cn : Nat → Int32} (hp : p < 9) (hxq : xq < 9) (hat : f_at = nI p) (hfx : f_x = nI xq) (hnow : f_now = nI t) (ht : t ≤ 200) (hx : YA va mm cn a_end a_endMom xq L z) (hz : ∀ w, z = some w → tim w.2 ≤ t) (hY : YA va mm cn a_end a_endMom p Lo none) (hF : YF p a_val a_mom a_cnt a_end a_endMom va mm cn a_end a_endMom)
    (hm : ∀ v m, z = some (v, m) → (stp k a b (S, evs Lo none) (0, (if v = 0 then 2 else 3), v, m)).2 = evs Lo none ++ [(if v = 0 then 2 else 3, v, m)])
    (K : ∀ en em z', YA va mm cn en em p Lo z' → evs Lo z' = ((tg 0 (evs [] z)).foldl (stp k a b) (S, evs Lo none)).2 → YF p a_val a_mom a_cnt a_end a_endMom va mm cn en em → post (f_stages, f_heard, f_now, f_calls, f_parts, f_start, f_at, f_nextX, f_nextY, f_x, f_y, a_kind, a_opA, a_opB, a_heardBy, a_what, a_said, a_when, a_over, a_part, a_first, a_second, a_user, a_goStage, a_goStep, a_done, va, mm, cn, en, em, a_begun, a_status, a_stageOf, a_began, a_taken, a_demand, a_asked, a_code, a_waits, a_waiting, a_came, a_given, a_got)) :
    wY_one_351 post f_stages f_heard f_now f_calls f_parts f_start f_at f_nextX f_nextY f_x f_y a_kind a_opA a_opB a_heardBy a_what a_said a_when a_over a_part a_first a_second a_user a_goStage a_goStep a_done (va) (mm) (cn) a_end a_endMom a_begun a_status a_stageOf a_began a_taken a_demand a_asked a_code a_waits a_waiting a_came a_given a_got := by
  have hcl : f_x.toNatClampNeg = xq := by rw [hfx]; exact nI_clamp (by omega)
  have hin : vp_in f_x 9 := by rw [hfx]; exact vp_in_nI hxq (by decide)
  obtain ⟨b1, b2, b3⟩ := yb_m1 hx.2.2.2.1 hx.2.2.2.2.1 (fun w hw => (hx.2.2.2.2.2 w hw).1)
  refine ⟨hin, ?_⟩
  cases z with
  | none =>
    refine br_t (by rw [hcl]; exact b1.mpr rfl) ?_
    exact K a_end a_endMom none hY rfl hF
  | some w =>
    obtain ⟨v, m⟩ := w
    obtain ⟨hm1, j, hj, ej⟩ := hx.2.2.2.1 (v, m) rfl
    have he := hx.2.2.2.2.2 (v, m) rfl
    refine br_f (by rw [hcl]; exact fun y => by have := b1.mp y; simp at this) ⟨hin, hin, ?_⟩
    rw [show a_end f_x.toNatClampNeg = v from by rw [hcl]; exact he.1, show a_endMom f_x.toNatClampNeg = lN m from by rw [hcl]; exact he.2]
    refine yw_stop hp hat hnow ht hm1 hj ej hY (fun _ en em h1 h2 => K en em (some (v, m)) h1 ?_ (yb_trans hF h2)) (fun y => absurd (hz _ rfl) y)
    show evs Lo (some (v, m)) = (stp k a b (S, evs Lo none) (0, (if v = 0 then 2 else 3), v, m)).2
    rw [hm v m rfl, yo_end]
/-- the head of an iteration -/
theorem yo_head {post : SY → Prop} {xq i n : Nat} {k : Int32} {b sum nn : Int32} {last : Int64} {L : List (Int32 × Nat)} {z : Option (Int32 × Nat)} {x : Int32 × Nat} {va : Nat → Int32} {mm : Nat → Int64} {cn : Nat → Int32} (hxq : xq < 9) (hfx : f_x = nI xq) (hx : YA va mm cn a_end a_endMom xq L z) (hi : L[i]? = some x)
    (H : ∀ sm : Bool, (sm = true ↔ ∃ y, 0 < i ∧ L[i - 1]? = some y ∧ y.1 = x.1) → wY_one_78 post (wY_one_13 post k b n) k b sum nn last (nI i) x.1 (lN x.2) (bI sm) f_stages f_heard f_now f_calls f_parts f_start f_at f_nextX f_nextY f_x f_y a_kind a_opA a_opB a_heardBy a_what a_said a_when a_over a_part a_first a_second a_user a_goStage a_goStep a_done (va) (mm) (cn) a_end a_endMom a_begun a_status a_stageOf a_began a_taken a_demand a_asked a_code a_waits a_waiting a_came a_given a_got) :
    wY_one_13 post k b (n + 1) sum nn last (nI i) f_stages f_heard f_now f_calls f_parts f_start f_at f_nextX f_nextY f_x f_y a_kind a_opA a_opB a_heardBy a_what a_said a_when a_over a_part a_first a_second a_user a_goStage a_goStep a_done (va) (mm) (cn) a_end a_endMom a_begun a_status a_stageOf a_began a_taken a_demand a_asked a_code a_waits a_waiting a_came a_given a_got := by
  have hil := yb_idx hi
  have hl := hx.2.1
  have hcl : f_x.toNatClampNeg = xq := by rw [hfx]; exact nI_clamp (by omega)
  have hin : vp_in f_x 9 := by rw [hfx]; exact vp_in_nI hxq (by decide)
  refine ⟨hin, br_f (by rw [hcl, hx.1]; exact nI_ge hil (by omega)) ?_⟩
  rw [hfx]
  refine yw_word (f_x := nI xq) hxq hx hi (yw_of (f_x := nI xq) hxq hx hi ?_)
  rw [← hfx]
  by_cases h0 : i = 0
  · subst h0
    exact br_t (by decide) (H false ⟨fun y => absurd y (by decide), fun ⟨y, hy, _⟩ => by omega⟩)
  · refine br_f (nI_nle (by omega) (by omega)) ?_
    obtain ⟨y, hy⟩ : ∃ y, L[i - 1]? = some y := ⟨L[i - 1]'(by omega), List.getElem?_eq_getElem (by omega)⟩
    rw [hfx, show nI i - 1 = nI (i - 1) from by rw [show (1 : Int32) = nI 1 from rfl, pk_sub (by omega)]]
    refine yw_word (f_x := nI xq) hxq hx hy ?_
    rw [← hfx]
    by_cases hyx : y.1 = x.1
    · exact br_t hyx (H true ⟨fun _ => ⟨y, by omega, hy, hyx⟩, fun _ => rfl⟩)
    · exact br_f hyx (H false ⟨fun q => absurd q (by decide), fun ⟨y', _, hy', he⟩ => by rw [hy] at hy'; cases hy'; exact absurd he hyx⟩)
theorem yo_loop3 {post : SY → Prop} {p xq t : Nat} {a b : Int32} {L : List (Int32 × Nat)} {z : Option (Int32 × Nat)} {RES : List Ev} {d : Nat} {hy : Int32} {fy qx ox oy : Bool} {q : List (Int32 × Nat)} (hp : p < 9) (hxq : xq < 9) (hpx : xq ≠ p) (hat : f_at = nI p) (hfx : f_x = nI xq) (hnow : f_now = nI t) (ht : t ≤ 200) (hL : ∀ x ∈ L, tim x.2 ≤ t) (hz : ∀ w, z = some w → tim w.2 ≤ t) (hL250 : L.length ≤ 250) {c : Nat} {h : Int32} {f : Bool}
    (K : ∀ va mm cn en em L' z', YA va mm cn en em p L' z' → evs L' z' = RES → YF p a_val a_mom a_cnt a_end a_endMom va mm cn en em → L'.length ≤ L.length + 1 → post (f_stages, f_heard, f_now, f_calls, f_parts, f_start, f_at, f_nextX, f_nextY, f_x, f_y, a_kind, a_opA, a_opB, a_heardBy, a_what, a_said, a_when, a_over, a_part, a_first, a_second, a_user, a_goStage, a_goStep, a_done, va, mm, cn, en, em, a_begun, a_status, a_stageOf, a_began, a_taken, a_demand, a_asked, a_code, a_waits, a_waiting, a_came, a_given, a_got)) :
    ∀ (r : List (Int32 × Nat)) (i : Nat) (sum : Int32) (nn : Int32) (last : Int64) (Lo : List (Int32 × Nat)) (va : Nat → Int32) (mm : Nat → Int64) (cn : Nat → Int32), L.drop i = r → i ≤ L.length → Lo.length ≤ i → YA va mm cn a_end a_endMom p Lo none → YA va mm cn a_end a_endMom xq L z → YF p a_val a_mom a_cnt a_end a_endMom va mm cn a_end a_endMom → RES = ((tg 0 (evs r z)).foldl (stp 3 a b) ((d, c, h, hy, f, fy, qx, q, ox, oy), evs Lo none)).2 → wY_one_13 post (nI 3) b (r.length + 1) sum nn last (nI i) f_stages f_heard f_now f_calls f_parts f_start f_at f_nextX f_nextY f_x f_y a_kind a_opA a_opB a_heardBy a_what a_said a_when a_over a_part a_first a_second a_user a_goStage a_goStep a_done (va) (mm) (cn) a_end a_endMom a_begun a_status a_stageOf a_began a_taken a_demand a_asked a_code a_waits a_waiting a_came a_given a_got := by
  have hcl : f_x.toNatClampNeg = xq := by rw [hfx]; exact nI_clamp (by omega)
  have hin : vp_in f_x 9 := by rw [hfx]; exact vp_in_nI hxq (by decide)
  intro r
  induction r with
  | nil =>
    intro i sum nn last Lo va mm cn hr hiL hLo hY hx hF hT 
    have hiL2 : L.length ≤ i := List.drop_eq_nil_iff.mp hr
    obtain ⟨b1, b2, b3⟩ := yb_m1 hx.2.2.2.1 hx.2.2.2.2.1 (fun w hw => (hx.2.2.2.2.2 w hw).1)
    refine ⟨hin, br_t (by rw [hcl, hx.1]; exact nI_le hiL2 (by omega)) ⟨hin, ?_⟩⟩
    have goon : wY_one_318 post (nI 3) nn f_stages f_heard f_now f_calls f_parts f_start f_at f_nextX f_nextY f_x f_y a_kind a_opA a_opB a_heardBy a_what a_said a_when a_over a_part a_first a_second a_user a_goStage a_goStep a_done (va) (mm) (cn) a_end a_endMom a_begun a_status a_stageOf a_began a_taken a_demand a_asked a_code a_waits a_waiting a_came a_given a_got := by
      have h351 : wY_one_351 post f_stages f_heard f_now f_calls f_parts f_start f_at f_nextX f_nextY f_x f_y a_kind a_opA a_opB a_heardBy a_what a_said a_when a_over a_part a_first a_second a_user a_goStage a_goStep a_done (va) (mm) (cn) a_end a_endMom a_begun a_status a_stageOf a_began a_taken a_demand a_asked a_code a_waits a_waiting a_came a_given a_got := yo_fin1 (k := 3) (a := a) (b := b) (S := (d, c, h, hy, f, fy, qx, q, ox, oy)) hp hxq hat hfx hnow ht hx hz hY hF (fun v m hv => ?_) (fun en em z' h1 h2 h3 => K va mm cn en em Lo z' h1 (h2.trans hT.symm) h3 (by omega))
      · refine ⟨hin, ?_⟩
        by_cases he : a_end f_x.toNatClampNeg = 0
        · exact br_t he (br_f (by decide) h351)
        · exact br_f he h351
      · rw [rn_stp_go (yo_fin Lo)]
        by_cases hv0 : v = 0
        · subst hv0; rfl
        · rw [if_neg hv0]; rfl
    by_cases he : a_end f_x.toNatClampNeg = 0
    · exact br_t he (br_f (by decide) goon)
    · exact br_f he goon
  | cons x r ih =>
    intro i sum nn last Lo va mm cn hr hiL hLo hY hx hF hT 
    have hxi : L[i]? = some x := by rw [← List.head?_drop, hr]; rfl
    have hil := yb_idx hxi
    have hr' : L.drop (i + 1) = r := by rw [← List.drop_drop, hr]; rfl
    have hxt := hL x (List.mem_of_getElem? hxi)
    have hxm := (hx.2.2.1 i x hxi).2.2
    refine yo_head hxq hfx hx hxi (fun sm hsm => ?_)
    rw [yo_tgc, List.foldl_cons, yo_item] at hT
    refine br_t rfl ?_
    refine yw_put hp hat hnow ht hxm hY (by omega) (fun _ va2 mm2 cn2 g1 g2 => ?_) (fun y => absurd hxt y)
    refine br_f (by decide) ?_
    refine nm_e (nm_e (br_f (by decide) ?_))
    refine br_f (by decide) ?_
    refine br_f (by decide) ?_
    refine br_f (by decide) ?_
    refine br_f (by decide) ?_
    refine br_f (by decide) ?_
    refine br_f (by decide) (nm_r (nI_1 i) ?_)
    refine ih (i + 1) (sum + x.1) (nn + 1) last (Lo ++ [(x.1 + b, x.2)]) va2 mm2 cn2 hr' (by omega) (by simp; omega) g1 (g2 xq hpx _ _ hx) (yb_trans hF g2) ?_ 
    rw [yo_snoc]; exact hT
theorem yo_loop4 {post : SY → Prop} {p xq t : Nat} {a b : Int32} {L : List (Int32 × Nat)} {z : Option (Int32 × Nat)} {RES : List Ev} {d : Nat} {hy : Int32} {fy qx ox oy : Bool} {q : List (Int32 × Nat)} (hp : p < 9) (hxq : xq < 9) (hpx : xq ≠ p) (hat : f_at = nI p) (hfx : f_x = nI xq) (hnow : f_now = nI t) (ht : t ≤ 200) (hL : ∀ x ∈ L, tim x.2 ≤ t) (hz : ∀ w, z = some w → tim w.2 ≤ t) (hL250 : L.length ≤ 250) {c : Nat} {h : Int32} {f : Bool}
    (K : ∀ va mm cn en em L' z', YA va mm cn en em p L' z' → evs L' z' = RES → YF p a_val a_mom a_cnt a_end a_endMom va mm cn en em → L'.length ≤ L.length + 1 → post (f_stages, f_heard, f_now, f_calls, f_parts, f_start, f_at, f_nextX, f_nextY, f_x, f_y, a_kind, a_opA, a_opB, a_heardBy, a_what, a_said, a_when, a_over, a_part, a_first, a_second, a_user, a_goStage, a_goStep, a_done, va, mm, cn, en, em, a_begun, a_status, a_stageOf, a_began, a_taken, a_demand, a_asked, a_code, a_waits, a_waiting, a_came, a_given, a_got)) :
    ∀ (r : List (Int32 × Nat)) (i : Nat) (sum : Int32) (nn : Int32) (last : Int64) (Lo : List (Int32 × Nat)) (va : Nat → Int32) (mm : Nat → Int64) (cn : Nat → Int32), L.drop i = r → i ≤ L.length → Lo.length ≤ i → YA va mm cn a_end a_endMom p Lo none → YA va mm cn a_end a_endMom xq L z → YF p a_val a_mom a_cnt a_end a_endMom va mm cn a_end a_endMom → RES = ((tg 0 (evs r z)).foldl (stp 4 a b) ((d, c, h, hy, f, fy, qx, q, ox, oy), evs Lo none)).2 → wY_one_13 post (nI 4) b (r.length + 1) sum nn last (nI i) f_stages f_heard f_now f_calls f_parts f_start f_at f_nextX f_nextY f_x f_y a_kind a_opA a_opB a_heardBy a_what a_said a_when a_over a_part a_first a_second a_user a_goStage a_goStep a_done (va) (mm) (cn) a_end a_endMom a_begun a_status a_stageOf a_began a_taken a_demand a_asked a_code a_waits a_waiting a_came a_given a_got := by
  have hcl : f_x.toNatClampNeg = xq := by rw [hfx]; exact nI_clamp (by omega)
  have hin : vp_in f_x 9 := by rw [hfx]; exact vp_in_nI hxq (by decide)
  intro r
  induction r with
  | nil =>
    intro i sum nn last Lo va mm cn hr hiL hLo hY hx hF hT 
    have hiL2 : L.length ≤ i := List.drop_eq_nil_iff.mp hr
    obtain ⟨b1, b2, b3⟩ := yb_m1 hx.2.2.2.1 hx.2.2.2.2.1 (fun w hw => (hx.2.2.2.2.2 w hw).1)
    refine ⟨hin, br_t (by rw [hcl, hx.1]; exact nI_le hiL2 (by omega)) ⟨hin, ?_⟩⟩
    have goon : wY_one_318 post (nI 4) nn f_stages f_heard f_now f_calls f_parts f_start f_at f_nextX f_nextY f_x f_y a_kind a_opA a_opB a_heardBy a_what a_said a_when a_over a_part a_first a_second a_user a_goStage a_goStep a_done (va) (mm) (cn) a_end a_endMom a_begun a_status a_stageOf a_began a_taken a_demand a_asked a_code a_waits a_waiting a_came a_given a_got := by
      have h351 : wY_one_351 post f_stages f_heard f_now f_calls f_parts f_start f_at f_nextX f_nextY f_x f_y a_kind a_opA a_opB a_heardBy a_what a_said a_when a_over a_part a_first a_second a_user a_goStage a_goStep a_done (va) (mm) (cn) a_end a_endMom a_begun a_status a_stageOf a_began a_taken a_demand a_asked a_code a_waits a_waiting a_came a_given a_got := yo_fin1 (k := 4) (a := a) (b := b) (S := (d, c, h, hy, f, fy, qx, q, ox, oy)) hp hxq hat hfx hnow ht hx hz hY hF (fun v m hv => ?_) (fun en em z' h1 h2 h3 => K va mm cn en em Lo z' h1 (h2.trans hT.symm) h3 (by omega))
      · refine ⟨hin, ?_⟩
        by_cases he : a_end f_x.toNatClampNeg = 0
        · exact br_t he (br_f (by decide) h351)
        · exact br_f he h351
      · rw [rn_stp_go (yo_fin Lo)]
        by_cases hv0 : v = 0
        · subst hv0; rfl
        · rw [if_neg hv0]; rfl
    by_cases he : a_end f_x.toNatClampNeg = 0
    · exact br_t he (br_f (by decide) goon)
    · exact br_f he goon
  | cons x r ih =>
    intro i sum nn last Lo va mm cn hr hiL hLo hY hx hF hT 
    have hxi : L[i]? = some x := by rw [← List.head?_drop, hr]; rfl
    have hil := yb_idx hxi
    have hr' : L.drop (i + 1) = r := by rw [← List.drop_drop, hr]; rfl
    have hxt := hL x (List.mem_of_getElem? hxi)
    have hxm := (hx.2.2.1 i x hxi).2.2
    refine yo_head hxq hfx hx hxi (fun sm hsm => ?_)
    rw [yo_tgc, List.foldl_cons, yo_item] at hT
    refine br_f (by decide) ?_
    by_cases hv : x.1 ≤ b
    · refine br_t rfl (br_t hv ?_)
      refine nm_e (nm_e (br_f (by decide) ?_))
      refine br_f (by decide) ?_
      refine br_f (by decide) ?_
      refine br_f (by decide) ?_
      refine br_f (by decide) ?_
      refine br_f (by decide) ?_
      refine br_f (by decide) (nm_r (nI_1 i) ?_)
      refine ih (i + 1) (sum + x.1) (nn + 1) last Lo va mm cn hr' (by omega) (by omega) hY hx hF ?_ 
      have e : hi 4 b (tim x.2) true x.1 (d, c, h, hy, f, fy, qx, q, ox, oy) = ((d, c, h, hy, f, fy, qx, q, ox, oy), []) := by simp [hi, hv]
      rw [e] at hT
      simpa [ems] using hT
    · refine br_t rfl (br_f hv ?_)
      refine yw_put hp hat hnow ht hxm hY (by omega) (fun _ va2 mm2 cn2 g1 g2 => ?_) (fun y => absurd hxt y)
      refine nm_e (nm_e (br_f (by decide) ?_))
      refine br_f (by decide) ?_
      refine br_f (by decide) ?_
      refine br_f (by decide) ?_
      refine br_f (by decide) ?_
      refine br_f (by decide) ?_
      refine br_f (by decide) (nm_r (nI_1 i) ?_)
      refine ih (i + 1) (sum + x.1) (nn + 1) last (Lo ++ [(x.1, x.2)]) va2 mm2 cn2 hr' (by omega) (by simp; omega) g1 (g2 xq hpx _ _ hx) (yb_trans hF g2) ?_ 
      have e : hi 4 b (tim x.2) true x.1 (d, c, h, hy, f, fy, qx, q, ox, oy) = ((d, c, h, hy, f, fy, qx, q, ox, oy), [(1, x.1)]) := by simp [hi, hv]
      rw [e] at hT
      rw [yo_snoc]; exact hT
theorem yo_loop5 {post : SY → Prop} {p xq t : Nat} {a b : Int32} {L : List (Int32 × Nat)} {z : Option (Int32 × Nat)} {RES : List Ev} {d : Nat} {hy : Int32} {fy qx ox oy : Bool} {q : List (Int32 × Nat)} (hp : p < 9) (hxq : xq < 9) (hpx : xq ≠ p) (hat : f_at = nI p) (hfx : f_x = nI xq) (hnow : f_now = nI t) (ht : t ≤ 200) (hL : ∀ x ∈ L, tim x.2 ≤ t) (hz : ∀ w, z = some w → tim w.2 ≤ t) (hL250 : L.length ≤ 250) {c : Nat} {f : Bool}
    (K : ∀ va mm cn en em L' z', YA va mm cn en em p L' z' → evs L' z' = RES → YF p a_val a_mom a_cnt a_end a_endMom va mm cn en em → L'.length ≤ L.length + 1 → post (f_stages, f_heard, f_now, f_calls, f_parts, f_start, f_at, f_nextX, f_nextY, f_x, f_y, a_kind, a_opA, a_opB, a_heardBy, a_what, a_said, a_when, a_over, a_part, a_first, a_second, a_user, a_goStage, a_goStep, a_done, va, mm, cn, en, em, a_begun, a_status, a_stageOf, a_began, a_taken, a_demand, a_asked, a_code, a_waits, a_waiting, a_came, a_given, a_got)) :
    ∀ (r : List (Int32 × Nat)) (i : Nat) (h : Int32) (sum : Int32) (nn : Int32) (last : Int64) (Lo : List (Int32 × Nat)) (va : Nat → Int32) (mm : Nat → Int64) (cn : Nat → Int32), L.drop i = r → i ≤ L.length → Lo.length ≤ i → YA va mm cn a_end a_endMom p Lo none → YA va mm cn a_end a_endMom xq L z → YF p a_val a_mom a_cnt a_end a_endMom va mm cn a_end a_endMom → RES = ((tg 0 (evs r z)).foldl (stp 5 a b) ((d, c, h, hy, f, fy, qx, q, ox, oy), evs Lo none)).2 → h = b + sum → wY_one_13 post (nI 5) b (r.length + 1) sum nn last (nI i) f_stages f_heard f_now f_calls f_parts f_start f_at f_nextX f_nextY f_x f_y a_kind a_opA a_opB a_heardBy a_what a_said a_when a_over a_part a_first a_second a_user a_goStage a_goStep a_done (va) (mm) (cn) a_end a_endMom a_begun a_status a_stageOf a_began a_taken a_demand a_asked a_code a_waits a_waiting a_came a_given a_got := by
  have hcl : f_x.toNatClampNeg = xq := by rw [hfx]; exact nI_clamp (by omega)
  have hin : vp_in f_x 9 := by rw [hfx]; exact vp_in_nI hxq (by decide)
  intro r
  induction r with
  | nil =>
    intro i h sum nn last Lo va mm cn hr hiL hLo hY hx hF hT hv1
    have hiL2 : L.length ≤ i := List.drop_eq_nil_iff.mp hr
    obtain ⟨b1, b2, b3⟩ := yb_m1 hx.2.2.2.1 hx.2.2.2.2.1 (fun w hw => (hx.2.2.2.2.2 w hw).1)
    refine ⟨hin, br_t (by rw [hcl, hx.1]; exact nI_le hiL2 (by omega)) ⟨hin, ?_⟩⟩
    have goon : wY_one_318 post (nI 5) nn f_stages f_heard f_now f_calls f_parts f_start f_at f_nextX f_nextY f_x f_y a_kind a_opA a_opB a_heardBy a_what a_said a_when a_over a_part a_first a_second a_user a_goStage a_goStep a_done (va) (mm) (cn) a_end a_endMom a_begun a_status a_stageOf a_began a_taken a_demand a_asked a_code a_waits a_waiting a_came a_given a_got := by
      have h351 : wY_one_351 post f_stages f_heard f_now f_calls f_parts f_start f_at f_nextX f_nextY f_x f_y a_kind a_opA a_opB a_heardBy a_what a_said a_when a_over a_part a_first a_second a_user a_goStage a_goStep a_done (va) (mm) (cn) a_end a_endMom a_begun a_status a_stageOf a_began a_taken a_demand a_asked a_code a_waits a_waiting a_came a_given a_got := yo_fin1 (k := 5) (a := a) (b := b) (S := (d, c, h, hy, f, fy, qx, q, ox, oy)) hp hxq hat hfx hnow ht hx hz hY hF (fun v m hv => ?_) (fun en em z' h1 h2 h3 => K va mm cn en em Lo z' h1 (h2.trans hT.symm) h3 (by omega))
      · refine ⟨hin, ?_⟩
        by_cases he : a_end f_x.toNatClampNeg = 0
        · exact br_t he (br_f (by decide) h351)
        · exact br_f he h351
      · rw [rn_stp_go (yo_fin Lo)]
        by_cases hv0 : v = 0
        · subst hv0; rfl
        · rw [if_neg hv0]; rfl
    by_cases he : a_end f_x.toNatClampNeg = 0
    · exact br_t he (br_f (by decide) goon)
    · exact br_f he goon
  | cons x r ih =>
    intro i h sum nn last Lo va mm cn hr hiL hLo hY hx hF hT hv1
    have hxi : L[i]? = some x := by rw [← List.head?_drop, hr]; rfl
    have hil := yb_idx hxi
    have hr' : L.drop (i + 1) = r := by rw [← List.drop_drop, hr]; rfl
    have hxt := hL x (List.mem_of_getElem? hxi)
    have hxm := (hx.2.2.1 i x hxi).2.2
    refine yo_head hxq hfx hx hxi (fun sm hsm => ?_)
    rw [yo_tgc, List.foldl_cons, yo_item] at hT
    refine br_f (by decide) ?_
    refine br_f (by decide) ?_
    refine nm_e (nm_e (br_t rfl ?_))
    refine yw_put hp hat hnow ht hxm hY (by omega) (fun _ va2 mm2 cn2 g1 g2 => ?_) (fun y => absurd hxt y)
    refine br_f (by decide) ?_
    refine br_f (by decide) ?_
    refine br_f (by decide) ?_
    refine br_f (by decide) ?_
    refine br_f (by decide) ?_
    refine br_f (by decide) (nm_r (nI_1 i) ?_)
    refine ih (i + 1) (h + x.1) (sum + x.1) (nn + 1) last (Lo ++ [(b + (sum + x.1), x.2)]) va2 mm2 cn2 hr' (by omega) (by simp; omega) g1 (g2 xq hpx _ _ hx) (yb_trans hF g2) ?_ ?_
    · rw [yo_snoc, ← Int32.add_assoc, ← hv1]; exact hT
    · rw [hv1, Int32.add_assoc]
theorem yo_loop6 {post : SY → Prop} {p xq t : Nat} {a b : Int32} {L : List (Int32 × Nat)} {z : Option (Int32 × Nat)} {RES : List Ev} {d : Nat} {hy : Int32} {fy qx ox oy : Bool} {q : List (Int32 × Nat)} (hp : p < 9) (hxq : xq < 9) (hpx : xq ≠ p) (hat : f_at = nI p) (hfx : f_x = nI xq) (hnow : f_now = nI t) (ht : t ≤ 200) (hL : ∀ x ∈ L, tim x.2 ≤ t) (hz : ∀ w, z = some w → tim w.2 ≤ t) (hL250 : L.length ≤ 250) {h : Int32} {f : Bool} (hb : 1 ≤ cl b ∧ cl b ≤ 8 ∧ b = nI (cl b))
    (K : ∀ va mm cn en em L' z', YA va mm cn en em p L' z' → evs L' z' = RES → YF p a_val a_mom a_cnt a_end a_endMom va mm cn en em → L'.length ≤ L.length + 1 → post (f_stages, f_heard, f_now, f_calls, f_parts, f_start, f_at, f_nextX, f_nextY, f_x, f_y, a_kind, a_opA, a_opB, a_heardBy, a_what, a_said, a_when, a_over, a_part, a_first, a_second, a_user, a_goStage, a_goStep, a_done, va, mm, cn, en, em, a_begun, a_status, a_stageOf, a_began, a_taken, a_demand, a_asked, a_code, a_waits, a_waiting, a_came, a_given, a_got)) :
    ∀ (r : List (Int32 × Nat)) (i : Nat) (c : Nat) (sum : Int32) (last : Int64) (Lo : List (Int32 × Nat)) (va : Nat → Int32) (mm : Nat → Int64) (cn : Nat → Int32), L.drop i = r → i ≤ L.length → Lo.length ≤ i → YA va mm cn a_end a_endMom p Lo none → YA va mm cn a_end a_endMom xq L z → YF p a_val a_mom a_cnt a_end a_endMom va mm cn a_end a_endMom → RES = ((tg 0 (evs r z)).foldl (stp 6 a b) ((d, c, h, hy, f, fy, qx, q, ox, oy), evs Lo none)).2 → c < cl b → wY_one_13 post (nI 6) b (r.length + 1) sum (nI c) last (nI i) f_stages f_heard f_now f_calls f_parts f_start f_at f_nextX f_nextY f_x f_y a_kind a_opA a_opB a_heardBy a_what a_said a_when a_over a_part a_first a_second a_user a_goStage a_goStep a_done (va) (mm) (cn) a_end a_endMom a_begun a_status a_stageOf a_began a_taken a_demand a_asked a_code a_waits a_waiting a_came a_given a_got := by
  have hcl : f_x.toNatClampNeg = xq := by rw [hfx]; exact nI_clamp (by omega)
  have hin : vp_in f_x 9 := by rw [hfx]; exact vp_in_nI hxq (by decide)
  intro r
  induction r with
  | nil =>
    intro i c sum last Lo va mm cn hr hiL hLo hY hx hF hT hv1
    have hiL2 : L.length ≤ i := List.drop_eq_nil_iff.mp hr
    obtain ⟨b1, b2, b3⟩ := yb_m1 hx.2.2.2.1 hx.2.2.2.2.1 (fun w hw => (hx.2.2.2.2.2 w hw).1)
    refine ⟨hin, br_t (by rw [hcl, hx.1]; exact nI_le hiL2 (by omega)) ⟨hin, ?_⟩⟩
    have goon : wY_one_318 post (nI 6) (nI c) f_stages f_heard f_now f_calls f_parts f_start f_at f_nextX f_nextY f_x f_y a_kind a_opA a_opB a_heardBy a_what a_said a_when a_over a_part a_first a_second a_user a_goStage a_goStep a_done (va) (mm) (cn) a_end a_endMom a_begun a_status a_stageOf a_began a_taken a_demand a_asked a_code a_waits a_waiting a_came a_given a_got := by
      have h351 : wY_one_351 post f_stages f_heard f_now f_calls f_parts f_start f_at f_nextX f_nextY f_x f_y a_kind a_opA a_opB a_heardBy a_what a_said a_when a_over a_part a_first a_second a_user a_goStage a_goStep a_done (va) (mm) (cn) a_end a_endMom a_begun a_status a_stageOf a_began a_taken a_demand a_asked a_code a_waits a_waiting a_came a_given a_got := yo_fin1 (k := 6) (a := a) (b := b) (S := (d, c, h, hy, f, fy, qx, q, ox, oy)) hp hxq hat hfx hnow ht hx hz hY hF (fun v m hv => ?_) (fun en em z' h1 h2 h3 => K va mm cn en em Lo z' h1 (h2.trans hT.symm) h3 (by omega))
      · refine ⟨hin, ?_⟩
        by_cases he : a_end f_x.toNatClampNeg = 0
        · exact br_t he (br_f (by decide) h351)
        · exact br_f he h351
      · rw [rn_stp_go (yo_fin Lo)]
        by_cases hv0 : v = 0
        · subst hv0; rfl
        · rw [if_neg hv0]; rfl
    by_cases he : a_end f_x.toNatClampNeg = 0
    · exact br_t he (br_f (by decide) goon)
    · exact br_f he goon
  | cons x r ih =>
    intro i c sum last Lo va mm cn hr hiL hLo hY hx hF hT hv1
    have hxi : L[i]? = some x := by rw [← List.head?_drop, hr]; rfl
    have hil := yb_idx hxi
    have hr' : L.drop (i + 1) = r := by rw [← List.drop_drop, hr]; rfl
    have hxt := hL x (List.mem_of_getElem? hxi)
    have hxm := (hx.2.2.1 i x hxi).2.2
    refine yo_head hxq hfx hx hxi (fun sm hsm => ?_)
    rw [yo_tgc, List.foldl_cons, yo_item] at hT
    refine br_f (by decide) ?_
    refine br_f (by decide) ?_
    refine nm_e (nm_r (nI_1 c) (br_f (by decide) ?_))
    refine br_t rfl ?_
    refine yw_put hp hat hnow ht hxm hY (by omega) (fun _ va2 mm2 cn2 g1 g2 => ?_) (fun y => absurd hxt y)
    by_cases hv : c + 1 < cl b
    · refine br_t rfl (br_f (by rw [hb.2.2, nI_eq (by omega) (by omega)]; omega) ?_)
      refine br_f (by decide) ?_
      refine br_f (by decide) ?_
      refine br_f (by decide) ?_
      refine br_f (by decide) (nm_r (nI_1 i) ?_)
      refine ih (i + 1) (c + 1) (sum + x.1) last (Lo ++ [(x.1, x.2)]) va2 mm2 cn2 hr' (by omega) (by simp; omega) g1 (g2 xq hpx _ _ hx) (yb_trans hF g2) ?_ hv
      have e : hi 6 b (tim x.2) true x.1 (d, c, h, hy, f, fy, qx, q, ox, oy) = ((d, c + 1, h, hy, f, fy, qx, q, ox, oy), [(1, x.1)]) := by simp only [hi, if_pos hv]
      rw [e] at hT
      rw [yo_snoc]; exact hT
    · refine br_t rfl (br_t (by rw [hb.2.2, nI_eq (by omega) (by omega)]; omega) ?_)
      have e : hi 6 b (tim x.2) true x.1 (d, c, h, hy, f, fy, qx, q, ox, oy) = ((d, c + 1, h, hy, f, fy, qx, q, ox, oy), [(1, x.1), (2, 0)]) := by simp only [hi, if_neg hv]
      rw [e, rn_fold_fin _ _ (by simp [ems, fin])] at hT
      refine yw_stop (j := 0) hp hat hnow ht hxm (by decide) rfl g1 (fun _ en em k1 k2 => K va2 mm2 cn2 en em _ _ k1 ?_ (yb_trans hF (yb_trans g2 k2)) (by simp; omega)) (fun y => absurd hxt y)
      rw [hT, yo_end, yo_snoc]
      simp [ems]
theorem yo_loop7 {post : SY → Prop} {p xq t : Nat} {a b : Int32} {L : List (Int32 × Nat)} {z : Option (Int32 × Nat)} {RES : List Ev} {d : Nat} {hy : Int32} {fy qx ox oy : Bool} {q : List (Int32 × Nat)} (hp : p < 9) (hxq : xq < 9) (hpx : xq ≠ p) (hat : f_at = nI p) (hfx : f_x = nI xq) (hnow : f_now = nI t) (ht : t ≤ 200) (hL : ∀ x ∈ L, tim x.2 ≤ t) (hz : ∀ w, z = some w → tim w.2 ≤ t) (hL250 : L.length ≤ 250) {h : Int32} {f : Bool} (hb : cl b ≤ 8 ∧ b = nI (cl b))
    (K : ∀ va mm cn en em L' z', YA va mm cn en em p L' z' → evs L' z' = RES → YF p a_val a_mom a_cnt a_end a_endMom va mm cn en em → L'.length ≤ L.length + 1 → post (f_stages, f_heard, f_now, f_calls, f_parts, f_start, f_at, f_nextX, f_nextY, f_x, f_y, a_kind, a_opA, a_opB, a_heardBy, a_what, a_said, a_when, a_over, a_part, a_first, a_second, a_user, a_goStage, a_goStep, a_done, va, mm, cn, en, em, a_begun, a_status, a_stageOf, a_began, a_taken, a_demand, a_asked, a_code, a_waits, a_waiting, a_came, a_given, a_got)) :
    ∀ (r : List (Int32 × Nat)) (i : Nat) (c : Nat) (sum : Int32) (last : Int64) (Lo : List (Int32 × Nat)) (va : Nat → Int32) (mm : Nat → Int64) (cn : Nat → Int32), L.drop i = r → i ≤ L.length → Lo.length ≤ i → YA va mm cn a_end a_endMom p Lo none → YA va mm cn a_end a_endMom xq L z → YF p a_val a_mom a_cnt a_end a_endMom va mm cn a_end a_endMom → RES = ((tg 0 (evs r z)).foldl (stp 7 a b) ((d, c, h, hy, f, fy, qx, q, ox, oy), evs Lo none)).2 → c ≤ i → (c < cl b → c = i) → c ≤ cl b → wY_one_13 post (nI 7) b (r.length + 1) sum (nI i) last (nI i) f_stages f_heard f_now f_calls f_parts f_start f_at f_nextX f_nextY f_x f_y a_kind a_opA a_opB a_heardBy a_what a_said a_when a_over a_part a_first a_second a_user a_goStage a_goStep a_done (va) (mm) (cn) a_end a_endMom a_begun a_status a_stageOf a_began a_taken a_demand a_asked a_code a_waits a_waiting a_came a_given a_got := by
  have hcl : f_x.toNatClampNeg = xq := by rw [hfx]; exact nI_clamp (by omega)
  have hin : vp_in f_x 9 := by rw [hfx]; exact vp_in_nI hxq (by decide)
  intro r
  induction r with
  | nil =>
    intro i c sum last Lo va mm cn hr hiL hLo hY hx hF hT hv1 hv2 hv3
    have hiL2 : L.length ≤ i := List.drop_eq_nil_iff.mp hr
    obtain ⟨b1, b2, b3⟩ := yb_m1 hx.2.2.2.1 hx.2.2.2.2.1 (fun w hw => (hx.2.2.2.2.2 w hw).1)
    refine ⟨hin, br_t (by rw [hcl, hx.1]; exact nI_le hiL2 (by omega)) ⟨hin, ?_⟩⟩
    have goon : wY_one_318 post (nI 7) (nI i) f_stages f_heard f_now f_calls f_parts f_start f_at f_nextX f_nextY f_x f_y a_kind a_opA a_opB a_heardBy a_what a_said a_when a_over a_part a_first a_second a_user a_goStage a_goStep a_done (va) (mm) (cn) a_end a_endMom a_begun a_status a_stageOf a_began a_taken a_demand a_asked a_code a_waits a_waiting a_came a_given a_got := by
      have h351 : wY_one_351 post f_stages f_heard f_now f_calls f_parts f_start f_at f_nextX f_nextY f_x f_y a_kind a_opA a_opB a_heardBy a_what a_said a_when a_over a_part a_first a_second a_user a_goStage a_goStep a_done (va) (mm) (cn) a_end a_endMom a_begun a_status a_stageOf a_began a_taken a_demand a_asked a_code a_waits a_waiting a_came a_given a_got := yo_fin1 (k := 7) (a := a) (b := b) (S := (d, c, h, hy, f, fy, qx, q, ox, oy)) hp hxq hat hfx hnow ht hx hz hY hF (fun v m hv => ?_) (fun en em z' h1 h2 h3 => K va mm cn en em Lo z' h1 (h2.trans hT.symm) h3 (by omega))
      · refine ⟨hin, ?_⟩
        by_cases he : a_end f_x.toNatClampNeg = 0
        · exact br_t he (br_f (by decide) h351)
        · exact br_f he h351
      · rw [rn_stp_go (yo_fin Lo)]
        by_cases hv0 : v = 0
        · subst hv0; rfl
        · rw [if_neg hv0]; rfl
    by_cases he : a_end f_x.toNatClampNeg = 0
    · exact br_t he (br_f (by decide) goon)
    · exact br_f he goon
  | cons x r ih =>
    intro i c sum last Lo va mm cn hr hiL hLo hY hx hF hT hv1 hv2 hv3
    have hxi : L[i]? = some x := by rw [← List.head?_drop, hr]; rfl
    have hil := yb_idx hxi
    have hr' : L.drop (i + 1) = r := by rw [← List.drop_drop, hr]; rfl
    have hxt := hL x (List.mem_of_getElem? hxi)
    have hxm := (hx.2.2.1 i x hxi).2.2
    refine yo_head hxq hfx hx hxi (fun sm hsm => ?_)
    rw [yo_tgc, List.foldl_cons, yo_item] at hT
    refine br_f (by decide) ?_
    refine br_f (by decide) ?_
    refine nm_e (nm_r (nI_1 i) (br_f (by decide) ?_))
    refine br_f (by decide) ?_
    refine br_f (by decide) ?_
    by_cases hv : c < cl b
    · refine br_t rfl (br_t (by rw [hb.2]; exact nI_le (by omega) (by omega)) ?_)
      refine br_f (by decide) ?_
      refine br_f (by decide) ?_
      refine br_f (by decide) (nm_r (nI_1 i) ?_)
      refine ih (i + 1) (c + 1) (sum + x.1) last Lo va mm cn hr' (by omega) (by omega) hY hx hF ?_ (by omega) (by omega) (by omega)
      have e : hi 7 b (tim x.2) true x.1 (d, c, h, hy, f, fy, qx, q, ox, oy) = ((d, c + 1, h, hy, f, fy, qx, q, ox, oy), []) := by simp only [hi, if_pos hv]
      rw [e] at hT
      simpa [ems] using hT
    · refine br_t rfl (br_f (by rw [hb.2]; exact nI_ge (by omega) (by omega)) ?_)
      refine yw_put hp hat hnow ht hxm hY (by omega) (fun _ va2 mm2 cn2 g1 g2 => ?_) (fun y => absurd hxt y)
      refine br_f (by decide) ?_
      refine br_f (by decide) ?_
      refine br_f (by decide) (nm_r (nI_1 i) ?_)
      refine ih (i + 1) c (sum + x.1) last (Lo ++ [(x.1, x.2)]) va2 mm2 cn2 hr' (by omega) (by simp; omega) g1 (g2 xq hpx _ _ hx) (yb_trans hF g2) ?_ (by omega) (by omega) (by omega)
      have e : hi 7 b (tim x.2) true x.1 (d, c, h, hy, f, fy, qx, q, ox, oy) = ((d, c, h, hy, f, fy, qx, q, ox, oy), [(1, x.1)]) := by simp only [hi, if_neg hv]
      rw [e] at hT
      rw [yo_snoc]; exact hT
theorem yo_loop8 {post : SY → Prop} {p xq t : Nat} {a b : Int32} {L : List (Int32 × Nat)} {z : Option (Int32 × Nat)} {RES : List Ev} {d : Nat} {hy : Int32} {fy qx ox oy : Bool} {q : List (Int32 × Nat)} (hp : p < 9) (hxq : xq < 9) (hpx : xq ≠ p) (hat : f_at = nI p) (hfx : f_x = nI xq) (hnow : f_now = nI t) (ht : t ≤ 200) (hL : ∀ x ∈ L, tim x.2 ≤ t) (hz : ∀ w, z = some w → tim w.2 ≤ t) (hL250 : L.length ≤ 250) {c : Nat}
    (K : ∀ va mm cn en em L' z', YA va mm cn en em p L' z' → evs L' z' = RES → YF p a_val a_mom a_cnt a_end a_endMom va mm cn en em → L'.length ≤ L.length + 1 → post (f_stages, f_heard, f_now, f_calls, f_parts, f_start, f_at, f_nextX, f_nextY, f_x, f_y, a_kind, a_opA, a_opB, a_heardBy, a_what, a_said, a_when, a_over, a_part, a_first, a_second, a_user, a_goStage, a_goStep, a_done, va, mm, cn, en, em, a_begun, a_status, a_stageOf, a_began, a_taken, a_demand, a_asked, a_code, a_waits, a_waiting, a_came, a_given, a_got)) :
    ∀ (r : List (Int32 × Nat)) (i : Nat) (h : Int32) (f : Bool) (sum : Int32) (nn : Int32) (last : Int64) (Lo : List (Int32 × Nat)) (va : Nat → Int32) (mm : Nat → Int64) (cn : Nat → Int32), L.drop i = r → i ≤ L.length → Lo.length ≤ i → YA va mm cn a_end a_endMom p Lo none → YA va mm cn a_end a_endMom xq L z → YF p a_val a_mom a_cnt a_end a_endMom va mm cn a_end a_endMom → RES = ((tg 0 (evs r z)).foldl (stp 8 a b) ((d, c, h, hy, f, fy, qx, q, ox, oy), evs Lo none)).2 → (f = true → ∃ y, 0 < i ∧ L[i - 1]? = some y ∧ y.1 = h) → (0 < i → f = true) → wY_one_13 post (nI 8) b (r.length + 1) sum nn last (nI i) f_stages f_heard f_now f_calls f_parts f_start f_at f_nextX f_nextY f_x f_y a_kind a_opA a_opB a_heardBy a_what a_said a_when a_over a_part a_first a_second a_user a_goStage a_goStep a_done (va) (mm) (cn) a_end a_endMom a_begun a_status a_stageOf a_began a_taken a_demand a_asked a_code a_waits a_waiting a_came a_given a_got := by
  have hcl : f_x.toNatClampNeg = xq := by rw [hfx]; exact nI_clamp (by omega)
  have hin : vp_in f_x 9 := by rw [hfx]; exact vp_in_nI hxq (by decide)
  intro r
  induction r with
  | nil =>
    intro i h f sum nn last Lo va mm cn hr hiL hLo hY hx hF hT hv1 hv2
    have hiL2 : L.length ≤ i := List.drop_eq_nil_iff.mp hr
    obtain ⟨b1, b2, b3⟩ := yb_m1 hx.2.2.2.1 hx.2.2.2.2.1 (fun w hw => (hx.2.2.2.2.2 w hw).1)
    refine ⟨hin, br_t (by rw [hcl, hx.1]; exact nI_le hiL2 (by omega)) ⟨hin, ?_⟩⟩
    have goon : wY_one_318 post (nI 8) nn f_stages f_heard f_now f_calls f_parts f_start f_at f_nextX f_nextY f_x f_y a_kind a_opA a_opB a_heardBy a_what a_said a_when a_over a_part a_first a_second a_user a_goStage a_goStep a_done (va) (mm) (cn) a_end a_endMom a_begun a_status a_stageOf a_began a_taken a_demand a_asked a_code a_waits a_waiting a_came a_given a_got := by
      have h351 : wY_one_351 post f_stages f_heard f_now f_calls f_parts f_start f_at f_nextX f_nextY f_x f_y a_kind a_opA a_opB a_heardBy a_what a_said a_when a_over a_part a_first a_second a_user a_goStage a_goStep a_done (va) (mm) (cn) a_end a_endMom a_begun a_status a_stageOf a_began a_taken a_demand a_asked a_code a_waits a_waiting a_came a_given a_got := yo_fin1 (k := 8) (a := a) (b := b) (S := (d, c, h, hy, f, fy, qx, q, ox, oy)) hp hxq hat hfx hnow ht hx hz hY hF (fun v m hv => ?_) (fun en em z' h1 h2 h3 => K va mm cn en em Lo z' h1 (h2.trans hT.symm) h3 (by omega))
      · refine ⟨hin, ?_⟩
        by_cases he : a_end f_x.toNatClampNeg = 0
        · exact br_t he (br_f (by decide) h351)
        · exact br_f he h351
      · rw [rn_stp_go (yo_fin Lo)]
        by_cases hv0 : v = 0
        · subst hv0; rfl
        · rw [if_neg hv0]; rfl
    by_cases he : a_end f_x.toNatClampNeg = 0
    · exact br_t he (br_f (by decide) goon)
    · exact br_f he goon
  | cons x r ih =>
    intro i h f sum nn last Lo va mm cn hr hiL hLo hY hx hF hT hv1 hv2
    have hxi : L[i]? = some x := by rw [← List.head?_drop, hr]; rfl
    have hil := yb_idx hxi
    have hr' : L.drop (i + 1) = r := by rw [← List.drop_drop, hr]; rfl
    have hxt := hL x (List.mem_of_getElem? hxi)
    have hxm := (hx.2.2.1 i x hxi).2.2
    refine yo_head hxq hfx hx hxi (fun sm hsm => ?_)
    rw [yo_tgc, List.foldl_cons, yo_item] at hT
    refine br_f (by decide) ?_
    refine br_f (by decide) ?_
    refine nm_e (nm_e (br_f (by decide) ?_))
    refine br_f (by decide) ?_
    refine br_f (by decide) ?_
    refine br_f (by decide) ?_
    have hm2 : (f = true ∧ h = x.1) ↔ sm = true := by
      rw [hsm]
      constructor
      · rintro ⟨h1, h2⟩
        obtain ⟨y, y1, y2⟩ := (hv1 h1)
        exact ⟨y, y1, y2.1, y2.2.trans h2⟩
      · rintro ⟨y, y1, y2, y3⟩
        have := hv2 y1
        obtain ⟨y', z1, z2⟩ := hv1 this
        rw [y2] at z2
        have e := z2.1
        cases e
        exact ⟨this, z2.2.symm.trans y3⟩
    by_cases hv : f = true ∧ h = x.1
    · refine br_t rfl (br_f (by rw [hm2.mp hv]; decide) ?_)
      refine br_f (by decide) ?_
      refine br_f (by decide) (nm_r (nI_1 i) ?_)
      refine ih (i + 1) x.1 true (sum + x.1) (nn + 1) last Lo va mm cn hr' (by omega) (by omega) hY hx hF ?_ (fun _ => ⟨x, by omega, hxi, rfl⟩) (fun _ => rfl)
      have e : hi 8 b (tim x.2) true x.1 (d, c, h, hy, f, fy, qx, q, ox, oy) = ((d, c, x.1, hy, true, fy, qx, q, ox, oy), []) := by simp only [hi, if_pos hv]
      rw [e] at hT
      simpa [ems] using hT
    · have hsf : sm = false := by
        rcases Bool.eq_false_or_eq_true sm with y | y
        · exact absurd (hm2.mpr y) hv
        · exact y
      refine br_t rfl (br_t (by rw [hsf]; rfl) ?_)
      refine yw_put hp hat hnow ht hxm hY (by omega) (fun _ va2 mm2 cn2 g1 g2 => ?_) (fun y => absurd hxt y)
      refine br_f (by decide) ?_
      refine br_f (by decide) (nm_r (nI_1 i) ?_)
      refine ih (i + 1) x.1 true (sum + x.1) (nn + 1) last (Lo ++ [(x.1, x.2)]) va2 mm2 cn2 hr' (by omega) (by simp; omega) g1 (g2 xq hpx _ _ hx) (yb_trans hF g2) ?_ (fun _ => ⟨x, by omega, hxi, rfl⟩) (fun _ => rfl)
      have e : hi 8 b (tim x.2) true x.1 (d, c, h, hy, f, fy, qx, q, ox, oy) = ((d, c, x.1, hy, true, fy, qx, q, ox, oy), [(1, x.1)]) := by simp only [hi, if_neg hv]
      rw [e] at hT
      rw [yo_snoc]; exact hT
theorem yo_loop9 {post : SY → Prop} {p xq t : Nat} {a b : Int32} {L : List (Int32 × Nat)} {z : Option (Int32 × Nat)} {RES : List Ev} {d : Nat} {hy : Int32} {fy qx ox oy : Bool} {q : List (Int32 × Nat)} (hp : p < 9) (hxq : xq < 9) (hpx : xq ≠ p) (hat : f_at = nI p) (hfx : f_x = nI xq) (hnow : f_now = nI t) (ht : t ≤ 200) (hL : ∀ x ∈ L, tim x.2 ≤ t) (hz : ∀ w, z = some w → tim w.2 ≤ t) (hL250 : L.length ≤ 250) {f : Bool} (hb : 2 ≤ cl b ∧ cl b ≤ 5 ∧ b = nI (cl b))
    (K : ∀ va mm cn en em L' z', YA va mm cn en em p L' z' → evs L' z' = RES → YF p a_val a_mom a_cnt a_end a_endMom va mm cn en em → L'.length ≤ L.length + 1 → post (f_stages, f_heard, f_now, f_calls, f_parts, f_start, f_at, f_nextX, f_nextY, f_x, f_y, a_kind, a_opA, a_opB, a_heardBy, a_what, a_said, a_when, a_over, a_part, a_first, a_second, a_user, a_goStage, a_goStep, a_done, va, mm, cn, en, em, a_begun, a_status, a_stageOf, a_began, a_taken, a_demand, a_asked, a_code, a_waits, a_waiting, a_came, a_given, a_got)) :
    ∀ (r : List (Int32 × Nat)) (i : Nat) (c : Nat) (h : Int32) (last : Int64) (Lo : List (Int32 × Nat)) (va : Nat → Int32) (mm : Nat → Int64) (cn : Nat → Int32), L.drop i = r → i ≤ L.length → Lo.length ≤ i → YA va mm cn a_end a_endMom p Lo none → YA va mm cn a_end a_endMom xq L z → YF p a_val a_mom a_cnt a_end a_endMom va mm cn a_end a_endMom → RES = ((tg 0 (evs r z)).foldl (stp 9 a b) ((d, c, h, hy, f, fy, qx, q, ox, oy), evs Lo none)).2 → c < cl b → wY_one_13 post (nI 9) b (r.length + 1) h (nI c) last (nI i) f_stages f_heard f_now f_calls f_parts f_start f_at f_nextX f_nextY f_x f_y a_kind a_opA a_opB a_heardBy a_what a_said a_when a_over a_part a_first a_second a_user a_goStage a_goStep a_done (va) (mm) (cn) a_end a_endMom a_begun a_status a_stageOf a_began a_taken a_demand a_asked a_code a_waits a_waiting a_came a_given a_got := by
  have hcl : f_x.toNatClampNeg = xq := by rw [hfx]; exact nI_clamp (by omega)
  have hin : vp_in f_x 9 := by rw [hfx]; exact vp_in_nI hxq (by decide)
  intro r
  induction r with
  | nil =>
    intro i c h last Lo va mm cn hr hiL hLo hY hx hF hT hv1
    have hiL2 : L.length ≤ i := List.drop_eq_nil_iff.mp hr
    obtain ⟨b1, b2, b3⟩ := yb_m1 hx.2.2.2.1 hx.2.2.2.2.1 (fun w hw => (hx.2.2.2.2.2 w hw).1)
    refine ⟨hin, br_t (by rw [hcl, hx.1]; exact nI_le hiL2 (by omega)) ⟨hin, ?_⟩⟩
    have h351 : ∀ (Lo2 : List (Int32 × Nat)) (va2 : Nat → Int32) (mm2 : Nat → Int64) (cn2 : Nat → Int32), YA va2 mm2 cn2 a_end a_endMom p Lo2 none → YA va2 mm2 cn2 a_end a_endMom xq L z → YF p a_val a_mom a_cnt a_end a_endMom va2 mm2 cn2 a_end a_endMom → Lo2.length ≤ L.length + 1 → (z = none → evs Lo2 none = RES) → (∀ v m, z = some (v, m) → evs Lo2 none ++ [(if v = 0 then 2 else 3, v, m)] = RES) → wY_one_351 post f_stages f_heard f_now f_calls f_parts f_start f_at f_nextX f_nextY f_x f_y a_kind a_opA a_opB a_heardBy a_what a_said a_when a_over a_part a_first a_second a_user a_goStage a_goStep a_done (va2) (mm2) (cn2) a_end a_endMom a_begun a_status a_stageOf a_began a_taken a_demand a_asked a_code a_waits a_waiting a_came a_given a_got := by
      intro Lo2 va2 mm2 cn2 k1 k2 k3 k4 k5 k6
      refine yo_fin1 (k := 3) (a := a) (b := b) (S := (d, c, h, hy, f, fy, qx, q, ox, oy)) hp hxq hat hfx hnow ht k2 hz k1 k3 (fun v m hv => ?_) (fun en em z' h1 h2 h3 => K va2 mm2 cn2 en em Lo2 z' h1 ?_ h3 k4)
      · rw [rn_stp_go (yo_fin Lo2)]
        by_cases hv0 : v = 0
        · subst hv0; rfl
        · rw [if_neg hv0]; rfl
      · rw [h2]
        cases z with
        | none => exact k5 rfl
        | some w =>
          obtain ⟨v, m⟩ := w
          rw [← k6 v m rfl]
          show (stp 3 a b ((d, c, h, hy, f, fy, qx, q, ox, oy), evs Lo2 none) (0, (if v = 0 then 2 else 3), v, m)).2 = _
          rw [rn_stp_go (yo_fin Lo2)]
          by_cases hv0 : v = 0
          · subst hv0; rfl
          · rw [if_neg hv0]; rfl
    by_cases he : a_end f_x.toNatClampNeg = 0
    · obtain ⟨m, hzm⟩ := b3.mp (by rw [← hcl]; exact he)
      have hzm1 := (hx.2.2.2.1 _ hzm).1
      have hzt := hz _ hzm
      have hem : a_endMom f_x.toNatClampNeg = lN m := by rw [hcl]; exact (hx.2.2.2.2.2 _ hzm).2
      have e318 : ∀ (va2 : Nat → Int32) (mm2 : Nat → Int64) (cn2 : Nat → Int32), wY_one_351 post f_stages f_heard f_now f_calls f_parts f_start f_at f_nextX f_nextY f_x f_y a_kind a_opA a_opB a_heardBy a_what a_said a_when a_over a_part a_first a_second a_user a_goStage a_goStep a_done (va2) (mm2) (cn2) a_end a_endMom a_begun a_status a_stageOf a_began a_taken a_demand a_asked a_code a_waits a_waiting a_came a_given a_got → wY_one_318 post (nI 9) (nI c) f_stages f_heard f_now f_calls f_parts f_start f_at f_nextX f_nextY f_x f_y a_kind a_opA a_opB a_heardBy a_what a_said a_when a_over a_part a_first a_second a_user a_goStage a_goStep a_done (va2) (mm2) (cn2) a_end a_endMom a_begun a_status a_stageOf a_began a_taken a_demand a_asked a_code a_waits a_waiting a_came a_given a_got := fun va2 mm2 cn2 h => ⟨hin, br_t he (br_f (by decide) h)⟩
      rw [hzm] at hT
      have hT2 : RES = (stp 9 a b ((d, c, h, hy, f, fy, qx, q, ox, oy), evs Lo none) (0, 2, 0, m)).2 := hT
      rw [rn_stp_go (yo_fin Lo)] at hT2
      have hT3 : RES = evs Lo none ++ ems m (hc 9 b (tim m) true (d, c, h, hy, f, fy, qx, q, ox, oy)).2 := hT2
      refine br_t he (br_t rfl ?_)
      by_cases hc0 : c = 0
      · refine br_t (by rw [hc0]; decide) (e318 _ _ _ (h351 Lo va mm cn hY hx hF (by omega) (fun y => by rw [hzm] at y; simp at y) (fun v m' y => ?_)))
        rw [hzm] at y
        cases y
        rw [hT3, show hc 9 b (tim m) true (d, c, h, hy, f, fy, qx, q, ox, oy) = ((d, c, h, hy, f, fy, qx, q, ox, oy), [(2, 0)]) from by simp [hc, hc0]]; rfl
      · refine br_f (nI_nle (by omega) (by omega)) ⟨hin, ?_⟩
        rw [hem]
        refine yw_put hp hat hnow ht hzm1 hY (by omega) (fun _ va2 mm2 cn2 g1 g2 => e318 _ _ _ (h351 _ va2 mm2 cn2 g1 (g2 xq hpx _ _ hx) (yb_trans hF g2) (by simp; omega) (fun y => by rw [hzm] at y; simp at y) (fun v m' y => ?_))) (fun y => absurd hzt y)
        rw [hzm] at y
        cases y
        rw [hT3, show hc 9 b (tim m) true (d, c, h, hy, f, fy, qx, q, ox, oy) = ((d, c, h, hy, f, fy, qx, q, ox, oy), [(1, h), (2, 0)]) from by simp [hc, hc0], yo_snoc]
        simp [ems]
    · refine br_f he ⟨hin, br_f he ?_⟩
      have hne : ∀ m, z ≠ some (0, m) := fun m y => he (by rw [hcl]; exact b3.mpr ⟨m, y⟩)
      refine h351 Lo va mm cn hY hx hF (by omega) (fun y => ?_) (fun v m y => ?_)
      · rw [hT, y]; rfl
      · have hv0 : v ≠ 0 := fun w => hne m (by rw [y, w])
        rw [hT, y, if_neg hv0]
        show _ = (stp 9 a b ((d, c, h, hy, f, fy, qx, q, ox, oy), evs Lo none) (0, (if v = 0 then 2 else 3), v, m)).2
        rw [rn_stp_go (yo_fin Lo), if_neg hv0]; rfl
  | cons x r ih =>
    intro i c h last Lo va mm cn hr hiL hLo hY hx hF hT hv1
    have hxi : L[i]? = some x := by rw [← List.head?_drop, hr]; rfl
    have hil := yb_idx hxi
    have hr' : L.drop (i + 1) = r := by rw [← List.drop_drop, hr]; rfl
    have hxt := hL x (List.mem_of_getElem? hxi)
    have hxm := (hx.2.2.1 i x hxi).2.2
    refine yo_head hxq hfx hx hxi (fun sm hsm => ?_)
    rw [yo_tgc, List.foldl_cons, yo_item] at hT
    refine br_f (by decide) ?_
    refine br_f (by decide) ?_
    refine nm_e (nm_r (nI_1 c) (br_f (by decide) ?_))
    refine br_f (by decide) ?_
    refine br_f (by decide) ?_
    refine br_f (by decide) ?_
    refine br_f (by decide) ?_
    by_cases hv : c + 1 < cl b
    · refine br_t rfl (br_f (by rw [hb.2.2, nI_eq (by omega) (by omega)]; omega) ?_)
      refine br_f (by decide) (nm_r (nI_1 i) ?_)
      refine ih (i + 1) (c + 1) (h + x.1) last Lo va mm cn hr' (by omega) (by omega) hY hx hF ?_ hv
      have e : hi 9 b (tim x.2) true x.1 (d, c, h, hy, f, fy, qx, q, ox, oy) = ((d, c + 1, h + x.1, hy, f, fy, qx, q, ox, oy), []) := by simp only [hi, if_pos hv]
      rw [e] at hT
      simpa [ems] using hT
    · refine br_t rfl (br_t (by rw [hb.2.2, nI_eq (by omega) (by omega)]; omega) ?_)
      refine yw_put hp hat hnow ht hxm hY (by omega) (fun _ va2 mm2 cn2 g1 g2 => ?_) (fun y => absurd hxt y)
      refine br_f (by decide) (nm_r (nI_1 i) ?_)
      refine ih (i + 1) 0 0 last (Lo ++ [(h + x.1, x.2)]) va2 mm2 cn2 hr' (by omega) (by simp; omega) g1 (g2 xq hpx _ _ hx) (yb_trans hF g2) ?_ (by omega)
      have e : hi 9 b (tim x.2) true x.1 (d, c, h, hy, f, fy, qx, q, ox, oy) = ((d, 0, 0, hy, f, fy, qx, q, ox, oy), [(1, h + x.1)]) := by simp only [hi, if_neg hv]
      rw [e] at hT
      rw [yo_snoc]; exact hT
theorem yo_loop10 {post : SY → Prop} {p xq t : Nat} {a b : Int32} {L : List (Int32 × Nat)} {z : Option (Int32 × Nat)} {RES : List Ev} {d : Nat} {hy : Int32} {fy qx ox oy : Bool} {q : List (Int32 × Nat)} (hp : p < 9) (hxq : xq < 9) (hpx : xq ≠ p) (hat : f_at = nI p) (hfx : f_x = nI xq) (hnow : f_now = nI t) (ht : t ≤ 200) (hL : ∀ x ∈ L, tim x.2 ≤ t) (hz : ∀ w, z = some w → tim w.2 ≤ t) (hL250 : L.length ≤ 250) {h : Int32} {f : Bool}
    (K : ∀ va mm cn en em L' z', YA va mm cn en em p L' z' → evs L' z' = RES → YF p a_val a_mom a_cnt a_end a_endMom va mm cn en em → L'.length ≤ L.length + 1 → post (f_stages, f_heard, f_now, f_calls, f_parts, f_start, f_at, f_nextX, f_nextY, f_x, f_y, a_kind, a_opA, a_opB, a_heardBy, a_what, a_said, a_when, a_over, a_part, a_first, a_second, a_user, a_goStage, a_goStep, a_done, va, mm, cn, en, em, a_begun, a_status, a_stageOf, a_began, a_taken, a_demand, a_asked, a_code, a_waits, a_waiting, a_came, a_given, a_got)) :
    ∀ (r : List (Int32 × Nat)) (i : Nat) (c : Nat) (sum : Int32) (last : Int64) (Lo : List (Int32 × Nat)) (va : Nat → Int32) (mm : Nat → Int64) (cn : Nat → Int32), L.drop i = r → i ≤ L.length → Lo.length ≤ i → YA va mm cn a_end a_endMom p Lo none → YA va mm cn a_end a_endMom xq L z → YF p a_val a_mom a_cnt a_end a_endMom va mm cn a_end a_endMom → RES = ((tg 0 (evs r z)).foldl (stp 10 a b) ((d, c, h, hy, f, fy, qx, q, ox, oy), evs Lo none)).2 → wY_one_13 post (nI 10) b (r.length + 1) sum (nI c) last (nI i) f_stages f_heard f_now f_calls f_parts f_start f_at f_nextX f_nextY f_x f_y a_kind a_opA a_opB a_heardBy a_what a_said a_when a_over a_part a_first a_second a_user a_goStage a_goStep a_done (va) (mm) (cn) a_end a_endMom a_begun a_status a_stageOf a_began a_taken a_demand a_asked a_code a_waits a_waiting a_came a_given a_got := by
  have hcl : f_x.toNatClampNeg = xq := by rw [hfx]; exact nI_clamp (by omega)
  have hin : vp_in f_x 9 := by rw [hfx]; exact vp_in_nI hxq (by decide)
  intro r
  induction r with
  | nil =>
    intro i c sum last Lo va mm cn hr hiL hLo hY hx hF hT 
    have hiL2 : L.length ≤ i := List.drop_eq_nil_iff.mp hr
    obtain ⟨b1, b2, b3⟩ := yb_m1 hx.2.2.2.1 hx.2.2.2.2.1 (fun w hw => (hx.2.2.2.2.2 w hw).1)
    refine ⟨hin, br_t (by rw [hcl, hx.1]; exact nI_le hiL2 (by omega)) ⟨hin, ?_⟩⟩
    have h351 : ∀ (Lo2 : List (Int32 × Nat)) (va2 : Nat → Int32) (mm2 : Nat → Int64) (cn2 : Nat → Int32), YA va2 mm2 cn2 a_end a_endMom p Lo2 none → YA va2 mm2 cn2 a_end a_endMom xq L z → YF p a_val a_mom a_cnt a_end a_endMom va2 mm2 cn2 a_end a_endMom → Lo2.length ≤ L.length + 1 → (z = none → evs Lo2 none = RES) → (∀ v m, z = some (v, m) → evs Lo2 none ++ [(if v = 0 then 2 else 3, v, m)] = RES) → wY_one_351 post f_stages f_heard f_now f_calls f_parts f_start f_at f_nextX f_nextY f_x f_y a_kind a_opA a_opB a_heardBy a_what a_said a_when a_over a_part a_first a_second a_user a_goStage a_goStep a_done (va2) (mm2) (cn2) a_end a_endMom a_begun a_status a_stageOf a_began a_taken a_demand a_asked a_code a_waits a_waiting a_came a_given a_got := by
      intro Lo2 va2 mm2 cn2 k1 k2 k3 k4 k5 k6
      refine yo_fin1 (k := 3) (a := a) (b := b) (S := (d, c, h, hy, f, fy, qx, q, ox, oy)) hp hxq hat hfx hnow ht k2 hz k1 k3 (fun v m hv => ?_) (fun en em z' h1 h2 h3 => K va2 mm2 cn2 en em Lo2 z' h1 ?_ h3 k4)
      · rw [rn_stp_go (yo_fin Lo2)]
        by_cases hv0 : v = 0
        · subst hv0; rfl
        · rw [if_neg hv0]; rfl
      · rw [h2]
        cases z with
        | none => exact k5 rfl
        | some w =>
          obtain ⟨v, m⟩ := w
          rw [← k6 v m rfl]
          show (stp 3 a b ((d, c, h, hy, f, fy, qx, q, ox, oy), evs Lo2 none) (0, (if v = 0 then 2 else 3), v, m)).2 = _
          rw [rn_stp_go (yo_fin Lo2)]
          by_cases hv0 : v = 0
          · subst hv0; rfl
          · rw [if_neg hv0]; rfl
    by_cases he : a_end f_x.toNatClampNeg = 0
    · obtain ⟨m, hzm⟩ := b3.mp (by rw [← hcl]; exact he)
      have hzm1 := (hx.2.2.2.1 _ hzm).1
      have hzt := hz _ hzm
      have hem : a_endMom f_x.toNatClampNeg = lN m := by rw [hcl]; exact (hx.2.2.2.2.2 _ hzm).2
      rw [hzm] at hT
      have hT2 : RES = (stp 10 a b ((d, c, h, hy, f, fy, qx, q, ox, oy), evs Lo none) (0, 2, 0, m)).2 := hT
      rw [rn_stp_go (yo_fin Lo)] at hT2
      have hT3 : RES = evs Lo none ++ ems m (hc 10 b (tim m) true (d, c, h, hy, f, fy, qx, q, ox, oy)).2 := hT2
      refine br_t he (br_f (by decide) ⟨hin, br_t he (br_t rfl ⟨hin, ?_⟩)⟩)
      rw [hem]
      refine yw_put hp hat hnow ht hzm1 hY (by omega) (fun _ va2 mm2 cn2 g1 g2 => h351 _ va2 mm2 cn2 g1 (g2 xq hpx _ _ hx) (yb_trans hF g2) (by simp; omega) (fun y => by rw [hzm] at y; simp at y) (fun v m' y => ?_)) (fun y => absurd hzt y)
      rw [hzm] at y
      cases y
      rw [hT3, yo_snoc]
      simp [ems, hc]
    · refine br_f he ⟨hin, br_f he ?_⟩
      have hne : ∀ m, z ≠ some (0, m) := fun m y => he (by rw [hcl]; exact b3.mpr ⟨m, y⟩)
      refine h351 Lo va mm cn hY hx hF (by omega) (fun y => ?_) (fun v m y => ?_)
      · rw [hT, y]; rfl
      · have hv0 : v ≠ 0 := fun w => hne m (by rw [y, w])
        rw [hT, y, if_neg hv0]
        show _ = (stp 10 a b ((d, c, h, hy, f, fy, qx, q, ox, oy), evs Lo none) (0, (if v = 0 then 2 else 3), v, m)).2
        rw [rn_stp_go (yo_fin Lo), if_neg hv0]; rfl
  | cons x r ih =>
    intro i c sum last Lo va mm cn hr hiL hLo hY hx hF hT 
    have hxi : L[i]? = some x := by rw [← List.head?_drop, hr]; rfl
    have hil := yb_idx hxi
    have hr' : L.drop (i + 1) = r := by rw [← List.drop_drop, hr]; rfl
    have hxt := hL x (List.mem_of_getElem? hxi)
    have hxm := (hx.2.2.1 i x hxi).2.2
    refine yo_head hxq hfx hx hxi (fun sm hsm => ?_)
    rw [yo_tgc, List.foldl_cons, yo_item] at hT
    refine br_f (by decide) ?_
    refine br_f (by decide) ?_
    refine nm_e (nm_r (nI_1 c) (br_f (by decide) ?_))
    refine br_f (by decide) ?_
    refine br_f (by decide) ?_
    refine br_f (by decide) ?_
    refine br_f (by decide) ?_
    refine br_f (by decide) ?_
    refine br_f (by decide) (nm_r (nI_1 i) ?_)
    refine ih (i + 1) (c + 1) (sum + x.1) last Lo va mm cn hr' (by omega) (by omega) hY hx hF ?_ 
    have e : hi 10 b (tim x.2) true x.1 (d, c, h, hy, f, fy, qx, q, ox, oy) = ((d, c + 1, h, hy, f, fy, qx, q, ox, oy), []) := rfl
    rw [e] at hT
    simpa [ems] using hT
theorem yo_loop13 {post : SY → Prop} {p xq t : Nat} {a b : Int32} {L : List (Int32 × Nat)} {z : Option (Int32 × Nat)} {RES : List Ev} {d : Nat} {hy : Int32} {fy qx ox oy : Bool} {q : List (Int32 × Nat)} (hp : p < 9) (hxq : xq < 9) (hpx : xq ≠ p) (hat : f_at = nI p) (hfx : f_x = nI xq) (hnow : f_now = nI t) (ht : t ≤ 200) (hL : ∀ x ∈ L, tim x.2 ≤ t) (hz : ∀ w, z = some w → tim w.2 ≤ t) (hL250 : L.length ≤ 250) {c : Nat}
    (K : ∀ va mm cn en em L' z', YA va mm cn en em p L' z' → evs L' z' = RES → YF p a_val a_mom a_cnt a_end a_endMom va mm cn en em → L'.length ≤ L.length + 1 → post (f_stages, f_heard, f_now, f_calls, f_parts, f_start, f_at, f_nextX, f_nextY, f_x, f_y, a_kind, a_opA, a_opB, a_heardBy, a_what, a_said, a_when, a_over, a_part, a_first, a_second, a_user, a_goStage, a_goStep, a_done, va, mm, cn, en, em, a_begun, a_status, a_stageOf, a_began, a_taken, a_demand, a_asked, a_code, a_waits, a_waiting, a_came, a_given, a_got)) :
    ∀ (r : List (Int32 × Nat)) (i : Nat) (h : Int32) (f : Bool) (sum : Int32) (nn : Int32) (last : Int64) (Lo : List (Int32 × Nat)) (va : Nat → Int32) (mm : Nat → Int64) (cn : Nat → Int32), L.drop i = r → i ≤ L.length → Lo.length ≤ i → YA va mm cn a_end a_endMom p Lo none → YA va mm cn a_end a_endMom xq L z → YF p a_val a_mom a_cnt a_end a_endMom va mm cn a_end a_endMom → RES = ((tg 0 (evs r z)).foldl (stp 13 a b) ((d, c, h, hy, f, fy, qx, q, ox, oy), evs Lo none)).2 → (f = false → last = -1) → (f = true → ∃ ml, last = lN ml ∧ ml < 1000000000000000 ∧ h = nI (tim ml)) → wY_one_13 post (nI 13) b (r.length + 1) sum nn last (nI i) f_stages f_heard f_now f_calls f_parts f_start f_at f_nextX f_nextY f_x f_y a_kind a_opA a_opB a_heardBy a_what a_said a_when a_over a_part a_first a_second a_user a_goStage a_goStep a_done (va) (mm) (cn) a_end a_endMom a_begun a_status a_stageOf a_began a_taken a_demand a_asked a_code a_waits a_waiting a_came a_given a_got := by
  have hcl : f_x.toNatClampNeg = xq := by rw [hfx]; exact nI_clamp (by omega)
  have hin : vp_in f_x 9 := by rw [hfx]; exact vp_in_nI hxq (by decide)
  intro r
  induction r with
  | nil =>
    intro i h f sum nn last Lo va mm cn hr hiL hLo hY hx hF hT hv1 hv2
    have hiL2 : L.length ≤ i := List.drop_eq_nil_iff.mp hr
    obtain ⟨b1, b2, b3⟩ := yb_m1 hx.2.2.2.1 hx.2.2.2.2.1 (fun w hw => (hx.2.2.2.2.2 w hw).1)
    refine ⟨hin, br_t (by rw [hcl, hx.1]; exact nI_le hiL2 (by omega)) ⟨hin, ?_⟩⟩
    have goon : wY_one_318 post (nI 13) nn f_stages f_heard f_now f_calls f_parts f_start f_at f_nextX f_nextY f_x f_y a_kind a_opA a_opB a_heardBy a_what a_said a_when a_over a_part a_first a_second a_user a_goStage a_goStep a_done (va) (mm) (cn) a_end a_endMom a_begun a_status a_stageOf a_began a_taken a_demand a_asked a_code a_waits a_waiting a_came a_given a_got := by
      have h351 : wY_one_351 post f_stages f_heard f_now f_calls f_parts f_start f_at f_nextX f_nextY f_x f_y a_kind a_opA a_opB a_heardBy a_what a_said a_when a_over a_part a_first a_second a_user a_goStage a_goStep a_done (va) (mm) (cn) a_end a_endMom a_begun a_status a_stageOf a_began a_taken a_demand a_asked a_code a_waits a_waiting a_came a_given a_got := yo_fin1 (k := 13) (a := a) (b := b) (S := (d, c, h, hy, f, fy, qx, q, ox, oy)) hp hxq hat hfx hnow ht hx hz hY hF (fun v m hv => ?_) (fun en em z' h1 h2 h3 => K va mm cn en em Lo z' h1 (h2.trans hT.symm) h3 (by omega))
      · refine ⟨hin, ?_⟩
        by_cases he : a_end f_x.toNatClampNeg = 0
        · exact br_t he (br_f (by decide) h351)
        · exact br_f he h351
      · rw [rn_stp_go (yo_fin Lo)]
        by_cases hv0 : v = 0
        · subst hv0; rfl
        · rw [if_neg hv0]; rfl
    by_cases he : a_end f_x.toNatClampNeg = 0
    · exact br_t he (br_f (by decide) goon)
    · exact br_f he goon
  | cons x r ih =>
    intro i h f sum nn last Lo va mm cn hr hiL hLo hY hx hF hT hv1 hv2
    have hxi : L[i]? = some x := by rw [← List.head?_drop, hr]; rfl
    have hil := yb_idx hxi
    have hr' : L.drop (i + 1) = r := by rw [← List.drop_drop, hr]; rfl
    have hxt := hL x (List.mem_of_getElem? hxi)
    have hxm := (hx.2.2.1 i x hxi).2.2
    refine yo_head hxq hfx hx hxi (fun sm hsm => ?_)
    rw [yo_tgc, List.foldl_cons, yo_item] at hT
    refine br_f (by decide) ?_
    refine br_f (by decide) ?_
    refine nm_e (nm_e (br_f (by decide) ?_))
    refine br_f (by decide) ?_
    refine br_f (by decide) ?_
    refine br_f (by decide) ?_
    refine br_f (by decide) ?_
    refine br_f (by decide) ?_
    have hgo : ¬ (f = true ∧ nI (tim x.2) - h < b) → wY_one_263 post (wY_one_13 post (nI 13) b (r.length + 1)) (nI 13) b (sum + x.1) (nn + 1) (nI i) x.1 (lN x.2) f_stages f_heard f_now f_calls f_parts f_start f_at f_nextX f_nextY f_x f_y a_kind a_opA a_opB a_heardBy a_what a_said a_when a_over a_part a_first a_second a_user a_goStage a_goStep a_done (va) (mm) (cn) a_end a_endMom a_begun a_status a_stageOf a_began a_taken a_demand a_asked a_code a_waits a_waiting a_came a_given a_got := by
      intro hv
      refine yw_put hp hat hnow ht hxm hY (by omega) (fun _ va2 mm2 cn2 g1 g2 => ?_) (fun y => absurd hxt y)
      refine nm_r (nI_1 i) ?_
      refine ih (i + 1) (nI (tim x.2)) true (sum + x.1) (nn + 1) (lN x.2) (Lo ++ [(x.1, x.2)]) va2 mm2 cn2 hr' (by omega) (by simp; omega) g1 (g2 xq hpx _ _ hx) (yb_trans hF g2) ?_ (fun y => absurd y (by decide)) (fun _ => ⟨x.2, rfl, hxm, rfl⟩)
      have e : hi 13 b (tim x.2) true x.1 (d, c, h, hy, f, fy, qx, q, ox, oy) = ((d, c, nI (tim x.2), hy, true, fy, qx, q, ox, oy), [(1, x.1)]) := by simp only [hi, if_neg hv]
      rw [e] at hT
      rw [yo_snoc]; exact hT
    refine br_t rfl ?_
    rcases Bool.eq_false_or_eq_true f with hf | hf
    · obtain ⟨ml, e1, e2, e3⟩ := hv2 hf
      rw [e1]
      refine br_f (by rw [show (0 : Int64) = lN 0 from by decide, pk_lLT (by omega) (by decide)]; omega) ?_
      show (_ → _) ∧ (_ → _)
      rw [ts_time (by omega), ts_time (by omega)]
      by_cases hv : nI (tim x.2) - h < b
      · refine br_t (by rw [← e3]; exact hv) (nm_r (nI_1 i) ?_)
        rw [← e1]
        refine ih (i + 1) h f (sum + x.1) (nn + 1) last Lo va mm cn hr' (by omega) (by omega) hY hx hF ?_ hv1 hv2
        have e : hi 13 b (tim x.2) true x.1 (d, c, h, hy, f, fy, qx, q, ox, oy) = ((d, c, h, hy, f, fy, qx, q, ox, oy), []) := by simp only [hi, if_pos (And.intro hf hv)]
        rw [e] at hT
        simpa [ems] using hT
      · exact br_f (by rw [← e3]; exact hv) (hgo (fun y => hv y.2))
    · rw [hv1 hf]
      exact br_t (by decide) (hgo (fun y => by rw [hf] at y; exact absurd y.1 (by decide)))
end
end
section
/-! ===== the reference: one whole, chain ===== -/
section
variable {f_stages : Int32} {f_heard : Int32} {f_now : Int32} {f_calls : Int64} {f_parts : Int32} {f_start : Int64} {f_at : Int32} {f_nextX : Int32} {f_nextY : Int32} {f_x : Int32} {f_y : Int32} {a_kind : (Nat → Int32)} {a_opA : (Nat → Int32)} {a_opB : (Nat → Int32)} {a_heardBy : (Nat → Int32)} {a_what : (Nat → Int32)} {a_said : (Nat → Int32)} {a_when : (Nat → Int64)} {a_over : (Nat → Int32)} {a_part : (Nat → Int32)} {a_first : (Nat → Int32)} {a_second : (Nat → Int32)} {a_user : (Nat → Int32)} {a_goStage : (Nat → Int32)} {a_goStep : (Nat → Int32)} {a_done : (Nat → Int32)} {a_val : (Nat → Int32)} {a_mom : (Nat → Int64)} {a_cnt : (Nat → Int32)} {a_end : (Nat → Int32)} {a_endMom : (Nat → Int64)} {a_begun : (Nat → Int32)} {a_status : (Nat → Int32)} {a_stageOf : (Nat → Int32)} {a_began : (Nat → Int64)} {a_taken : (Nat → Int32)} {a_demand : (Nat → Int64)} {a_asked : (Nat → Int32)} {a_code : (Nat → Int32)} {a_waits : (Nat → Int32)} {a_waiting : (Nat → Int32)} {a_came : (Nat → Int32)} {a_given : (Nat → Int32)} {a_got : (Nat → Int64)}
theorem yc_one {post : SY → Prop} {p xq t k fr c : Nat} {a b : Int32} {lg : List Lg} {L : List (Int32 × Nat)} {z : Option (Int32 × Nat)} {Hy : List Ev} (hp : p < 9) (hxq : xq < 9) (hpx : xq ≠ p) (hat : f_at = nI p) (hfx : f_x = nI xq) (hnow : f_now = nI t) (ht : t ≤ 200) (hL : ∀ x ∈ L, tim x.2 ≤ t) (hz : ∀ w, z = some w → tim w.2 ≤ t) (hL250 : L.length ≤ 250)
    (ho : opk k a b) (h3 : 3 ≤ k) (h13 : k ≤ 10 ∨ k = 13) (hY : YA a_val a_mom a_cnt a_end a_endMom p [] none) (hx : YA a_val a_mom a_cnt a_end a_endMom xq L z)
    (K : ∀ va mm cn en em L' z', YA va mm cn en em p L' z' → evs L' z' = (RR k a b p fr lg c (evs L z) Hy).2 → YF p a_val a_mom a_cnt a_end a_endMom va mm cn en em → L'.length ≤ L.length + 1 → post (f_stages, f_heard, f_now, f_calls, f_parts, f_start, f_at, f_nextX, f_nextY, f_x, f_y, a_kind, a_opA, a_opB, a_heardBy, a_what, a_said, a_when, a_over, a_part, a_first, a_second, a_user, a_goStage, a_goStep, a_done, va, mm, cn, en, em, a_begun, a_status, a_stageOf, a_began, a_taken, a_demand, a_asked, a_code, a_waits, a_waiting, a_came, a_given, a_got)) :
    wpY_one post (f_stages, f_heard, f_now, f_calls, f_parts, f_start, f_at, f_nextX, f_nextY, f_x, f_y, a_kind, a_opA, a_opB, a_heardBy, a_what, a_said, a_when, a_over, a_part, a_first, a_second, a_user, a_goStage, a_goStep, a_done, a_val, a_mom, a_cnt, a_end, a_endMom, a_begun, a_status, a_stageOf, a_began, a_taken, a_demand, a_asked, a_code, a_waits, a_waiting, a_came, a_given, a_got) (nI k) b := by
  have hRR : (RR k a b p fr lg c (evs L z) Hy).2 = ((tg 0 (evs L z)).foldl (stp k a b) (ini k a b (tim fr), evs [] none)).2 := by
    unfold RR
    rw [if_neg (by omega), if_neg (by omega)]
    unfold inp
    have ht : ¬ tmd k = true := by simp only [tmd, Bool.or_eq_true, beq_iff_eq]; omega
    rw [if_neg (by omega), if_neg (by omega), if_pos (by omega), if_neg ht]
    rfl
  have hkk : k = 3 ∨ k = 4 ∨ k = 5 ∨ k = 6 ∨ k = 7 ∨ k = 8 ∨ k = 9 ∨ k = 10 ∨ k = 13 := by omega
  refine ⟨L.length + 1, ?_⟩
  obtain ⟨o20, o0, o1, o6, o7, o9, o11⟩ := ho
  rcases hkk with e | e | e | e | e | e | e | e | e <;> subst e
  · exact yo_loop3 hp hxq hpx hat hfx hnow ht hL hz hL250 K L 0 0 0 (-1) [] a_val a_mom a_cnt rfl (Nat.zero_le _) (Nat.le_refl _) hY hx yb_refl hRR 
  · exact yo_loop4 hp hxq hpx hat hfx hnow ht hL hz hL250 K L 0 0 0 (-1) [] a_val a_mom a_cnt rfl (Nat.zero_le _) (Nat.le_refl _) hY hx yb_refl hRR 
  · exact yo_loop5 hp hxq hpx hat hfx hnow ht hL hz hL250 K L 0 b 0 0 (-1) [] a_val a_mom a_cnt rfl (Nat.zero_le _) (Nat.le_refl _) hY hx yb_refl hRR (by rw [Int32.add_zero])
  · exact yo_loop6 hp hxq hpx hat hfx hnow ht hL hz hL250 (o6 rfl) K L 0 0 0 (-1) [] a_val a_mom a_cnt rfl (Nat.zero_le _) (Nat.le_refl _) hY hx yb_refl hRR (by have := o6 rfl; omega)
  · exact yo_loop7 hp hxq hpx hat hfx hnow ht hL hz hL250 (o7 rfl) K L 0 0 0 (-1) [] a_val a_mom a_cnt rfl (Nat.zero_le _) (Nat.le_refl _) hY hx yb_refl hRR (by omega) (fun _ => rfl) (Nat.zero_le _)
  · exact yo_loop8 hp hxq hpx hat hfx hnow ht hL hz hL250 K L 0 0 false 0 0 (-1) [] a_val a_mom a_cnt rfl (Nat.zero_le _) (Nat.le_refl _) hY hx yb_refl hRR (fun y => absurd y (by decide)) (fun y => by omega)
  · exact yo_loop9 hp hxq hpx hat hfx hnow ht hL hz hL250 (o9 rfl) K L 0 0 0 (-1) [] a_val a_mom a_cnt rfl (Nat.zero_le _) (Nat.le_refl _) hY hx yb_refl hRR (by have := o9 rfl; omega)
  · exact yo_loop10 hp hxq hpx hat hfx hnow ht hL hz hL250 K L 0 0 0 (-1) [] a_val a_mom a_cnt rfl (Nat.zero_le _) (Nat.le_refl _) hY hx yb_refl hRR 
  · exact yo_loop13 hp hxq hpx hat hfx hnow ht hL hz hL250 K L 0 0 false 0 0 (-1) [] a_val a_mom a_cnt rfl (Nat.zero_le _) (Nat.le_refl _) hY hx yb_refl hRR (fun _ => rfl) (fun y => absurd y (by decide))
/-- an item passes a chain -/
theorem yc_citem {k : Nat} {a b : Int32} {S : PSt} {Lo : List (Int32 × Nat)} {v : Int32} {m s : Nat} (hk : k = 19 ∨ k = 20) (hs : s < 2) : stp k a b (S, evs Lo none) (s, 1, v, m) = (S, evs (Lo ++ [(v, m)]) none) := by
  rw [rn_stp_go (yo_fin Lo), yo_snoc]
  obtain ⟨d, c, h, hy, f, fy, qx, q, ox, oy⟩ := S
  unfold rsp
  rw [if_neg (by show ¬ s = 2; omega)]
  rcases hk with e | e <;> subst e <;> rfl
theorem yc_tg1 (x : Int32 × Nat) (r : List (Int32 × Nat)) (z : Option (Int32 × Nat)) : tg 1 (evs (x :: r) z) = (1, 1, x.1, x.2) :: tg 1 (evs r z) := by simp [evs, tg]
theorem yc_y {post : SY → Prop} {p yq t k : Nat} {a b : Int32} {L Lx : List (Int32 × Nat)} {z : Option (Int32 × Nat)} {RES : List Ev} {S : PSt} (hk : k = 19 ∨ k = 20) (hp : p < 9) (hyq : yq < 9) (hpy : yq ≠ p) (hat : f_at = nI p) (hfy : f_y = nI yq) (hnow : f_now = nI t) (ht : t ≤ 200) (hL : ∀ x ∈ L, tim x.2 ≤ t) (hz : ∀ w, z = some w → tim w.2 ≤ t) (hL250 : Lx.length + L.length ≤ 250)
    (K : ∀ va mm cn en em L' z', YA va mm cn en em p L' z' → evs L' z' = RES → YF p a_val a_mom a_cnt a_end a_endMom va mm cn en em → L'.length ≤ Lx.length + L.length → post (f_stages, f_heard, f_now, f_calls, f_parts, f_start, f_at, f_nextX, f_nextY, f_x, f_y, a_kind, a_opA, a_opB, a_heardBy, a_what, a_said, a_when, a_over, a_part, a_first, a_second, a_user, a_goStage, a_goStep, a_done, va, mm, cn, en, em, a_begun, a_status, a_stageOf, a_began, a_taken, a_demand, a_asked, a_code, a_waits, a_waiting, a_came, a_given, a_got)) :
    ∀ (r : List (Int32 × Nat)) (i : Nat) (Lo : List (Int32 × Nat)) (va : Nat → Int32) (mm : Nat → Int64) (cn : Nat → Int32), L.drop i = r → i ≤ L.length → Lo.length = Lx.length + i → YA va mm cn a_end a_endMom p Lo none → YA va mm cn a_end a_endMom yq L z → YF p a_val a_mom a_cnt a_end a_endMom va mm cn a_end a_endMom → RES = ((tg 1 (evs r z)).foldl (stp k a b) (S, evs Lo none)).2 → wY_chain_112 post (r.length + 1) (nI i) f_stages f_heard f_now f_calls f_parts f_start f_at f_nextX f_nextY f_x f_y a_kind a_opA a_opB a_heardBy a_what a_said a_when a_over a_part a_first a_second a_user a_goStage a_goStep a_done (va) (mm) (cn) a_end a_endMom a_begun a_status a_stageOf a_began a_taken a_demand a_asked a_code a_waits a_waiting a_came a_given a_got := by
  have hcl : f_y.toNatClampNeg = yq := by rw [hfy]; exact nI_clamp (by omega)
  have hin : vp_in f_y 9 := by rw [hfy]; exact vp_in_nI hyq (by decide)
  intro r
  induction r with
  | nil =>
    intro i Lo va mm cn hr hiL hLo hY hx hF hT
    have hiL2 : L.length ≤ i := List.drop_eq_nil_iff.mp hr
    obtain ⟨b1, b2, b3⟩ := yb_m1 hx.2.2.2.1 hx.2.2.2.2.1 (fun w hw => (hx.2.2.2.2.2 w hw).1)
    refine ⟨hin, br_t (by rw [hcl, hx.1]; exact nI_le hiL2 (by omega)) ⟨hin, ?_⟩⟩
    cases z with
    | none => exact br_t (by rw [hcl]; exact b1.mpr rfl) (K va mm cn a_end a_endMom Lo none hY hT.symm hF (by omega))
    | some w =>
      obtain ⟨v, m⟩ := w
      obtain ⟨hm1, j, hj, ej⟩ := hx.2.2.2.1 (v, m) rfl
      have he := hx.2.2.2.2.2 (v, m) rfl
      refine br_f (by rw [hcl]; exact fun y => by have := b1.mp y; simp at this) ⟨hin, hin, ?_⟩
      rw [show a_end f_y.toNatClampNeg = v from by rw [hcl]; exact he.1, show a_endMom f_y.toNatClampNeg = lN m from by rw [hcl]; exact he.2]
      refine yw_stop hp hat hnow ht hm1 hj ej hY (fun _ en em h1 h2 => K va mm cn en em Lo (some (v, m)) h1 ?_ (yb_trans hF h2) (by omega)) (fun y => absurd (hz _ rfl) y)
      have hT2 : RES = (stp k a b (S, evs Lo none) (1, (if v = 0 then 2 else 3), v, m)).2 := hT
      rw [hT2, rn_stp_go (yo_fin Lo), yo_end]
      obtain ⟨d, c, h, hy, f, fy, qx, q, ox, oy⟩ := S
      by_cases hv0 : v = 0
      · subst hv0
        rcases hk with e | e <;> subst e <;> rfl
      · rw [if_neg hv0]
        rcases hk with e | e <;> subst e <;> rfl
  | cons x r ih =>
    intro i Lo va mm cn hr hiL hLo hY hx hF hT
    have hxi : L[i]? = some x := by rw [← List.head?_drop, hr]; rfl
    have hil := yb_idx hxi
    have hr' : L.drop (i + 1) = r := by rw [← List.drop_drop, hr]; rfl
    have hxt := hL x (List.mem_of_getElem? hxi)
    have hxm := (hx.2.2.1 i x hxi).2.2
    rw [yc_tg1, List.foldl_cons, yc_citem hk (by decide)] at hT
    refine ⟨hin, br_f (by rw [hcl, hx.1]; exact nI_ge hil (by omega)) ?_⟩
    rw [hfy]
    refine yw_word (f_y := nI yq) hyq hx hxi (yw_of (f_y := nI yq) hyq hx hxi ?_)
    rw [← hfy]
    refine yw_put hp hat hnow ht hxm hY (by omega) (fun _ va2 mm2 cn2 g1 g2 => nm_r (nI_1 i) ?_) (fun y => absurd hxt y)
    exact ih (i + 1) (Lo ++ [(x.1, x.2)]) va2 mm2 cn2 hr' (by omega) (by simp; omega) g1 (g2 yq hpy _ _ hx) (yb_trans hF g2) hT
theorem yc_x {post : SY → Prop} {p xq yq t k : Nat} {a b : Int32} {L Ly : List (Int32 × Nat)} {z zy : Option (Int32 × Nat)} {RES : List Ev} {S : PSt} (hk : k = 19 ∨ k = 20) (hp : p < 9) (hxq : xq < 9) (hyq : yq < 9) (hpx : xq ≠ p) (hpy : yq ≠ p) (hat : f_at = nI p) (hfx : f_x = nI xq) (hfy : f_y = nI yq) (hnow : f_now = nI t) (ht : t ≤ 200) (hL : ∀ x ∈ L, tim x.2 ≤ t) (hz : ∀ w, z = some w → tim w.2 ≤ t) (hLy : ∀ x ∈ Ly, tim x.2 ≤ t) (hzy : ∀ w, zy = some w → tim w.2 ≤ t) (hL250 : L.length + Ly.length ≤ 250) (hyn : z = none → Ly = [] ∧ zy = none)
    (K : ∀ va mm cn en em L' z', YA va mm cn en em p L' z' → evs L' z' = RES → YF p a_val a_mom a_cnt a_end a_endMom va mm cn en em → L'.length ≤ L.length + Ly.length → post (f_stages, f_heard, f_now, f_calls, f_parts, f_start, f_at, f_nextX, f_nextY, f_x, f_y, a_kind, a_opA, a_opB, a_heardBy, a_what, a_said, a_when, a_over, a_part, a_first, a_second, a_user, a_goStage, a_goStep, a_done, va, mm, cn, en, em, a_begun, a_status, a_stageOf, a_began, a_taken, a_demand, a_asked, a_code, a_waits, a_waiting, a_came, a_given, a_got)) :
    ∀ (r : List (Int32 × Nat)) (i : Nat) (Lo : List (Int32 × Nat)) (va : Nat → Int32) (mm : Nat → Int64) (cn : Nat → Int32), L.drop i = r → i ≤ L.length → Lo.length = i → YA va mm cn a_end a_endMom p Lo none → YA va mm cn a_end a_endMom xq L z → YA va mm cn a_end a_endMom yq Ly zy → YF p a_val a_mom a_cnt a_end a_endMom va mm cn a_end a_endMom → RES = ((tg 0 (evs r z) ++ tg 1 (evs Ly zy)).foldl (stp k a b) (S, evs Lo none)).2 → wY_chain_2 post (nI k) (r.length + 1) (nI i) f_stages f_heard f_now f_calls f_parts f_start f_at f_nextX f_nextY f_x f_y a_kind a_opA a_opB a_heardBy a_what a_said a_when a_over a_part a_first a_second a_user a_goStage a_goStep a_done (va) (mm) (cn) a_end a_endMom a_begun a_status a_stageOf a_began a_taken a_demand a_asked a_code a_waits a_waiting a_came a_given a_got := by
  have hcl : f_x.toNatClampNeg = xq := by rw [hfx]; exact nI_clamp (by omega)
  have hin : vp_in f_x 9 := by rw [hfx]; exact vp_in_nI hxq (by decide)
  intro r
  induction r with
  | nil =>
    intro i Lo va mm cn hr hiL hLo hY hx hy hF hT
    have hiL2 : L.length ≤ i := List.drop_eq_nil_iff.mp hr
    obtain ⟨b1, b2, b3⟩ := yb_m1 hx.2.2.2.1 hx.2.2.2.2.1 (fun w hw => (hx.2.2.2.2.2 w hw).1)
    refine ⟨hin, br_t (by rw [hcl, hx.1]; exact nI_le hiL2 (by omega)) ⟨hin, ?_⟩⟩
    cases z with
    | none =>
      obtain ⟨e1, e2⟩ := hyn rfl
      subst e1 e2
      exact br_f (by rw [hcl]; exact fun y => b2.mp y rfl) (K va mm cn a_end a_endMom Lo none hY hT.symm hF (by omega))
    | some w =>
      obtain ⟨v, m⟩ := w
      obtain ⟨hm1, j, hj, ej⟩ := hx.2.2.2.1 (v, m) rfl
      have he := hx.2.2.2.2.2 (v, m) rfl
      have hev : a_end f_x.toNatClampNeg = v := by rw [hcl]; exact he.1
      have hem : a_endMom f_x.toNatClampNeg = lN m := by rw [hcl]; exact he.2
      have hT2 : RES = ((tg 1 (evs Ly zy)).foldl (stp k a b) (stp k a b (S, evs Lo none) (0, (if v = 0 then 2 else 3), v, m))).2 := hT
      have copy : ∀ S' : PSt, stp k a b (S, evs Lo none) (0, (if v = 0 then 2 else 3), v, m) = (S', evs Lo none) → ∃ n112 : Nat, wY_chain_112 post n112 0 f_stages f_heard f_now f_calls f_parts f_start f_at f_nextX f_nextY f_x f_y a_kind a_opA a_opB a_heardBy a_what a_said a_when a_over a_part a_first a_second a_user a_goStage a_goStep a_done (va) (mm) (cn) a_end a_endMom a_begun a_status a_stageOf a_began a_taken a_demand a_asked a_code a_waits a_waiting a_came a_given a_got := by
        intro S' hS'
        rw [hS'] at hT2
        exact ⟨Ly.length + 1, yc_y hk hp hyq hpy hat hfy hnow ht hLy hzy hL250 K Ly 0 Lo va mm cn rfl (Nat.zero_le _) (by omega) hY hy hF hT2⟩
      have stopit : stp k a b (S, evs Lo none) (0, (if v = 0 then 2 else 3), v, m) = (S, evs Lo (some (v, m))) → (vp_in f_x 9 ∧ (vp_in f_x 9 ∧ (wpY_stop (fun u => match u with | (f_stages, f_heard, f_now, f_calls, f_parts, f_start, f_at, f_nextX, f_nextY, f_x, f_y, a_kind, a_opA, a_opB, a_heardBy, a_what, a_said, a_when, a_over, a_part, a_first, a_second, a_user, a_goStage, a_goStep, a_done, a_val, a_mom, a_cnt, a_end, a_endMom, a_begun, a_status, a_stageOf, a_began, a_taken, a_demand, a_asked, a_code, a_waits, a_waiting, a_came, a_given, a_got) => (post (f_stages, f_heard, f_now, f_calls, f_parts, f_start, f_at, f_nextX, f_nextY, f_x, f_y, a_kind, a_opA, a_opB, a_heardBy, a_what, a_said, a_when, a_over, a_part, a_first, a_second, a_user, a_goStage, a_goStep, a_done, a_val, a_mom, a_cnt, a_end, a_endMom, a_begun, a_status, a_stageOf, a_began, a_taken, a_demand, a_asked, a_code, a_waits, a_waiting, a_came, a_given, a_got))) (f_stages, f_heard, f_now, f_calls, f_parts, f_start, f_at, f_nextX, f_nextY, f_x, f_y, a_kind, a_opA, a_opB, a_heardBy, a_what, a_said, a_when, a_over, a_part, a_first, a_second, a_user, a_goStage, a_goStep, a_done, va, mm, cn, a_end, a_endMom, a_begun, a_status, a_stageOf, a_began, a_taken, a_demand, a_asked, a_code, a_waits, a_waiting, a_came, a_given, a_got) (a_end f_x.toNatClampNeg) (a_endMom f_x.toNatClampNeg)))) := by
        intro hS'
        rw [hS', rn_fold_fin _ _ (by rw [yo_end, rn_fin_app]; by_cases hv0 : v = 0 <;> simp [fin, hv0])] at hT2
        refine ⟨hin, hin, ?_⟩
        rw [hev, hem]
        exact yw_stop hp hat hnow ht hm1 hj ej hY (fun _ en em h1 h2 => K va mm cn en em Lo (some (v, m)) h1 hT2.symm (yb_trans hF h2) (by omega)) (fun y => absurd (hz _ rfl) y)
      refine br_t (by rw [hev, show v = nI j from ej]; exact nI_pos' (by omega)) ⟨hin, ?_⟩
      obtain ⟨d, c, h, hyy, f, fy, qx, q, ox, oy⟩ := S
      by_cases hv0 : v = 0
      · subst hv0
        refine br_t hev ?_
        rcases hk with e | e
        · subst e
          refine br_t rfl (br_t rfl ?_)
          refine copy (d, c, h, hyy, f, fy, qx, q, true, oy) ?_
          rw [rn_stp_go (yo_fin Lo)]
          show ((d, c, h, hyy, f, fy, qx, q, true, oy), evs Lo none ++ []) = _
          rw [List.append_nil]
        · subst e
          refine br_f (by decide) (br_f (by decide) (stopit ?_))
          rw [rn_stp_go (yo_fin Lo), yo_end]
          rfl
      · refine br_f (by rw [hev]; exact hv0) ?_
        rcases hk with e | e
        · subst e
          refine br_t rfl (br_f (by decide) (stopit ?_))
          rw [rn_stp_go (yo_fin Lo), yo_end, if_neg hv0]
          rfl
        · subst e
          refine br_f (by decide) (br_t rfl ?_)
          refine copy (d, c, h, hyy, f, fy, qx, q, true, oy) ?_
          rw [rn_stp_go (yo_fin Lo), if_neg hv0]
          show ((d, c, h, hyy, f, fy, qx, q, true, oy), evs Lo none ++ []) = _
          rw [List.append_nil]
  | cons x r ih =>
    intro i Lo va mm cn hr hiL hLo hY hx hy hF hT
    have hxi : L[i]? = some x := by rw [← List.head?_drop, hr]; rfl
    have hil := yb_idx hxi
    have hr' : L.drop (i + 1) = r := by rw [← List.drop_drop, hr]; rfl
    have hxt := hL x (List.mem_of_getElem? hxi)
    have hxm := (hx.2.2.1 i x hxi).2.2
    rw [yo_tgc, List.cons_append, List.foldl_cons, yc_citem hk (by decide)] at hT
    refine ⟨hin, br_f (by rw [hcl, hx.1]; exact nI_ge hil (by omega)) ?_⟩
    rw [hfx]
    refine yw_word (f_x := nI xq) hxq hx hxi (yw_of (f_x := nI xq) hxq hx hxi ?_)
    rw [← hfx]
    refine yw_put hp hat hnow ht hxm hY (by omega) (fun _ va2 mm2 cn2 g1 g2 => nm_r (nI_1 i) ?_) (fun y => absurd hxt y)
    exact ih (i + 1) (Lo ++ [(x.1, x.2)]) va2 mm2 cn2 hr' (by omega) (by simp; omega) g1 (g2 xq hpx _ _ hx) (g2 yq hpy _ _ hy) (yb_trans hF g2) hT
theorem yc_chain {post : SY → Prop} {p xq yq t k fr c : Nat} {a b : Int32} {lg : List Lg} {L Ly : List (Int32 × Nat)} {z zy : Option (Int32 × Nat)} (hk : k = 19 ∨ k = 20) (hp : p < 9) (hxq : xq < 9) (hyq : yq < 9) (hpx : xq ≠ p) (hpy : yq ≠ p) (hat : f_at = nI p) (hfx : f_x = nI xq) (hfy : f_y = nI yq) (hnow : f_now = nI t) (ht : t ≤ 200) (hL : ∀ x ∈ L, tim x.2 ≤ t) (hz : ∀ w, z = some w → tim w.2 ≤ t) (hLy : ∀ x ∈ Ly, tim x.2 ≤ t) (hzy : ∀ w, zy = some w → tim w.2 ≤ t) (hL250 : L.length + Ly.length ≤ 250) (hyn : z = none → Ly = [] ∧ zy = none)
    (hY : YA a_val a_mom a_cnt a_end a_endMom p [] none) (hx : YA a_val a_mom a_cnt a_end a_endMom xq L z) (hy : YA a_val a_mom a_cnt a_end a_endMom yq Ly zy)
    (K : ∀ va mm cn en em L' z', YA va mm cn en em p L' z' → evs L' z' = (RR k a b p fr lg c (evs L z) (evs Ly zy)).2 → YF p a_val a_mom a_cnt a_end a_endMom va mm cn en em → L'.length ≤ L.length + Ly.length → post (f_stages, f_heard, f_now, f_calls, f_parts, f_start, f_at, f_nextX, f_nextY, f_x, f_y, a_kind, a_opA, a_opB, a_heardBy, a_what, a_said, a_when, a_over, a_part, a_first, a_second, a_user, a_goStage, a_goStep, a_done, va, mm, cn, en, em, a_begun, a_status, a_stageOf, a_began, a_taken, a_demand, a_asked, a_code, a_waits, a_waiting, a_came, a_given, a_got)) :
    wpY_chain post (f_stages, f_heard, f_now, f_calls, f_parts, f_start, f_at, f_nextX, f_nextY, f_x, f_y, a_kind, a_opA, a_opB, a_heardBy, a_what, a_said, a_when, a_over, a_part, a_first, a_second, a_user, a_goStage, a_goStep, a_done, a_val, a_mom, a_cnt, a_end, a_endMom, a_begun, a_status, a_stageOf, a_began, a_taken, a_demand, a_asked, a_code, a_waits, a_waiting, a_came, a_given, a_got) (nI k) := by
  refine ⟨L.length + 1, yc_x (a := a) (b := b) (S := ini k a b (tim fr)) hk hp hxq hyq hpx hpy hat hfx hfy hnow ht hL hz hLy hzy hL250 hyn K L 0 [] a_val a_mom a_cnt rfl (Nat.zero_le _) rfl hY hx hy yb_refl ?_⟩
  unfold RR
  rw [if_neg (by omega), if_neg (by omega)]
  unfold inp
  rw [if_neg (by omega), if_neg (by omega), if_neg (by omega), if_neg (by omega)]
  rfl
end
end
section
/-! ===== the reference: source, interval, just ===== -/
def YL (hb wh sa : Nat → Int32) (wn : Nat → Int64) (LG : List Lg) : Prop := ∀ h g, LG[h]? = some g → hb h = nI g.1 ∧ wh h = nI g.2.1 ∧ sa h = g.2.2.1 ∧ wn h = lN g.2.2.2 ∧ g.1 < 3 ∧ g.2.1 ≤ 2 ∧ g.2.2.2 < 900000000000000 ∧ (g.2.1 = 1 → g.2.2.1 = 0) ∧ (g.2.1 = 2 → ∃ j : Nat, 1 ≤ j ∧ j ≤ 9 ∧ g.2.2.1 = nI j)
section
variable {f_stages : Int32} {f_heard : Int32} {f_now : Int32} {f_calls : Int64} {f_parts : Int32} {f_start : Int64} {f_at : Int32} {f_nextX : Int32} {f_nextY : Int32} {f_x : Int32} {f_y : Int32} {a_kind : (Nat → Int32)} {a_opA : (Nat → Int32)} {a_opB : (Nat → Int32)} {a_heardBy : (Nat → Int32)} {a_what : (Nat → Int32)} {a_said : (Nat → Int32)} {a_when : (Nat → Int64)} {a_over : (Nat → Int32)} {a_part : (Nat → Int32)} {a_first : (Nat → Int32)} {a_second : (Nat → Int32)} {a_user : (Nat → Int32)} {a_goStage : (Nat → Int32)} {a_goStep : (Nat → Int32)} {a_done : (Nat → Int32)} {a_val : (Nat → Int32)} {a_mom : (Nat → Int64)} {a_cnt : (Nat → Int32)} {a_end : (Nat → Int32)} {a_endMom : (Nat → Int64)} {a_begun : (Nat → Int32)} {a_status : (Nat → Int32)} {a_stageOf : (Nat → Int32)} {a_began : (Nat → Int64)} {a_taken : (Nat → Int32)} {a_demand : (Nat → Int64)} {a_asked : (Nat → Int32)} {a_code : (Nat → Int32)} {a_waits : (Nat → Int32)} {a_waiting : (Nat → Int32)} {a_came : (Nat → Int32)} {a_given : (Nat → Int32)} {a_got : (Nat → Int64)}
theorem yl_src {post : SY → Prop} {p t s fr : Nat} {LG : List Lg} {RES : List Ev} (hp : p < 9) (hat : f_at = nI p) (hnow : f_now = nI t) (ht : t ≤ 200) (hs : s < 3) (hfr : fr < 1000000000000000) (hh : f_heard = nI LG.length) (h32 : LG.length ≤ 32) (hLG : YL a_heardBy a_what a_said a_when LG) (htim : ∀ g ∈ LG, tim (g.2.2.2 + p + 1) ≤ t)
    (K : ∀ va mm cn en em L' z', YA va mm cn en em p L' z' → evs L' z' = RES → YF p a_val a_mom a_cnt a_end a_endMom va mm cn en em → L'.length ≤ 32 → post (f_stages, f_heard, f_now, f_calls, f_parts, f_start, f_at, f_nextX, f_nextY, f_x, f_y, a_kind, a_opA, a_opB, a_heardBy, a_what, a_said, a_when, a_over, a_part, a_first, a_second, a_user, a_goStage, a_goStep, a_done, va, mm, cn, en, em, a_begun, a_status, a_stageOf, a_began, a_taken, a_demand, a_asked, a_code, a_waits, a_waiting, a_came, a_given, a_got)) :
    ∀ (r : List Lg) (i : Nat) (Lo : List (Int32 × Nat)) (zo : Option (Int32 × Nat)) (va : Nat → Int32) (mm : Nat → Int64) (cn en : Nat → Int32) (em : Nat → Int64), LG.drop i = r → i ≤ LG.length → Lo.length ≤ i → YA va mm cn en em p Lo zo → YF p a_val a_mom a_cnt a_end a_endMom va mm cn en em → RES = (match zo with | none => evs Lo none ++ src s p fr r | some _ => evs Lo zo) → wY_source_3 post (nI s) (lN fr) (r.length + 1) (nI i) f_stages f_heard f_now f_calls f_parts f_start f_at f_nextX f_nextY f_x f_y a_kind a_opA a_opB a_heardBy a_what a_said a_when a_over a_part a_first a_second a_user a_goStage a_goStep a_done (va) (mm) (cn) (en) (em) a_begun a_status a_stageOf a_began a_taken a_demand a_asked a_code a_waits a_waiting a_came a_given a_got := by
  have hcl : f_at.toNatClampNeg = p := by rw [hat]; exact nI_clamp (by omega)
  have hin : vp_in f_at 9 := by rw [hat]; exact vp_in_nI hp (by decide)
  intro r
  induction r with
  | nil =>
    intro i Lo zo va mm cn en em hr hiL hLo hY hF hT
    have hiL2 : LG.length ≤ i := List.drop_eq_nil_iff.mp hr
    refine br_t (by rw [hh]; exact nI_le hiL2 (by omega)) (K va mm cn en em Lo zo hY ?_ hF (by omega))
    rw [hT]
    cases zo with
    | none => simp [src]
    | some w => rfl
  | cons g r ih =>
    intro i Lo zo va mm cn en em hr hiL hLo hY hF hT
    have hgi : LG[i]? = some g := by rw [← List.head?_drop, hr]; rfl
    have hil : i < LG.length := by
      rcases Nat.lt_or_ge i LG.length with y | y
      · exact y
      · rw [List.getElem?_eq_none y] at hgi; exact absurd hgi (by simp)
    have hr' : LG.drop (i + 1) = r := by rw [← List.drop_drop, hr]; rfl
    obtain ⟨g1, g2, g3, g4, g5, g6, g7, g8, g9⟩ := hLG i g hgi
    have hgt := htim g (List.mem_of_getElem? hgi)
    have hci : (nI i).toNatClampNeg = i := nI_clamp (by omega)
    have hii : vp_in (nI i) 32 := vp_in_nI (by omega) (by decide)
    obtain ⟨b1, b2, b3⟩ := yb_m1 hY.2.2.2.1 hY.2.2.2.2.1 (fun w hw => (hY.2.2.2.2.2 w hw).1)
    refine br_f (by rw [hh]; exact nI_ge hil (by omega)) ⟨hin, ?_⟩
    cases zo with
    | some w => exact br_t (by rw [hcl]; exact b2.mpr (by simp)) (K va mm cn en em Lo (some w) hY hT.symm hF (by omega))
    | none =>
      have hT' : RES = evs Lo none ++ src s p fr (g :: r) := hT
      refine br_f (by rw [hcl]; exact fun y => b2.mp y rfl) ⟨hii, ?_⟩
      by_cases hgs : g.1 = s
      · refine br_t (by rw [hci, g1, hgs]) ?_
        have emo : a_when (nI i).toNatClampNeg + f_at.toInt64 + 1 = lN (g.2.2.2 + p + 1) := by
          rw [hci, g4, hat, nI_l (by omega), lN_add, lN_1]
        have go : ∀ hb : Bool, hb = hrs fr g.2.2.2 → wY_source_91 post (wY_source_3 post (nI s) (lN fr) (r.length + 1)) (nI s) (lN fr) (nI i) (bI hb) f_stages f_heard f_now f_calls f_parts f_start f_at f_nextX f_nextY f_x f_y a_kind a_opA a_opB a_heardBy a_what a_said a_when a_over a_part a_first a_second a_user a_goStage a_goStep a_done (va) (mm) (cn) (en) (em) a_begun a_status a_stageOf a_began a_taken a_demand a_asked a_code a_waits a_waiting a_came a_given a_got := by
          intro hb hbe
          cases hb
          · refine br_t rfl (nm_r (nI_1 i) ?_)
            refine ih (i + 1) Lo none va mm cn en em hr' (by omega) (by omega) hY hF ?_
            rw [hT']
            show _ = evs Lo none ++ src s p fr r
            congr 1
            show (if g.1 = s ∧ hrs fr g.2.2.2 = true then _ else src s p fr r) = _
            rw [if_neg (by rw [← hbe]; simp)]
          · have hcond : g.1 = s ∧ hrs fr g.2.2.2 = true := ⟨hgs, hbe.symm⟩
            have hsrc : src s p fr (g :: r) = (g.2.1 + 1, g.2.2.1, g.2.2.2 + p + 1) :: (if g.2.1 = 0 then src s p fr r else []) := by
              show (if g.1 = s ∧ hrs fr g.2.2.2 = true then _ else src s p fr r) = _
              rw [if_pos hcond]
            rw [hsrc] at hT'
            refine br_f (by decide) ⟨hii, ?_⟩
            by_cases hw0 : g.2.1 = 0
            · refine br_t (by rw [hci, g2, hw0]; rfl) ⟨hii, hii, ?_⟩
              rw [emo, show a_said (nI i).toNatClampNeg = g.2.2.1 from by rw [hci]; exact g3]
              refine yw_put hp hat hnow ht (by omega) hY (by omega) (fun _ va2 mm2 cn2 k1 k2 => nm_r (nI_1 i) ?_) (fun y => absurd hgt y)
              refine ih (i + 1) _ none va2 mm2 cn2 en em hr' (by omega) (by simp; omega) k1 (yb_trans hF k2) ?_
              rw [hT', if_pos hw0, hw0]
              show _ = evs (Lo ++ [(g.2.2.1, g.2.2.2 + p + 1)]) none ++ src s p fr r
              rw [yo_snoc, List.append_assoc]
              rfl
            · refine br_f (by rw [hci, g2]; exact nI_ne0 (by omega) (by omega)) ⟨hii, ?_⟩
              have stopit : ∀ v : Int32, v = g.2.2.1 → (∃ j : Nat, j ≤ 9 ∧ v = nI j) → (if v = 0 then 2 else 3) = g.2.1 + 1 → wY_source_163 post (wY_source_3 post (nI s) (lN fr) (r.length + 1)) (nI s) (lN fr) (nI i) v f_stages f_heard f_now f_calls f_parts f_start f_at f_nextX f_nextY f_x f_y a_kind a_opA a_opB a_heardBy a_what a_said a_when a_over a_part a_first a_second a_user a_goStage a_goStep a_done (va) (mm) (cn) (en) (em) a_begun a_status a_stageOf a_began a_taken a_demand a_asked a_code a_waits a_waiting a_came a_given a_got := by
                intro v hv ⟨j, hj, ej⟩ hk
                refine ⟨hii, ?_⟩
                rw [emo]
                refine yw_stop hp hat hnow ht (by omega) hj ej hY (fun _ en2 em2 k1 k2 => nm_r (nI_1 i) ?_) (fun y => absurd hgt y)
                refine ih (i + 1) Lo (some (v, g.2.2.2 + p + 1)) va mm cn en2 em2 hr' (by omega) (by omega) k1 (yb_trans hF k2) ?_
                rw [hT', if_neg hw0]
                show _ = evs Lo (some (v, g.2.2.2 + p + 1))
                rw [yo_end, hk, hv]
              by_cases hw1 : g.2.1 = 1
              · refine br_t (by rw [hci, g2, hw1]; rfl) (stopit 0 (g8 hw1).symm ⟨0, by omega, rfl⟩ ?_)
                rw [if_pos rfl, hw1]
              · have hw2 : g.2.1 = 2 := by omega
                obtain ⟨j, j1, j2, j3⟩ := g9 hw2
                refine br_f (by rw [hci, g2, show (1 : Int32) = nI 1 from rfl, nI_eq (by omega) (by decide)]; exact hw1) ⟨hii, ?_⟩
                rw [show a_said (nI i).toNatClampNeg = g.2.2.1 from by rw [hci]; exact g3]
                refine stopit _ rfl ⟨j, j2, j3⟩ ?_
                rw [j3, if_neg (nI_ne0 (by omega) (by omega)), hw2]
        -- byCall, number
        show (_ → _) ∧ (_ → _)
        by_cases hbc : fr / 1099511627776 % 2 = 1
        · have h1 : ((lN fr >>> ((40 : Int32).toInt64 &&& 63)) &&& 1) = 1 := (ts_byCall (by omega)).mpr hbc
          refine br_t h1 (br_f (by decide) ⟨hii, ?_⟩)
          rw [show a_when (nI i).toNatClampNeg = lN g.2.2.2 from by rw [hci]; exact g4]
          show (_ → _) ∧ (_ → _)
          rw [ts_number (by omega), ts_number (by omega)]
          have hlt : hrs fr g.2.2.2 = decide (fr / 256 % 4294967296 < g.2.2.2 / 256 % 4294967296) := by unfold hrs; rw [if_pos hbc]
          by_cases hle : g.2.2.2 / 256 % 4294967296 ≤ fr / 256 % 4294967296
          · exact br_t ((pk_lLE (by omega) (by omega)).mpr hle) (go false (by rw [hlt]; exact (decide_eq_false (by omega)).symm))
          · exact br_f (fun y => hle ((pk_lLE (by omega) (by omega)).mp y)) (go true (by rw [hlt]; exact (decide_eq_true (by omega)).symm))
        · have h1 : ¬ ((lN fr >>> ((40 : Int32).toInt64 &&& 63)) &&& 1) = 1 := fun y => hbc ((ts_byCall (by omega)).mp y)
          refine br_f h1 (br_t rfl ⟨hii, ?_⟩)
          rw [show a_when (nI i).toNatClampNeg = lN g.2.2.2 from by rw [hci]; exact g4]
          have hlt : hrs fr g.2.2.2 = decide (fr < g.2.2.2) := by unfold hrs; rw [if_neg hbc]
          by_cases hle : g.2.2.2 ≤ fr
          · exact br_t ((pk_lLE (by omega) (by omega)).mpr hle) (go false (by rw [hlt]; exact (decide_eq_false (by omega)).symm))
          · exact br_f (fun y => hle ((pk_lLE (by omega) (by omega)).mp y)) (go true (by rw [hlt]; exact (decide_eq_true (by omega)).symm))
      · refine br_f (by rw [hci, g1, nI_eq (by omega) (by omega)]; exact hgs) (nm_r (nI_1 i) ?_)
        refine ih (i + 1) Lo none va mm cn en em hr' (by omega) (by omega) hY hF ?_
        rw [hT']
        show _ = evs Lo none ++ src s p fr r
        congr 1
        show (if g.1 = s ∧ hrs fr g.2.2.2 = true then _ else src s p fr r) = _
        rw [if_neg (fun y => hgs y.1)]
theorem yl_source {post : SY → Prop} {p t fr c : Nat} {a b : Int32} {LG : List Lg} {Hx Hy : List Ev} (ho : opk 0 a b) (hp : p < 9) (hat : f_at = nI p) (hnow : f_now = nI t) (ht : t ≤ 200) (hfr : fr < 1000000000000000) (hh : f_heard = nI LG.length) (h32 : LG.length ≤ 32) (hLG : YL a_heardBy a_what a_said a_when LG) (htim : ∀ g ∈ LG, tim (g.2.2.2 + p + 1) ≤ t) (hY : YA a_val a_mom a_cnt a_end a_endMom p [] none)
    (K : ∀ va mm cn en em L' z', YA va mm cn en em p L' z' → evs L' z' = (RR 0 a b p fr LG c Hx Hy).2 → YF p a_val a_mom a_cnt a_end a_endMom va mm cn en em → L'.length ≤ 32 → post (f_stages, f_heard, f_now, f_calls, f_parts, f_start, f_at, f_nextX, f_nextY, f_x, f_y, a_kind, a_opA, a_opB, a_heardBy, a_what, a_said, a_when, a_over, a_part, a_first, a_second, a_user, a_goStage, a_goStep, a_done, va, mm, cn, en, em, a_begun, a_status, a_stageOf, a_began, a_taken, a_demand, a_asked, a_code, a_waits, a_waiting, a_came, a_given, a_got)) :
    wpY_source post (f_stages, f_heard, f_now, f_calls, f_parts, f_start, f_at, f_nextX, f_nextY, f_x, f_y, a_kind, a_opA, a_opB, a_heardBy, a_what, a_said, a_when, a_over, a_part, a_first, a_second, a_user, a_goStage, a_goStep, a_done, a_val, a_mom, a_cnt, a_end, a_endMom, a_begun, a_status, a_stageOf, a_began, a_taken, a_demand, a_asked, a_code, a_waits, a_waiting, a_came, a_given, a_got) a (lN fr) := by
  have h0 := ho.2.1 rfl
  rw [h0.2]
  exact ⟨LG.length + 1, yl_src hp hat hnow ht h0.1 hfr hh h32 hLG htim K LG 0 [] none _ _ _ _ _ rfl (Nat.zero_le _) (Nat.le_refl _) hY yb_refl rfl⟩
end
end
section
/-! ===== the reference: interval ===== -/
def ivl (p t0 aa n : Nat) : List (Int32 × Nat) := (List.range n).map (fun j => (nI j, tm (t0 + aa * (j + 1)) p))
theorem yi_snoc (p t0 aa n : Nat) : ivl p t0 aa (n + 1) = ivl p t0 aa n ++ [(nI n, tm (t0 + aa * (n + 1)) p)] := by
  unfold ivl; rw [List.range_succ, List.map_append]; rfl
theorem yi_len (p t0 aa n : Nat) : (ivl p t0 aa n).length = n := by unfold ivl; simp
theorem yi_mach {p c0 t0 : Nat} {a b : Int32} (hp : p < 9) (ha : 5 ≤ cl a) (hc0 : c0 ≤ t0) : ∀ d : Nat, ∃ n, (tms p c0 d).foldl (stp 1 a b) (ini 1 a b t0, []) = ((t0 + cl a * (n + 1), n, 0, 0, false, false, false, [], false, false), evs (ivl p t0 (cl a) n) none) ∧ (n = 0 ∨ t0 + cl a * n ≤ c0 + d) ∧ c0 + d < t0 + cl a * (n + 1) := by
  intro d
  induction d with
  | zero =>
    refine ⟨0, ?_, Or.inl rfl, by omega⟩
    show (ini 1 a b t0, []) = _
    simp [ini, evs, ivl]
  | succ d ih =>
    obtain ⟨n, h1, h2, h3⟩ := ih
    rw [tp_tms, tp_foldl_snoc, h1, rn_stp_go (yo_fin _)]
    have et : tim (tm (c0 + d + 1) p) = c0 + d + 1 := tim_tm hp
    have er : rsp 1 a b (t0 + cl a * (n + 1), n, 0, 0, false, false, false, [], false, false) (2, 0, 0, tm (c0 + d + 1) p) = fi 1 a b (c0 + d + 1) (t0 + cl a * (n + 1), n, 0, 0, false, false, false, [], false, false) := by
      show (if (2 : Nat) = 2 then fi 1 a b (tim (tm (c0 + d + 1) p)) _ else _) = _
      rw [if_pos rfl, et]
    dsimp only
    rw [er]
    by_cases hd : t0 + cl a * (n + 1) = c0 + d + 1
    · refine ⟨n + 1, ?_, Or.inr (by omega), ?_⟩
      · simp only [fi, if_pos hd]
        rw [yi_snoc, yo_snoc]
        have e2 : c0 + d + 1 + cl a = t0 + cl a * (n + 1 + 1) := by rw [Nat.mul_add (cl a) (n + 1) 1]; omega
        rw [e2, hd]
        rfl
      · rw [Nat.mul_add (cl a) (n + 1) 1]; omega
    · refine ⟨n, ?_, ?_, by omega⟩
      · simp only [fi, if_neg hd]
        simp [ems]
      · rcases h2 with y | y
        · exact Or.inl y
        · exact Or.inr (by omega)
section
variable {f_stages : Int32} {f_heard : Int32} {f_now : Int32} {f_calls : Int64} {f_parts : Int32} {f_start : Int64} {f_at : Int32} {f_nextX : Int32} {f_nextY : Int32} {f_x : Int32} {f_y : Int32} {a_kind : (Nat → Int32)} {a_opA : (Nat → Int32)} {a_opB : (Nat → Int32)} {a_heardBy : (Nat → Int32)} {a_what : (Nat → Int32)} {a_said : (Nat → Int32)} {a_when : (Nat → Int64)} {a_over : (Nat → Int32)} {a_part : (Nat → Int32)} {a_first : (Nat → Int32)} {a_second : (Nat → Int32)} {a_user : (Nat → Int32)} {a_goStage : (Nat → Int32)} {a_goStep : (Nat → Int32)} {a_done : (Nat → Int32)} {a_val : (Nat → Int32)} {a_mom : (Nat → Int64)} {a_cnt : (Nat → Int32)} {a_end : (Nat → Int32)} {a_endMom : (Nat → Int64)} {a_begun : (Nat → Int32)} {a_status : (Nat → Int32)} {a_stageOf : (Nat → Int32)} {a_began : (Nat → Int64)} {a_taken : (Nat → Int32)} {a_demand : (Nat → Int64)} {a_asked : (Nat → Int32)} {a_code : (Nat → Int32)} {a_waits : (Nat → Int32)} {a_waiting : (Nat → Int32)} {a_came : (Nat → Int32)} {a_given : (Nat → Int32)} {a_got : (Nat → Int64)}
theorem yi_loop {post : SY → Prop} {p t fr : Nat} {a : Int32} (hp : p < 9) (hat : f_at = nI p) (hnow : f_now = nI t) (ht : t ≤ 200) (hfr : fr < 1000000000000000) (hft : tim fr ≤ t) (ha : 5 ≤ cl a) (ha2 : cl a ≤ 50) (hai : a = nI (cl a))
    (K : ∀ va mm cn n, YA va mm cn a_end a_endMom p (ivl p (tim fr) (cl a) n) none → YF p a_val a_mom a_cnt a_end a_endMom va mm cn a_end a_endMom → (n = 0 ∨ tim fr + cl a * n ≤ t) → t < tim fr + cl a * (n + 1) → post (f_stages, f_heard, f_now, f_calls, f_parts, f_start, f_at, f_nextX, f_nextY, f_x, f_y, a_kind, a_opA, a_opB, a_heardBy, a_what, a_said, a_when, a_over, a_part, a_first, a_second, a_user, a_goStage, a_goStep, a_done, va, mm, cn, a_end, a_endMom, a_begun, a_status, a_stageOf, a_began, a_taken, a_demand, a_asked, a_code, a_waits, a_waiting, a_came, a_given, a_got)) :
    ∀ (e n : Nat) (va : Nat → Int32) (mm : Nat → Int64) (cn : Nat → Int32), n + e = 201 → (n = 0 ∨ tim fr + cl a * n ≤ t) → YA va mm cn a_end a_endMom p (ivl p (tim fr) (cl a) n) none → YF p a_val a_mom a_cnt a_end a_endMom va mm cn a_end a_endMom → wY_stream_137 post a (lN fr) (e + 1) (nI n) f_stages f_heard f_now f_calls f_parts f_start f_at f_nextX f_nextY f_x f_y a_kind a_opA a_opB a_heardBy a_what a_said a_when a_over a_part a_first a_second a_user a_goStage a_goStep a_done (va) (mm) (cn) a_end a_endMom a_begun a_status a_stageOf a_began a_taken a_demand a_asked a_code a_waits a_waiting a_came a_given a_got := by
  intro e
  induction e with
  | zero =>
    intro n va mm cn hn h2 hY hF
    exfalso
    rcases h2 with y | y
    · omega
    · have : 5 * n ≤ cl a * n := Nat.mul_le_mul_right _ ha
      omega
  | succ e ih =>
    intro n va mm cn hn h2 hY hF
    have hn41 : n ≤ 40 := by
      rcases h2 with y | y
      · omega
      · have : 5 * n ≤ cl a * n := Nat.mul_le_mul_right _ ha
        omega
    have hmb : cl a * (n + 1) ≤ 50 * (n + 1) := Nat.mul_le_mul_right _ ha2
    show (_ → _) ∧ (_ → _)
    have eb : a * (nI n + 1) = nI (cl a * (n + 1)) := by rw [nI_1]; rw (config := {occs := .pos [1]}) [hai]; rw [pk_mul]
    rw [ts_time (by omega), eb, nI_add, hnow]
    by_cases hlt : t < tim fr + cl a * (n + 1)
    · refine br_t (nI_lt hlt (by omega)) ?_
      rw [← hnow]
      exact K va mm cn n hY hF h2 hlt
    · refine br_f (nI_nlt (by omega) (by omega)) ?_
      rw [← hnow]
      refine yw_later hp hat hfr (by omega) ?_
      refine yw_put hp hat hnow ht (by unfold tm; omega) hY (by rw [yi_len]; omega) (fun _ va2 mm2 cn2 g1 g2 => nm_r (nI_1 n) ?_) (fun y => ?_)
      · rw [← yi_snoc] at g1
        exact ih (n + 1) va2 mm2 cn2 (by omega) (Or.inr (by omega)) g1 (yb_trans hF g2)
      · rw [tim_tm hp] at y
        omega
theorem yi_ivl {post : SY → Prop} {p t fr : Nat} {a b : Int32} {lg : List Lg} {Hx Hy : List Ev} (ho : opk 1 a b) (hp : p < 9) (hat : f_at = nI p) (hnow : f_now = nI t) (ht : t ≤ 200) (hfr : fr < 1000000000000000) (hft : tim fr ≤ t) (hck : ckm p fr ≤ t) (hY : YA a_val a_mom a_cnt a_end a_endMom p [] none)
    (K : ∀ va mm cn en em L' z', YA va mm cn en em p L' z' → evs L' z' = (RR 1 a b p fr lg t Hx Hy).2 → YF p a_val a_mom a_cnt a_end a_endMom va mm cn en em → L'.length ≤ 40 → post (f_stages, f_heard, f_now, f_calls, f_parts, f_start, f_at, f_nextX, f_nextY, f_x, f_y, a_kind, a_opA, a_opB, a_heardBy, a_what, a_said, a_when, a_over, a_part, a_first, a_second, a_user, a_goStage, a_goStep, a_done, va, mm, cn, en, em, a_begun, a_status, a_stageOf, a_began, a_taken, a_demand, a_asked, a_code, a_waits, a_waiting, a_came, a_given, a_got)) :
    ∃ n137 : Nat, wY_stream_137 post a (lN fr) n137 0 f_stages f_heard f_now f_calls f_parts f_start f_at f_nextX f_nextY f_x f_y a_kind a_opA a_opB a_heardBy a_what a_said a_when a_over a_part a_first a_second a_user a_goStage a_goStep a_done a_val a_mom a_cnt a_end a_endMom a_begun a_status a_stageOf a_began a_taken a_demand a_asked a_code a_waits a_waiting a_came a_given a_got := by
  have h1 := ho.2.2.1 rfl
  refine ⟨202, yi_loop hp hat hnow ht hfr hft h1.1 h1.2.1 h1.2.2 (fun va mm cn n g1 g2 g3 g4 => ?_) 201 0 a_val a_mom a_cnt rfl (Or.inl rfl) hY yb_refl⟩
  refine K va mm cn a_end a_endMom _ none g1 ?_ g2 ?_
  · have hc0 : ckm p fr ≤ tim fr := by unfold ckm; split <;> omega
    obtain ⟨n', m1, m2, m3⟩ := yi_mach (b := b) (c0 := ckm p fr) (t0 := tim fr) hp h1.1 hc0 (t - ckm p fr)
    rw [show ckm p fr + (t - ckm p fr) = t from by omega] at m2 m3
    have hnn : n' = n := by
      rcases Nat.lt_trichotomy n' n with y | y | y
      · exfalso
        have : cl a * (n' + 1) ≤ cl a * n := Nat.mul_le_mul_left _ y
        omega
      · exact y
      · exfalso
        have : cl a * (n + 1) ≤ cl a * n' := Nat.mul_le_mul_left _ y
        omega
    subst hnn
    unfold RR
    rw [if_neg (by decide), if_neg (by decide)]
    unfold inp
    rw [if_pos rfl, m1]
  · rw [yi_len]
    rcases g3 with y | y
    · omega
    · have : 5 * n ≤ cl a * n := Nat.mul_le_mul_right _ h1.1
      omega
end
end
section
/-! ===== the reference: limit, quiet ===== -/
theorem yt_app (p c0 : Nat) : ∀ D2 D1 : Nat, tms p c0 (D1 + D2) = tms p c0 D1 ++ tms p (c0 + D1) D2 := by
  intro D2
  induction D2 with
  | zero => intro D1; simp [tms]
  | succ D2 ih =>
    intro D1
    rw [show D1 + (D2 + 1) = (D1 + D2) + 1 from rfl, tp_tms, ih, tp_tms, List.append_assoc, show c0 + (D1 + D2) + 1 = c0 + D1 + D2 + 1 from by omega]
theorem yt_same {p c0 k : Nat} {a b : Int32} {S : PSt} {O : List Ev} (hp : p < 9) : ∀ D : Nat, (∀ T, c0 < T → T ≤ c0 + D → fi k a b T S = (S, [])) → (tms p c0 D).foldl (stp k a b) (S, O) = (S, O) := by
  intro D
  induction D with
  | zero => intro _; rfl
  | succ D ih =>
    intro h
    rw [tp_tms, tp_foldl_snoc, ih (fun T h1 h2 => h T h1 (by omega))]
    rcases Bool.eq_false_or_eq_true (fin O) with y | y
    · exact rn_stp_fin y
    · rw [rn_stp_go y]
      have e : rsp k a b S (2, 0, 0, tm (c0 + D + 1) p) = (S, []) := by
        show (if (2 : Nat) = 2 then fi k a b (tim (tm (c0 + D + 1) p)) S else _) = _
        rw [if_pos rfl, tim_tm hp]
        exact h _ (by omega) (by omega)
      rw [e]
      simp [ems]
theorem yt_one {p c0 k T D : Nat} {a b : Int32} {S S' : PSt} {o : Otp} {O : List Ev} (hp : p < 9) (hO : fin O = false) (h1 : c0 < T) (h2 : T ≤ c0 + D) (hq : ∀ T', c0 < T' → T' < T → fi k a b T' S = (S, [])) (hT : fi k a b T S = (S', o)) : (tms p c0 D).foldl (stp k a b) (S, O) = (tms p T (c0 + D - T)).foldl (stp k a b) (S', O ++ ems (tm T p) o) := by
  have e : (T - 1 - c0) + (1 + (c0 + D - T)) = D := by omega
  have h3 : tms p (T - 1) 1 = [(2, 0, 0, tm T p)] := by
    show [] ++ [(2, 0, 0, tm (T - 1 + 0 + 1) p)] = _
    rw [show T - 1 + 0 + 1 = T from by omega]
    rfl
  have e2 : tms p c0 D = tms p c0 (T - 1 - c0) ++ ([(2, 0, 0, tm T p)] ++ tms p T (c0 + D - T)) := by
    have e4 := yt_app p c0 (1 + (c0 + D - T)) (T - 1 - c0)
    rw [yt_app p _ (c0 + D - T) 1, e, show c0 + (T - 1 - c0) = T - 1 from by omega, h3, show T - 1 + 1 = T from by omega] at e4
    exact e4
  rw [e2, List.foldl_append, yt_same hp _ (fun T' h3 h4 => hq T' h3 (by omega)), List.foldl_append]
  congr 1
  show stp k a b (S, O) (2, 0, 0, tm T p) = _
  rw [rn_stp_go hO]
  have e3 : rsp k a b S (2, 0, 0, tm T p) = (S', o) := by
    show (if (2 : Nat) = 2 then fi k a b (tim (tm T p)) S else _) = _
    rw [if_pos rfl, tim_tm hp, hT]
  rw [e3]
theorem yt_arith (n z p m : Nat) (hp : p < 9) (h : (n + 1) * z ≤ m) (hz : 2304 ≤ z) : n * z + p * 256 ≤ m := by
  rw [Nat.add_mul, Nat.one_mul] at h
  omega
theorem yt_ck {p m : Nat} (hp : p < 9) : tm (ckm p m) p ≤ m ∨ tim m = 0 := by
  unfold ckm
  have h1 : tim m * 2199023255552 ≤ m := by unfold tim; omega
  by_cases h : m < tm (tim m) p
  · rw [if_pos h]
    rcases Nat.eq_zero_or_pos (tim m) with y | y
    · exact Or.inr y
    · left
      obtain ⟨n, hn⟩ : ∃ n, tim m = n + 1 := ⟨tim m - 1, by omega⟩
      rw [hn] at h1 ⊢
      exact yt_arith n 2199023255552 p m hp h1 (by decide)
  · rw [if_neg h]; left; exact Nat.not_lt.mp h
theorem yt_ck2 {p m : Nat} (hp : p < 9) : m < tm (ckm p m + 1) p := by
  unfold ckm
  have h2 : m < (tim m + 1) * 2199023255552 := by unfold tim; omega
  have h3 : (tim m + 1) * 2199023255552 ≤ tm (tim m + 1) p := by unfold tm; exact Nat.le_add_right _ _
  by_cases h : m < tm (tim m) p
  · rw [if_pos h]
    rcases Nat.eq_zero_or_pos (tim m) with y | y
    · rw [y] at h2 h3 ⊢
      exact Nat.lt_of_lt_of_le h2 h3
    · rw [show tim m - 1 + 1 = tim m from by omega]; exact h
  · rw [if_neg h]; exact Nat.lt_of_lt_of_le h2 h3
theorem yt_lt {p m T : Nat} (hp : p < 9) (hT : 1 ≤ T) (hne : m ≠ tm T p) : tm T p < m ↔ T ≤ ckm p m := by
  constructor
  · intro h
    rcases Nat.lt_or_ge (ckm p m) T with y | y
    · exfalso
      have h2 := yt_ck2 (m := m) hp
      have : tm (ckm p m + 1) p ≤ tm T p := by
        unfold tm
        exact Nat.add_le_add_right (Nat.mul_le_mul_right _ y) _
      omega
    · exact y
  · intro h
    rcases yt_ck (m := m) hp with y | y
    · have : tm T p ≤ tm (ckm p m) p := by
        unfold tm
        exact Nat.add_le_add_right (Nat.mul_le_mul_right _ h) _
      omega
    · exfalso
      have : ckm p m = 0 := by unfold ckm; split <;> omega
      omega
theorem yt_cktim {p m : Nat} : ckm p m ≤ tim m := by unfold ckm; split <;> omega
theorem yt_feedn (p c0 c : Nat) : feed p c0 [] c = tms p c0 (c - c0) := rfl
theorem yt_feedi (p c0 c : Nat) (x : Int32 × Nat) (r : List (Int32 × Nat)) (z : Option (Int32 × Nat)) : feed p c0 (evs (x :: r) z) c = tms p c0 (ckm p x.2 - c0) ++ (0, 1, x.1, x.2) :: feed p (ckm p x.2) (evs r z) c := rfl
theorem yt_feede (p c0 c : Nat) (v : Int32) (m : Nat) : feed p c0 (evs [] (some (v, m))) c = tms p c0 (ckm p m - c0) ++ (0, (if v = 0 then 2 else 3), v, m) :: tms p (ckm p m) (c - ckm p m) := rfl
theorem yt_finend (Lo : List (Int32 × Nat)) (v : Int32) (m : Nat) : fin (evs Lo (some (v, m))) = true := by
  rw [yo_end, rn_fin_app]
  by_cases h : v = 0
  · rw [if_pos h]; simp [fin]
  · rw [if_neg h]; simp [fin]
theorem yt_end {k : Nat} {a b : Int32} {S : PSt} {Lo : List (Int32 × Nat)} {v : Int32} {m : Nat} (h13 : 13 ≤ k) (h15 : k ≤ 15) : stp k a b (S, evs Lo none) (0, (if v = 0 then 2 else 3), v, m) = (S, evs Lo (some (v, m))) := by
  rw [rn_stp_go (yo_fin Lo), yo_end]
  obtain ⟨d, c, h, hy, f, fy, qx, q, ox, oy⟩ := S
  have hk : k = 13 ∨ k = 14 ∨ k = 15 := by omega
  by_cases h0 : v = 0
  · subst h0
    rcases hk with e | e | e <;> subst e <;> rfl
  · rw [if_neg h0]
    rcases hk with e | e | e <;> subst e <;> rfl
def FRa (p : Nat) (L : List (Int32 × Nat)) (z : Option (Int32 × Nat)) : Prop := (∀ x ∈ L, ∀ T, x.2 ≠ tm T p) ∧ (∀ w, z = some w → ∀ T, w.2 ≠ tm T p)
section
variable {f_stages : Int32} {f_heard : Int32} {f_now : Int32} {f_calls : Int64} {f_parts : Int32} {f_start : Int64} {f_at : Int32} {f_nextX : Int32} {f_nextY : Int32} {f_x : Int32} {f_y : Int32} {a_kind : (Nat → Int32)} {a_opA : (Nat → Int32)} {a_opB : (Nat → Int32)} {a_heardBy : (Nat → Int32)} {a_what : (Nat → Int32)} {a_said : (Nat → Int32)} {a_when : (Nat → Int64)} {a_over : (Nat → Int32)} {a_part : (Nat → Int32)} {a_first : (Nat → Int32)} {a_second : (Nat → Int32)} {a_user : (Nat → Int32)} {a_goStage : (Nat → Int32)} {a_goStep : (Nat → Int32)} {a_done : (Nat → Int32)} {a_val : (Nat → Int32)} {a_mom : (Nat → Int64)} {a_cnt : (Nat → Int32)} {a_end : (Nat → Int32)} {a_endMom : (Nat → Int64)} {a_begun : (Nat → Int32)} {a_status : (Nat → Int32)} {a_stageOf : (Nat → Int32)} {a_began : (Nat → Int64)} {a_taken : (Nat → Int32)} {a_demand : (Nat → Int64)} {a_asked : (Nat → Int32)} {a_code : (Nat → Int32)} {a_waits : (Nat → Int32)} {a_waiting : (Nat → Int32)} {a_came : (Nat → Int32)} {a_given : (Nat → Int32)} {a_got : (Nat → Int64)}
theorem yt_later {post : Int64 → Prop} {p m bn : Nat} {b : Int32} (hbe : b = nI bn) (hp : p < 9) (hat : f_at = nI p) (hm : m < 1000000000000000) (hb : bn ≤ 1000) (H : post (lN (tm (tim m + bn) p))) : wpY_later post (f_stages, f_heard, f_now, f_calls, f_parts, f_start, f_at, f_nextX, f_nextY, f_x, f_y, a_kind, a_opA, a_opB, a_heardBy, a_what, a_said, a_when, a_over, a_part, a_first, a_second, a_user, a_goStage, a_goStep, a_done, a_val, a_mom, a_cnt, a_end, a_endMom, a_begun, a_status, a_stageOf, a_began, a_taken, a_demand, a_asked, a_code, a_waits, a_waiting, a_came, a_given, a_got) (lN m) b := by
  subst hbe
  exact yw_later hp hat hm hb H
theorem yt_lim {post : SY → Prop} {p xq t : Nat} {a b : Int32} {L : List (Int32 × Nat)} {z : Option (Int32 × Nat)} {RES : List Ev} {cx : Nat} {h hy : Int32} {f fy qx ox oy : Bool} {q : List (Int32 × Nat)} (hp : p < 9) (hxq : xq < 9) (hpx : xq ≠ p) (hat : f_at = nI p) (hfx : f_x = nI xq) (hnow : f_now = nI t) (ht : t ≤ 200) (hL : ∀ x ∈ L, tim x.2 ≤ t) (hz : ∀ w, z = some w → tim w.2 ≤ t) (hL250 : L.length ≤ 250) (hb : 1 ≤ cl b ∧ cl b ≤ 30 ∧ b = nI (cl b)) (hfree : FRa p L z)
    (K : ∀ va mm cn en em L' z', YA va mm cn en em p L' z' → evs L' z' = RES → YF p a_val a_mom a_cnt a_end a_endMom va mm cn en em → L'.length ≤ L.length → post (f_stages, f_heard, f_now, f_calls, f_parts, f_start, f_at, f_nextX, f_nextY, f_x, f_y, a_kind, a_opA, a_opB, a_heardBy, a_what, a_said, a_when, a_over, a_part, a_first, a_second, a_user, a_goStage, a_goStep, a_done, va, mm, cn, en, em, a_begun, a_status, a_stageOf, a_began, a_taken, a_demand, a_asked, a_code, a_waits, a_waiting, a_came, a_given, a_got)) :
    ∀ (r : List (Int32 × Nat)) (i due c0 : Nat) (Lo : List (Int32 × Nat)) (va : Nat → Int32) (mm : Nat → Int64) (cn : Nat → Int32), L.drop i = r → i ≤ L.length → Lo.length ≤ i → c0 < due → c0 ≤ t → due ≤ 300 → YA va mm cn a_end a_endMom p Lo none → YA va mm cn a_end a_endMom xq L z → YF p a_val a_mom a_cnt a_end a_endMom va mm cn a_end a_endMom → RES = ((feed p c0 (evs r z) t).foldl (stp 15 a b) ((due, cx, h, hy, f, fy, qx, q, ox, oy), evs Lo none)).2 → wY_limit_11 post b (r.length + 1) (lN (tm due p)) (nI i) f_stages f_heard f_now f_calls f_parts f_start f_at f_nextX f_nextY f_x f_y a_kind a_opA a_opB a_heardBy a_what a_said a_when a_over a_part a_first a_second a_user a_goStage a_goStep a_done (va) (mm) (cn) a_end a_endMom a_begun a_status a_stageOf a_began a_taken a_demand a_asked a_code a_waits a_waiting a_came a_given a_got := by
  have hcl : f_x.toNatClampNeg = xq := by rw [hfx]; exact nI_clamp (by omega)
  have hin : vp_in f_x 9 := by rw [hfx]; exact vp_in_nI hxq (by decide)
  have fno : ∀ due T : Nat, T ≠ due → fi 15 a b T (due, cx, h, hy, f, fy, qx, q, ox, oy) = ((due, cx, h, hy, f, fy, qx, q, ox, oy), []) := fun due T hT => by
    have hne : ¬ due = T := fun y => hT y.symm
    simp only [fi, if_neg hne]
  have fyes : ∀ due : Nat, fi 15 a b due (due, cx, h, hy, f, fy, qx, q, ox, oy) = ((0, cx, h, hy, f, fy, qx, q, ox, oy), [(3, 9)]) := fun due => by simp only [fi, if_true]
  -- the timer strikes
  have strike : ∀ (due c0 D : Nat) (Lo : List (Int32 × Nat)) (rest : List Inp), c0 < due → due ≤ c0 + D → ((tms p c0 D ++ rest).foldl (stp 15 a b) ((due, cx, h, hy, f, fy, qx, q, ox, oy), evs Lo none)).2 = evs Lo (some (9, tm due p)) := by
    intro due c0 D Lo rest h1 h2
    rw [List.foldl_append, yt_one hp (yo_fin Lo) h1 h2 (fun T' h3 h4 => fno due T' (by omega)) (fyes due)]
    have hf : fin (evs Lo none ++ ems (tm due p) [(3, 9)]) = true := by rw [rn_fin_app]; simp [ems, fin]
    rw [rn_fold_fin (tms p due (c0 + D - due)) _ hf, rn_fold_fin rest _ hf, yo_end]
    rfl
  have pass : ∀ (due c0 D : Nat) (Lo : List (Int32 × Nat)), ¬ due ≤ c0 + D → c0 < due → (tms p c0 D).foldl (stp 15 a b) ((due, cx, h, hy, f, fy, qx, q, ox, oy), evs Lo none) = ((due, cx, h, hy, f, fy, qx, q, ox, oy), evs Lo none) := fun due c0 D Lo h1 h2 => yt_same hp D (fun T h3 h4 => fno due T (by omega))
  have stop9 : ∀ (due : Nat) (Lo : List (Int32 × Nat)) (va : Nat → Int32) (mm : Nat → Int64) (cn : Nat → Int32), due ≤ 300 → Lo.length ≤ L.length → YA va mm cn a_end a_endMom p Lo none → YF p a_val a_mom a_cnt a_end a_endMom va mm cn a_end a_endMom → (due ≤ t → evs Lo (some (9, tm due p)) = RES) → (¬ due ≤ t → evs Lo none = RES) → wpY_stop (fun u => match u with | (f_stages, f_heard, f_now, f_calls, f_parts, f_start, f_at, f_nextX, f_nextY, f_x, f_y, a_kind, a_opA, a_opB, a_heardBy, a_what, a_said, a_when, a_over, a_part, a_first, a_second, a_user, a_goStage, a_goStep, a_done, a_val, a_mom, a_cnt, a_end, a_endMom, a_begun, a_status, a_stageOf, a_began, a_taken, a_demand, a_asked, a_code, a_waits, a_waiting, a_came, a_given, a_got) => post (f_stages, f_heard, f_now, f_calls, f_parts, f_start, f_at, f_nextX, f_nextY, f_x, f_y, a_kind, a_opA, a_opB, a_heardBy, a_what, a_said, a_when, a_over, a_part, a_first, a_second, a_user, a_goStage, a_goStep, a_done, a_val, a_mom, a_cnt, a_end, a_endMom, a_begun, a_status, a_stageOf, a_began, a_taken, a_demand, a_asked, a_code, a_waits, a_waiting, a_came, a_given, a_got)) (f_stages, f_heard, f_now, f_calls, f_parts, f_start, f_at, f_nextX, f_nextY, f_x, f_y, a_kind, a_opA, a_opB, a_heardBy, a_what, a_said, a_when, a_over, a_part, a_first, a_second, a_user, a_goStage, a_goStep, a_done, va, mm, cn, a_end, a_endMom, a_begun, a_status, a_stageOf, a_began, a_taken, a_demand, a_asked, a_code, a_waits, a_waiting, a_came, a_given, a_got) 9 (lN (tm due p)) := by
    intro due Lo va mm cn h1 h2 hY hF h3 h4
    refine yw_stop (j := 9) hp hat hnow ht (by unfold tm; omega) (by decide) rfl hY (fun y en em k1 k2 => K va mm cn en em Lo _ k1 (h3 ?_) (yb_trans hF k2) h2) (fun y => K va mm cn a_end a_endMom Lo none hY (h4 ?_) hF h2)
    · rw [tim_tm hp] at y; exact y
    · rw [tim_tm hp] at y; exact y
  intro r
  induction r with
  | nil =>
    intro i due c0 Lo va mm cn hr hiL hLo hc0 hct hdue hY hx hF hT
    have hiL2 : L.length ≤ i := List.drop_eq_nil_iff.mp hr
    obtain ⟨b1, b2, b3⟩ := yb_m1 hx.2.2.2.1 hx.2.2.2.2.1 (fun w hw => (hx.2.2.2.2.2 w hw).1)
    refine ⟨hin, br_t (by rw [hcl, hx.1]; exact nI_le hiL2 (by omega)) ⟨hin, ?_⟩⟩
    cases z with
    | none =>
      refine br_t (by rw [hcl]; exact b1.mpr rfl) (stop9 due Lo va mm cn hdue (by omega) hY hF (fun y => ?_) (fun y => ?_))
      · rw [hT]
        have := strike due c0 (t - c0) Lo [] hc0 (by omega)
        rw [List.append_nil] at this
        exact this.symm
      · rw [hT, show feed p c0 (evs [] none) t = tms p c0 (t - c0) from rfl, pass due c0 (t - c0) Lo (by omega) hc0]
    | some w =>
      obtain ⟨v, m⟩ := w
      obtain ⟨hm1, j, hj, ej⟩ := hx.2.2.2.1 (v, m) rfl
      have hev0 := hx.2.2.2.2.2 (v, m) rfl
      have hmt := hz _ rfl
      have hmt' : tim m ≤ t := hmt
      have hlt := yt_lt (p := p) (m := m) (T := due) hp (by omega) (hfree.2 _ rfl due)
      have hckt := yt_cktim (p := p) (m := m)
      refine br_f (by rw [hcl]; exact fun y => by have := b1.mp y; simp at this) ⟨hin, ?_⟩
      have hem : a_endMom f_x.toNatClampNeg = lN m := by rw [hcl]; exact hev0.2
      have hev : a_end f_x.toNatClampNeg = v := by rw [hcl]; exact hev0.1
      rw [yt_feede] at hT
      by_cases hle : tm due p ≤ m
      · have hdk : due ≤ ckm p m := hlt.mp (Nat.lt_of_le_of_ne hle (fun y => hfree.2 _ rfl due y.symm))
        refine br_t (by rw [hem]; exact (pk_lLE (by unfold tm; omega) (by omega)).mpr hle) (stop9 due Lo va mm cn hdue (by omega) hY hF (fun y => ?_) (fun y => by omega))
        rw [hT]
        exact (strike due c0 _ Lo _ hc0 (by omega)).symm
      · have hdk : ¬ due ≤ ckm p m := fun y => hle (Nat.le_of_lt (hlt.mpr y))
        refine br_f (by rw [hem]; exact fun y => hle ((pk_lLE (by unfold tm; omega) (by omega)).mp y)) ⟨hin, hin, ?_⟩
        rw [hev, hem]
        refine yw_stop hp hat hnow ht hm1 hj ej hY (fun _ en em k1 k2 => K va mm cn en em Lo _ k1 ?_ (yb_trans hF k2) (by omega)) (fun y => absurd hmt y)
        rw [hT, List.foldl_append, pass due c0 _ Lo (by omega) hc0, List.foldl_cons, yt_end (by decide) (by decide), rn_fold_fin _ _ (yt_finend Lo v m)]
  | cons x r ih =>
    intro i due c0 Lo va mm cn hr hiL hLo hc0 hct hdue hY hx hF hT
    have hxi : L[i]? = some x := by rw [← List.head?_drop, hr]; rfl
    have hil := yb_idx hxi
    have hr' : L.drop (i + 1) = r := by rw [← List.drop_drop, hr]; rfl
    have hxmem := List.mem_of_getElem? hxi
    have hxt := hL x hxmem
    have hxm := (hx.2.2.1 i x hxi).2.2
    have hlt := yt_lt (p := p) (m := x.2) (T := due) hp (by omega) (hfree.1 x hxmem due)
    have hckt := yt_cktim (p := p) (m := x.2)
    rw [yt_feedi] at hT
    refine ⟨hin, br_f (by rw [hcl, hx.1]; exact nI_ge hil (by omega)) ?_⟩
    rw [hfx]
    refine yw_of (f_x := nI xq) hxq hx hxi ?_
    rw [← hfx]
    by_cases hle : x.2 ≤ tm due p
    · have hdk : ¬ due ≤ ckm p x.2 := fun y => by have := hlt.mpr y; omega
      refine br_t ((pk_lLE (by omega) (by unfold tm; omega)).mpr hle) ?_
      rw [hfx]
      refine yw_word (f_x := nI xq) hxq hx hxi (yw_of (f_x := nI xq) hxq hx hxi ?_)
      rw [← hfx]
      refine yw_put hp hat hnow ht hxm hY (by omega) (fun _ va2 mm2 cn2 g1 g2 => ?_) (fun y => absurd hxt y)
      rw [hfx]
      refine yw_of (f_x := nI xq) hxq (g2 xq hpx _ _ hx) hxi ?_
      rw [← hfx]
      refine yt_later hb.2.2 hp hat hxm (by omega) (nm_r (nI_1 i) ?_)
      refine ih (i + 1) (tim x.2 + cl b) (ckm p x.2) (Lo ++ [(x.1, x.2)]) va2 mm2 cn2 hr' (by omega) (by simp; omega) (by omega) (by omega) (by omega) g1 (g2 xq hpx _ _ hx) (yb_trans hF g2) ?_
      rw [hT, List.foldl_append, pass due c0 _ Lo (by omega) hc0, List.foldl_cons, yo_item, yo_snoc]
      rfl
    · have hdk : due ≤ ckm p x.2 := hlt.mp (by omega)
      refine br_f (fun y => hle ((pk_lLE (by omega) (by unfold tm; omega)).mp y)) (stop9 due Lo va mm cn hdue (by omega) hY hF (fun y => ?_) (fun y => by omega))
      rw [hT]
      exact (strike due c0 _ Lo _ hc0 (by omega)).symm
end
end
section
/-! ===== the reference: quiet ===== -/
theorem yq_tms {p c0 D : Nat} {a b : Int32} {d cx : Nat} {h hy : Int32} {f fy qx ox oy : Bool} {q : List (Int32 × Nat)} {Lo : List (Int32 × Nat)} (hp : p < 9) (hd : c0 < d) : (tms p c0 D).foldl (stp 12 a b) ((d, cx, h, hy, f, fy, qx, q, ox, oy), evs Lo none) = if d ≤ c0 + D then ((0, cx, h, hy, f, fy, qx, q, ox, oy), evs (Lo ++ [(h, tm d p)]) none) else ((d, cx, h, hy, f, fy, qx, q, ox, oy), evs Lo none) := by
  have fno : ∀ d T : Nat, T ≠ d → fi 12 a b T (d, cx, h, hy, f, fy, qx, q, ox, oy) = ((d, cx, h, hy, f, fy, qx, q, ox, oy), []) := fun d T hT => by
    have hne : ¬ d = T := fun y => hT y.symm
    simp only [fi, if_neg hne]
  have fyes : fi 12 a b d (d, cx, h, hy, f, fy, qx, q, ox, oy) = ((0, cx, h, hy, f, fy, qx, q, ox, oy), [(1, h)]) := by simp only [fi, if_true]
  by_cases hle : d ≤ c0 + D
  · rw [if_pos hle, yt_one hp (yo_fin Lo) hd hle (fun T' h3 h4 => fno d T' (by omega)) fyes, yt_same hp _ (fun T h3 h4 => fno 0 T (by omega)), yo_snoc]
    rfl
  · rw [if_neg hle, yt_same hp _ (fun T h3 h4 => fno d T (by omega))]
theorem yq_tms0 {p c0 D : Nat} {a b : Int32} {cx : Nat} {h hy : Int32} {f fy qx ox oy : Bool} {q : List (Int32 × Nat)} {O : List Ev} (hp : p < 9) : (tms p c0 D).foldl (stp 12 a b) ((0, cx, h, hy, f, fy, qx, q, ox, oy), O) = ((0, cx, h, hy, f, fy, qx, q, ox, oy), O) :=
  yt_same hp _ (fun T h3 h4 => by
    have hne : ¬ 0 = T := by omega
    simp only [fi, if_neg hne])
theorem yq_hear {a b : Int32} {d cx : Nat} {h hy : Int32} {f fy qx ox oy : Bool} {q : List (Int32 × Nat)} {Lo : List (Int32 × Nat)} {x : Int32 × Nat} : stp 12 a b ((d, cx, h, hy, f, fy, qx, q, ox, oy), evs Lo none) (0, 1, x.1, x.2) = ((tim x.2 + cl b, cx, x.1, hy, f, fy, qx, q, ox, oy), evs Lo none) := by
  rw [yo_item]
  show ((tim x.2 + cl b, cx, x.1, hy, f, fy, qx, q, ox, oy), evs Lo none ++ []) = _
  rw [List.append_nil]
theorem yq_end0 {a b : Int32} {cx : Nat} {h hy : Int32} {f fy qx ox oy : Bool} {q : List (Int32 × Nat)} {Lo : List (Int32 × Nat)} {v : Int32} {m : Nat} : (stp 12 a b ((0, cx, h, hy, f, fy, qx, q, ox, oy), evs Lo none) (0, (if v = 0 then 2 else 3), v, m)).2 = evs Lo (some (v, m)) := by
  rw [rn_stp_go (yo_fin Lo), yo_end]
  by_cases h0 : v = 0
  · subst h0; rfl
  · rw [if_neg h0]; rfl
theorem yq_end1 {a b : Int32} {d cx : Nat} {h hy : Int32} {f fy qx ox oy : Bool} {q : List (Int32 × Nat)} {Lo : List (Int32 × Nat)} {v : Int32} {m : Nat} (hd : d ≠ 0) : (stp 12 a b ((d, cx, h, hy, f, fy, qx, q, ox, oy), evs Lo none) (0, (if v = 0 then 2 else 3), v, m)).2 = if v = 0 then evs (Lo ++ [(h, m)]) (some (v, m)) else evs Lo (some (v, m)) := by
  rw [rn_stp_go (yo_fin Lo)]
  by_cases h0 : v = 0
  · subst h0
    rw [if_pos rfl, if_pos rfl, yo_end, yo_snoc]
    have e : hc 12 b (tim m) true (d, cx, h, hy, f, fy, qx, q, ox, oy) = ((d, cx, h, hy, f, fy, qx, q, ox, oy), [(1, h), (2, 0)]) := by simp [hc, hd]
    show evs Lo none ++ ems m (hc 12 b (tim m) true (d, cx, h, hy, f, fy, qx, q, ox, oy)).2 = _
    rw [e]
    simp [ems]
  · rw [if_neg h0, if_neg h0, yo_end, if_neg h0]; rfl
section
variable {f_stages : Int32} {f_heard : Int32} {f_now : Int32} {f_calls : Int64} {f_parts : Int32} {f_start : Int64} {f_at : Int32} {f_nextX : Int32} {f_nextY : Int32} {f_x : Int32} {f_y : Int32} {a_kind : (Nat → Int32)} {a_opA : (Nat → Int32)} {a_opB : (Nat → Int32)} {a_heardBy : (Nat → Int32)} {a_what : (Nat → Int32)} {a_said : (Nat → Int32)} {a_when : (Nat → Int64)} {a_over : (Nat → Int32)} {a_part : (Nat → Int32)} {a_first : (Nat → Int32)} {a_second : (Nat → Int32)} {a_user : (Nat → Int32)} {a_goStage : (Nat → Int32)} {a_goStep : (Nat → Int32)} {a_done : (Nat → Int32)} {a_val : (Nat → Int32)} {a_mom : (Nat → Int64)} {a_cnt : (Nat → Int32)} {a_end : (Nat → Int32)} {a_endMom : (Nat → Int64)} {a_begun : (Nat → Int32)} {a_status : (Nat → Int32)} {a_stageOf : (Nat → Int32)} {a_began : (Nat → Int64)} {a_taken : (Nat → Int32)} {a_demand : (Nat → Int64)} {a_asked : (Nat → Int32)} {a_code : (Nat → Int32)} {a_waits : (Nat → Int32)} {a_waiting : (Nat → Int32)} {a_came : (Nat → Int32)} {a_given : (Nat → Int32)} {a_got : (Nat → Int64)}
/-- what is left of the run at item r.head, all timers before it fired; nothing pends -/
def QV (p t : Nat) (a b : Int32) (RES : List Ev) (cx : Nat) (hy : Int32) (f fy qx ox oy : Bool) (q : List (Int32 × Nat)) (z : Option (Int32 × Nat)) (Lo : List (Int32 × Nat)) : List (Int32 × Nat) → Prop
  | [] => RES = evs Lo z
  | x :: r => ∀ h : Int32, RES = (((0, 1, x.1, x.2) :: feed p (ckm p x.2) (evs r z) t).foldl (stp 12 a b) ((0, cx, h, hy, f, fy, qx, q, ox, oy), evs Lo none)).2
theorem yq_loop {post : SY → Prop} {p xq t : Nat} {a b : Int32} {L : List (Int32 × Nat)} {z : Option (Int32 × Nat)} {RES : List Ev} {cx : Nat} {hy : Int32} {f fy qx ox oy : Bool} {q : List (Int32 × Nat)} (hp : p < 9) (hxq : xq < 9) (hpx : xq ≠ p) (hat : f_at = nI p) (hfx : f_x = nI xq) (hnow : f_now = nI t) (ht : t ≤ 200) (hL : ∀ x ∈ L, tim x.2 ≤ t) (hz : ∀ w, z = some w → tim w.2 ≤ t) (hL250 : L.length ≤ 250) (hb : 1 ≤ cl b ∧ cl b ≤ 30 ∧ b = nI (cl b)) (hfree : FRa p L z)
    (K : ∀ va mm cn en em L' z', YA va mm cn en em p L' z' → evs L' z' = RES → YF p a_val a_mom a_cnt a_end a_endMom va mm cn en em → L'.length ≤ L.length → post (f_stages, f_heard, f_now, f_calls, f_parts, f_start, f_at, f_nextX, f_nextY, f_x, f_y, a_kind, a_opA, a_opB, a_heardBy, a_what, a_said, a_when, a_over, a_part, a_first, a_second, a_user, a_goStage, a_goStep, a_done, va, mm, cn, en, em, a_begun, a_status, a_stageOf, a_began, a_taken, a_demand, a_asked, a_code, a_waits, a_waiting, a_came, a_given, a_got)) :
    ∀ (r : List (Int32 × Nat)) (i : Nat) (Lo : List (Int32 × Nat)) (va : Nat → Int32) (mm : Nat → Int64) (cn : Nat → Int32), L.drop i = r → i ≤ L.length → Lo.length ≤ i → YA va mm cn a_end a_endMom p Lo none → YA va mm cn a_end a_endMom xq L z → YF p a_val a_mom a_cnt a_end a_endMom va mm cn a_end a_endMom → QV p t a b RES cx hy f fy qx ox oy q z Lo r → wY_quiet_2 post b (r.length + 1) (nI i) f_stages f_heard f_now f_calls f_parts f_start f_at f_nextX f_nextY f_x f_y a_kind a_opA a_opB a_heardBy a_what a_said a_when a_over a_part a_first a_second a_user a_goStage a_goStep a_done (va) (mm) (cn) a_end a_endMom a_begun a_status a_stageOf a_began a_taken a_demand a_asked a_code a_waits a_waiting a_came a_given a_got := by
  have hcl : f_x.toNatClampNeg = xq := by rw [hfx]; exact nI_clamp (by omega)
  have hin : vp_in f_x 9 := by rw [hfx]; exact vp_in_nI hxq (by decide)
  intro r
  induction r with
  | nil =>
    intro i Lo va mm cn hr hiL hLo hY hx hF hT
    have hT' : RES = evs Lo z := hT
    have hiL2 : L.length ≤ i := List.drop_eq_nil_iff.mp hr
    obtain ⟨b1, b2, b3⟩ := yb_m1 hx.2.2.2.1 hx.2.2.2.2.1 (fun w hw => (hx.2.2.2.2.2 w hw).1)
    refine ⟨hin, br_t (by rw [hcl, hx.1]; exact nI_le hiL2 (by omega)) ⟨hin, ?_⟩⟩
    cases z with
    | none => exact br_t (by rw [hcl]; exact b1.mpr rfl) (K va mm cn a_end a_endMom Lo none hY hT'.symm hF (by omega))
    | some w =>
      obtain ⟨v, m⟩ := w
      obtain ⟨hm1, j, hj, ej⟩ := hx.2.2.2.1 (v, m) rfl
      have hev0 := hx.2.2.2.2.2 (v, m) rfl
      refine br_f (by rw [hcl]; exact fun y => by have := b1.mp y; simp at this) ⟨hin, hin, ?_⟩
      rw [show a_end f_x.toNatClampNeg = v from by rw [hcl]; exact hev0.1, show a_endMom f_x.toNatClampNeg = lN m from by rw [hcl]; exact hev0.2]
      exact yw_stop hp hat hnow ht hm1 hj ej hY (fun _ en em h1 h2 => K va mm cn en em Lo (some (v, m)) h1 hT'.symm (yb_trans hF h2) (by omega)) (fun y => absurd (hz _ rfl) y)
  | cons x r ih =>
    intro i Lo va mm cn hr hiL hLo hY hx hF hT
    have hxi : L[i]? = some x := by rw [← List.head?_drop, hr]; rfl
    have hil := yb_idx hxi
    have hr' : L.drop (i + 1) = r := by rw [← List.drop_drop, hr]; rfl
    have hxmem := List.mem_of_getElem? hxi
    have hxt := hL x hxmem
    have hxm := (hx.2.2.1 i x hxi).2.2
    have hck := yt_cktim (p := p) (m := x.2)
    obtain ⟨b1, b2, b3⟩ := yb_m1 hx.2.2.2.1 hx.2.2.2.2.1 (fun w hw => (hx.2.2.2.2.2 w hw).1)
    have hT1 : RES = ((feed p (ckm p x.2) (evs r z) t).foldl (stp 12 a b) ((tim x.2 + cl b, cx, x.1, hy, f, fy, qx, q, ox, oy), evs Lo none)).2 := by
      have h0 : RES = _ := hT 0
      rw [List.foldl_cons, yq_hear] at h0
      exact h0
    have hdm : tm (tim x.2 + cl b) p < 1000000000000000 := by unfold tm; omega
    have hdt : tim (tm (tim x.2 + cl b) p) = tim x.2 + cl b := tim_tm hp
    -- putting x's value at the due moment, then on
    have putDue : (tim x.2 + cl b ≤ t → QV p t a b RES cx hy f fy qx ox oy q z (Lo ++ [(x.1, tm (tim x.2 + cl b) p)]) r) → (¬ tim x.2 + cl b ≤ t → QV p t a b RES cx hy f fy qx ox oy q z Lo r) → wY_quiet_111 post (wY_quiet_2 post b (r.length + 1)) b (nI i) (lN (tm (tim x.2 + cl b) p)) f_stages f_heard f_now f_calls f_parts f_start f_at f_nextX f_nextY f_x f_y a_kind a_opA a_opB a_heardBy a_what a_said a_when a_over a_part a_first a_second a_user a_goStage a_goStep a_done (va) (mm) (cn) a_end a_endMom a_begun a_status a_stageOf a_began a_taken a_demand a_asked a_code a_waits a_waiting a_came a_given a_got := by
      intro q1 q2
      refine br_t rfl ?_
      rw [hfx]
      refine yw_word (f_x := nI xq) hxq hx hxi ?_
      rw [← hfx]
      refine yw_put hp hat hnow ht hdm hY (by omega) (fun y va2 mm2 cn2 g1 g2 => nm_r (nI_1 i) ?_) (fun y => nm_r (nI_1 i) ?_)
      · rw [hdt] at y
        exact ih (i + 1) _ va2 mm2 cn2 hr' (by omega) (by simp; omega) g1 (g2 xq hpx _ _ hx) (yb_trans hF g2) (q1 y)
      · rw [hdt] at y
        exact ih (i + 1) Lo va mm cn hr' (by omega) (by omega) hY hx hF (q2 y)
    refine ⟨hin, br_f (by rw [hcl, hx.1]; exact nI_ge hil (by omega)) ?_⟩
    rw [hfx]
    refine yw_of (f_x := nI xq) hxq hx hxi ?_
    rw [← hfx]
    refine yt_later hb.2.2 hp hat hxm (by omega) ⟨hin, ?_⟩
    have hcnt : cn f_x.toNatClampNeg = nI L.length := by rw [hcl]; exact hx.1
    cases r with
    | nil =>
      have hlast : i + 1 = L.length := by
        have := List.drop_eq_nil_iff.mp hr'
        omega
      refine br_t (by rw [hcnt, nI_1, hlast]) (br_f (by decide) (br_f (by decide) ⟨hin, ?_⟩))
      cases z with
      | none =>
        have hT2 : RES = ((tms p (ckm p x.2) (t - ckm p x.2)).foldl (stp 12 a b) ((tim x.2 + cl b, cx, x.1, hy, f, fy, qx, q, ox, oy), evs Lo none)).2 := hT1
        rw [yq_tms hp (by omega)] at hT2
        refine br_t (by rw [hcl]; exact b1.mpr rfl) (putDue (fun y => ?_) (fun y => ?_))
        · show RES = _
          rw [hT2, if_pos (by omega)]
        · show RES = _
          rw [hT2, if_neg (by omega)]
      | some w =>
        obtain ⟨v, m⟩ := w
        obtain ⟨hm1, j, hj, ej⟩ := hx.2.2.2.1 (v, m) rfl
        have hev0 := hx.2.2.2.2.2 (v, m) rfl
        have hmt : tim m ≤ t := hz _ rfl
        have hem : a_endMom f_x.toNatClampNeg = lN m := by rw [hcl]; exact hev0.2
        have hev : a_end f_x.toNatClampNeg = v := by rw [hcl]; exact hev0.1
        have hlt := yt_lt (p := p) (m := m) (T := tim x.2 + cl b) hp (by omega) (hfree.2 _ rfl _)
        have hckm := yt_cktim (p := p) (m := m)
        rw [yt_feede, List.foldl_append, yq_tms hp (by omega)] at hT1
        refine br_f (by rw [hcl]; exact fun y => by have := b1.mp y; simp at this) ⟨hin, ?_⟩
        by_cases hle : tm (tim x.2 + cl b) p ≤ m
        · have hdk : tim x.2 + cl b ≤ ckm p m := hlt.mp (Nat.lt_of_le_of_ne hle (fun y => hfree.2 _ rfl _ y.symm))
          refine br_t (by rw [hem]; exact (pk_lLE (by omega) (by omega)).mpr hle) (putDue (fun y => ?_) (fun y => by omega))
          show RES = _
          rw [hT1, if_pos (by omega), List.foldl_cons]
          have hfin : fin (stp 12 a b ((0, cx, x.1, hy, f, fy, qx, q, ox, oy), evs (Lo ++ [(x.1, tm (tim x.2 + cl b) p)]) none) (0, (if v = 0 then 2 else 3), v, m)).2 = true := by rw [yq_end0]; exact yt_finend _ v m
          rw [rn_fold_fin _ _ hfin, yq_end0]
        · have hdk : ¬ tim x.2 + cl b ≤ ckm p m := fun y => hle (Nat.le_of_lt (hlt.mpr y))
          have hE := yq_end1 (a := a) (b := b) (d := tim x.2 + cl b) (cx := cx) (h := x.1) (hy := hy) (f := f) (fy := fy) (qx := qx) (ox := ox) (oy := oy) (q := q) (Lo := Lo) (v := v) (m := m) (by omega)
          have hfin : fin (stp 12 a b ((tim x.2 + cl b, cx, x.1, hy, f, fy, qx, q, ox, oy), evs Lo none) (0, (if v = 0 then 2 else 3), v, m)).2 = true := by
            rw [hE]
            by_cases h0 : v = 0
            · rw [if_pos h0]; exact yt_finend _ v m
            · rw [if_neg h0]; exact yt_finend _ v m
          rw [if_neg (by omega), List.foldl_cons, rn_fold_fin _ _ hfin, hE] at hT1
          refine br_f (by rw [hem]; exact fun y => hle ((pk_lLE (by omega) (by omega)).mp y)) (br_f (by decide) ⟨hin, ?_⟩)
          by_cases h0 : v = 0
          · refine br_t (by rw [hev]; exact h0) ?_
            rw [hfx]
            refine yw_word (f_x := nI xq) hxq hx hxi ⟨by rw [← hfx]; exact hin, ?_⟩
            rw [← hfx, hem]
            refine yw_put hp hat hnow ht hm1 hY (by omega) (fun y va2 mm2 cn2 g1 g2 => nm_r (nI_1 i) ?_) (fun y => absurd hmt y)
            refine ih (i + 1) _ va2 mm2 cn2 hr' (by omega) (by simp; omega) g1 (g2 xq hpx _ _ hx) (yb_trans hF g2) ?_
            show RES = _
            rw [hT1, if_pos h0]
          · refine br_f (by rw [hev]; exact h0) (nm_r (nI_1 i) ?_)
            refine ih (i + 1) Lo va mm cn hr' (by omega) (by omega) hY hx hF ?_
            show RES = _
            rw [hT1, if_neg h0]
    | cons y r2 =>
      have hyi : L[i + 1]? = some y := by rw [← List.head?_drop, hr']; rfl
      have hyl := yb_idx hyi
      have hymem := List.mem_of_getElem? hyi
      have hyt := hL y hymem
      have hym := (hx.2.2.1 (i + 1) y hyi).2.2
      have hlt := yt_lt (p := p) (m := y.2) (T := tim x.2 + cl b) hp (by omega) (hfree.1 y hymem _)
      have hcky := yt_cktim (p := p) (m := y.2)
      rw [yt_feedi, List.foldl_append, yq_tms hp (by omega)] at hT1
      refine br_f (by rw [hcnt, nI_1, nI_eq (by omega) (by omega)]; omega) (br_t rfl ?_)
      rw [hfx, nI_1]
      refine yw_of (f_x := nI xq) hxq hx hyi ?_
      rw [← hfx]
      by_cases hle : tm (tim x.2 + cl b) p ≤ y.2
      · have hdk : tim x.2 + cl b ≤ ckm p y.2 := hlt.mp (Nat.lt_of_le_of_ne hle (fun w => hfree.1 y hymem _ w.symm))
        refine br_t ((pk_lLE (by omega) (by omega)).mpr hle) (br_t rfl (putDue (fun _ h => ?_) (fun w => by omega)))
        rw [hT1, if_pos (by omega), List.foldl_cons, List.foldl_cons, yq_hear, yq_hear]
      · have hdk : ¬ tim x.2 + cl b ≤ ckm p y.2 := fun w => hle (Nat.le_of_lt (hlt.mpr w))
        refine br_f (fun w => hle ((pk_lLE (by omega) (by omega)).mp w)) (nm_e ?_)
        refine ih (i + 1) Lo va mm cn hr' (by omega) (by omega) hY hx hF (fun h => ?_)
        rw [hT1, if_neg (by omega), List.foldl_cons, List.foldl_cons, yq_hear, yq_hear]
end
end
section
/-! ===== the reference: both, the common walk ===== -/
def ze (z : Option (Int32 × Nat)) : Nat := match z with | none => 0 | some _ => 1
theorem yd_len (L : List (Int32 × Nat)) (z : Option (Int32 × Nat)) : (evs L z).length = L.length + ze z := by
  cases z <;> simp [evs, ze]
theorem yd_item {L : List (Int32 × Nat)} {z : Option (Int32 × Nat)} {i : Nat} (h : i < L.length) : (evs L z)[i]? = some (1, L[i].1, L[i].2) := by
  unfold evs
  rw [List.getElem?_append_left (by simpa using h)]
  simp [h]
theorem yd_endi {L : List (Int32 × Nat)} {v : Int32} {m : Nat} : (evs L (some (v, m)))[L.length]? = some (if v = 0 then 2 else 3, v, m) := by
  unfold evs
  rw [List.getElem?_append_right (by simp)]
  simp
theorem yd_drop {L : List (Int32 × Nat)} {z : Option (Int32 × Nat)} {i : Nat} {e : Ev} (h : (evs L z)[i]? = some e) : (evs L z).drop i = e :: (evs L z).drop (i + 1) := by
  obtain ⟨hl, hv⟩ := List.getElem?_eq_some_iff.mp h
  rw [List.drop_eq_getElem_cons hl, hv]
theorem yd_dropn {L : List (Int32 × Nat)} {z : Option (Int32 × Nat)} {i : Nat} (h : ¬ i < (evs L z).length) : (evs L z).drop i = [] := List.drop_eq_nil_iff.mpr (by omega)
section
variable {f_stages : Int32} {f_heard : Int32} {f_now : Int32} {f_calls : Int64} {f_parts : Int32} {f_start : Int64} {f_at : Int32} {f_nextX : Int32} {f_nextY : Int32} {f_x : Int32} {f_y : Int32} {a_kind : (Nat → Int32)} {a_opA : (Nat → Int32)} {a_opB : (Nat → Int32)} {a_heardBy : (Nat → Int32)} {a_what : (Nat → Int32)} {a_said : (Nat → Int32)} {a_when : (Nat → Int64)} {a_over : (Nat → Int32)} {a_part : (Nat → Int32)} {a_first : (Nat → Int32)} {a_second : (Nat → Int32)} {a_user : (Nat → Int32)} {a_goStage : (Nat → Int32)} {a_goStep : (Nat → Int32)} {a_done : (Nat → Int32)} {a_val : (Nat → Int32)} {a_mom : (Nat → Int64)} {a_cnt : (Nat → Int32)} {a_end : (Nat → Int32)} {a_endMom : (Nat → Int64)} {a_begun : (Nat → Int32)} {a_status : (Nat → Int32)} {a_stageOf : (Nat → Int32)} {a_began : (Nat → Int64)} {a_taken : (Nat → Int32)} {a_demand : (Nat → Int64)} {a_asked : (Nat → Int32)} {a_code : (Nat → Int32)} {a_waits : (Nat → Int32)} {a_waiting : (Nat → Int32)} {a_came : (Nat → Int32)} {a_given : (Nat → Int32)} {a_got : (Nat → Int64)}
theorem yd_has {post : Int32 → Prop} {q i : Nat} {L : List (Int32 × Nat)} {z : Option (Int32 × Nat)} (hq : q < 9) (hi : i ≤ 1000) (hY : YA a_val a_mom a_cnt a_end a_endMom q L z) (H : post (bI (decide (i < (evs L z).length)))) : wpY_has post (f_stages, f_heard, f_now, f_calls, f_parts, f_start, f_at, f_nextX, f_nextY, f_x, f_y, a_kind, a_opA, a_opB, a_heardBy, a_what, a_said, a_when, a_over, a_part, a_first, a_second, a_user, a_goStage, a_goStep, a_done, a_val, a_mom, a_cnt, a_end, a_endMom, a_begun, a_status, a_stageOf, a_began, a_taken, a_demand, a_asked, a_code, a_waits, a_waiting, a_came, a_given, a_got) (nI q) (nI i) := by
  have hcl : (nI q).toNatClampNeg = q := nI_clamp (by omega)
  have hin : vp_in (nI q) 9 := vp_in_nI hq (by decide)
  obtain ⟨b1, b2, b3⟩ := yb_m1 hY.2.2.2.1 hY.2.2.2.2.1 (fun w hw => (hY.2.2.2.2.2 w hw).1)
  have hl := hY.2.1
  rw [yd_len] at H
  refine ⟨hin, ?_⟩
  by_cases h1 : i < L.length
  · rw [decide_eq_true (by omega)] at H
    exact br_t (by rw [hcl, hY.1]; exact nI_lt h1 (by omega)) H
  · refine br_f (by rw [hcl, hY.1]; exact nI_nlt (by omega) (by omega)) ⟨hin, ?_⟩
    by_cases h2 : i = L.length
    · refine br_t (by rw [hcl, hY.1, h2]) ⟨hin, ?_⟩
      cases z with
      | none =>
        rw [decide_eq_false (by simp [ze]; omega)] at H
        exact br_t (by rw [hcl]; exact b1.mpr rfl) H
      | some w =>
        rw [decide_eq_true (by simp [ze]; omega)] at H
        exact br_f (by rw [hcl]; exact fun y => by have := b1.mp y; simp at this) H
    · rw [decide_eq_false (by cases z <;> simp [ze] <;> omega)] at H
      exact br_f (by rw [hcl, hY.1, nI_eq (by omega) (by omega)]; exact h2) H
theorem yd_place {post : Int64 → Prop} {q i : Nat} {L : List (Int32 × Nat)} {z : Option (Int32 × Nat)} {e : Ev} (hq : q < 9) (hY : YA a_val a_mom a_cnt a_end a_endMom q L z) (he : (evs L z)[i]? = some e) (H : post (lN e.2.2)) : wpY_place post (f_stages, f_heard, f_now, f_calls, f_parts, f_start, f_at, f_nextX, f_nextY, f_x, f_y, a_kind, a_opA, a_opB, a_heardBy, a_what, a_said, a_when, a_over, a_part, a_first, a_second, a_user, a_goStage, a_goStep, a_done, a_val, a_mom, a_cnt, a_end, a_endMom, a_begun, a_status, a_stageOf, a_began, a_taken, a_demand, a_asked, a_code, a_waits, a_waiting, a_came, a_given, a_got) (nI q) (nI i) := by
  have hcl : (nI q).toNatClampNeg = q := nI_clamp (by omega)
  have hin : vp_in (nI q) 9 := vp_in_nI hq (by decide)
  have hl := hY.2.1
  have hil : i < (evs L z).length := by
    rcases Nat.lt_or_ge i (evs L z).length with y | y
    · exact y
    · rw [List.getElem?_eq_none y] at he; exact absurd he (by simp)
  rw [yd_len] at hil
  refine ⟨hin, ?_⟩
  by_cases h1 : i < L.length
  · rw [yd_item h1] at he
    cases he
    refine br_f (by rw [hcl, hY.1]; exact nI_ge h1 (by omega)) ?_
    exact yw_of hq hY (List.getElem?_eq_getElem h1) H
  · cases z with
    | none => simp [ze] at hil; omega
    | some w =>
      obtain ⟨v, m⟩ := w
      have h2 : i = L.length := by simp [ze] at hil; omega
      subst h2
      rw [yd_endi] at he
      cases he
      refine br_t (by rw [hcl, hY.1]; exact nI_le (Nat.le_refl _) (by omega)) ⟨hin, ?_⟩
      rw [show a_endMom (nI q).toNatClampNeg = lN m from by rw [hcl]; exact (hY.2.2.2.2.2 _ rfl).2]
      exact H
def mn (i n : Nat) : Nat := if i < n then i else n
/-- is the join over, by the counts -/
def cmp (k : Nat) (i j n m : Nat) : Bool := if k = 17 then (decide (n < i) && decide (mn i n ≤ mn j m)) || (decide (m < j) && decide (mn j m ≤ mn i n)) else if k = 18 then (decide (n < i) && decide (n = 0)) || (decide (m < j) && decide (m = 0)) || (decide (n < i) && decide (m < j)) else decide (n < i) && decide (m < j)
theorem yd_completes {post : Int32 → Prop} {k xq yq i j : Nat} {Lx Ly : List (Int32 × Nat)} {zx zy : Option (Int32 × Nat)} (hk : k = 16 ∨ k = 17 ∨ k = 18) (hxq : xq < 9) (hyq : yq < 9) (hfx : f_x = nI xq) (hfy : f_y = nI yq) (hi : i ≤ 1000) (hj : j ≤ 1000) (hnx : f_nextX = nI i) (hny : f_nextY = nI j) (hx : YA a_val a_mom a_cnt a_end a_endMom xq Lx zx) (hy : YA a_val a_mom a_cnt a_end a_endMom yq Ly zy) (H : post (bI (cmp k i j Lx.length Ly.length))) : wpY_completes post (f_stages, f_heard, f_now, f_calls, f_parts, f_start, f_at, f_nextX, f_nextY, f_x, f_y, a_kind, a_opA, a_opB, a_heardBy, a_what, a_said, a_when, a_over, a_part, a_first, a_second, a_user, a_goStage, a_goStep, a_done, a_val, a_mom, a_cnt, a_end, a_endMom, a_begun, a_status, a_stageOf, a_began, a_taken, a_demand, a_asked, a_code, a_waits, a_waiting, a_came, a_given, a_got) (nI k) := by
  have hcx : f_x.toNatClampNeg = xq := by rw [hfx]; exact nI_clamp (by omega)
  have hcy : f_y.toNatClampNeg = yq := by rw [hfy]; exact nI_clamp (by omega)
  have hix : vp_in f_x 9 := by rw [hfx]; exact vp_in_nI hxq (by decide)
  have hiy : vp_in f_y 9 := by rw [hfy]; exact vp_in_nI hyq (by decide)
  have cx : a_cnt f_x.toNatClampNeg = nI Lx.length := by rw [hcx]; exact hx.1
  have cy : a_cnt f_y.toNatClampNeg = nI Ly.length := by rw [hcy]; exact hy.1
  have lx := hx.2.1
  have ly := hy.2.1
  have s110 : ∀ (ox oy : Bool) (a c : Nat), ox = decide (Lx.length < i) → oy = decide (Ly.length < j) → a = mn i Lx.length → c = mn j Ly.length → wY_completes_110 post (nI k) (bI ox) (bI oy) (nI a) (nI c) f_stages f_heard f_now f_calls f_parts f_start f_at f_nextX f_nextY f_x f_y a_kind a_opA a_opB a_heardBy a_what a_said a_when a_over a_part a_first a_second a_user a_goStage a_goStep a_done a_val a_mom a_cnt a_end a_endMom a_begun a_status a_stageOf a_began a_taken a_demand a_asked a_code a_waits a_waiting a_came a_given a_got := by
    intro ox oy a c e1 e2 e3 e4
    have ha : a ≤ 1000 := by rw [e3]; unfold mn; split <;> omega
    have hc' : c ≤ 1000 := by rw [e4]; unfold mn; split <;> omega
    have s186 : cmp k i j Lx.length Ly.length = (ox && oy) → wY_completes_186 post (bI ox) (bI oy) f_stages f_heard f_now f_calls f_parts f_start f_at f_nextX f_nextY f_x f_y a_kind a_opA a_opB a_heardBy a_what a_said a_when a_over a_part a_first a_second a_user a_goStage a_goStep a_done a_val a_mom a_cnt a_end a_endMom a_begun a_status a_stageOf a_began a_taken a_demand a_asked a_code a_waits a_waiting a_came a_given a_got := by
      intro hcm
      rw [hcm] at H
      cases ox
      · exact br_t rfl H
      · refine br_f (by decide) ?_
        cases oy
        · exact br_t rfl H
        · exact br_f (by decide) H
    rcases hk with e | e | e
    · subst e
      refine br_f (by decide) (br_f (by decide) (s186 ?_))
      rw [e1, e2]; simp [cmp]
    · subst e
      have hcm : cmp 17 i j Lx.length Ly.length = ((ox && decide (a ≤ c)) || (oy && decide (c ≤ a))) := by rw [e1, e2, e3, e4]; simp [cmp]
      rw [hcm] at H
      have s129 : (ox && decide (a ≤ c)) = false → wY_completes_129 post (bI oy) (nI a) (nI c) f_stages f_heard f_now f_calls f_parts f_start f_at f_nextX f_nextY f_x f_y a_kind a_opA a_opB a_heardBy a_what a_said a_when a_over a_part a_first a_second a_user a_goStage a_goStep a_done a_val a_mom a_cnt a_end a_endMom a_begun a_status a_stageOf a_began a_taken a_demand a_asked a_code a_waits a_waiting a_came a_given a_got := by
        intro h0
        rw [h0, Bool.false_or] at H
        cases oy
        · exact br_t rfl H
        · refine br_f (by decide) ?_
          by_cases h2 : a < c
          · rw [decide_eq_false (by omega)] at H
            exact br_t (nI_lt h2 (by omega)) H
          · rw [decide_eq_true (by omega)] at H
            exact br_f (nI_nlt (by omega) (by omega)) H
      refine br_t rfl ?_
      cases ox
      · exact br_t rfl (s129 rfl)
      · refine br_f (by decide) ?_
        by_cases h1 : a ≤ c
        · rw [decide_eq_true h1] at H
          exact br_t (nI_le h1 (by omega)) H
        · exact br_f (nI_ge (by omega) (by omega)) (s129 (by rw [decide_eq_false h1]; rfl))
    · subst e
      have hcm : cmp 18 i j Lx.length Ly.length = ((ox && decide (Lx.length = 0)) || (oy && decide (Ly.length = 0)) || (ox && oy)) := by rw [e1, e2]; simp [cmp]
      refine br_f (by decide) (br_t rfl ?_)
      have s168 : (ox && decide (Lx.length = 0)) = false → wY_completes_168 post (bI ox) (bI oy) f_stages f_heard f_now f_calls f_parts f_start f_at f_nextX f_nextY f_x f_y a_kind a_opA a_opB a_heardBy a_what a_said a_when a_over a_part a_first a_second a_user a_goStage a_goStep a_done a_val a_mom a_cnt a_end a_endMom a_begun a_status a_stageOf a_began a_taken a_demand a_asked a_code a_waits a_waiting a_came a_given a_got := by
        intro h0
        rw [h0, Bool.false_or] at hcm
        cases oy
        · exact br_t rfl (s186 (by rw [hcm]; simp))
        · refine br_f (by decide) ⟨hiy, ?_⟩
          by_cases h2 : Ly.length = 0
          · rw [hcm, decide_eq_true h2] at H
            exact br_t (by rw [cy, h2]; rfl) H
          · exact br_f (by rw [cy]; exact nI_ne0 (by omega) (by omega)) (s186 (by rw [hcm, decide_eq_false h2]; simp))
      cases ox
      · exact br_t rfl (s168 rfl)
      · refine br_f (by decide) ⟨hix, ?_⟩
        by_cases h1 : Lx.length = 0
        · rw [hcm, decide_eq_true h1] at H
          exact br_t (by rw [cx, h1]; rfl) H
        · exact br_f (by rw [cx]; exact nI_ne0 (by omega) (by omega)) (s168 (by rw [decide_eq_false h1]; rfl))
  have s76 : ∀ (ox oy : Bool) (a : Nat), ox = decide (Lx.length < i) → oy = decide (Ly.length < j) → a = mn i Lx.length → wY_completes_76 post (nI k) (bI ox) (bI oy) (nI a) f_stages f_heard f_now f_calls f_parts f_start f_at f_nextX f_nextY f_x f_y a_kind a_opA a_opB a_heardBy a_what a_said a_when a_over a_part a_first a_second a_user a_goStage a_goStep a_done a_val a_mom a_cnt a_end a_endMom a_begun a_status a_stageOf a_began a_taken a_demand a_asked a_code a_waits a_waiting a_came a_given a_got := by
    intro ox oy a e1 e2 e3
    refine ⟨hiy, ?_⟩
    by_cases h : j < Ly.length
    · refine br_f (by rw [cy, hny]; exact nI_ge h (by omega)) ?_
      have := s110 ox oy a j e1 e2 e3 (by unfold mn; rw [if_pos h])
      rw [hny]
      rw [← hny] at this ⊢
      exact this
    · refine br_t (by rw [cy, hny]; exact nI_le (by omega) (by omega)) ⟨hiy, ?_⟩
      rw [cy]
      exact s110 ox oy a Ly.length e1 e2 e3 (by unfold mn; rw [if_neg h])
  have s43 : ∀ (ox oy : Bool), ox = decide (Lx.length < i) → oy = decide (Ly.length < j) → wY_completes_43 post (nI k) (bI ox) (bI oy) f_stages f_heard f_now f_calls f_parts f_start f_at f_nextX f_nextY f_x f_y a_kind a_opA a_opB a_heardBy a_what a_said a_when a_over a_part a_first a_second a_user a_goStage a_goStep a_done a_val a_mom a_cnt a_end a_endMom a_begun a_status a_stageOf a_began a_taken a_demand a_asked a_code a_waits a_waiting a_came a_given a_got := by
    intro ox oy e1 e2
    refine ⟨hix, ?_⟩
    by_cases h : i < Lx.length
    · refine br_f (by rw [cx, hnx]; exact nI_ge h (by omega)) ?_
      have := s76 ox oy i e1 e2 (by unfold mn; rw [if_pos h])
      rw [← hnx] at this
      exact this
    · refine br_t (by rw [cx, hnx]; exact nI_le (by omega) (by omega)) ⟨hix, ?_⟩
      rw [cx]
      exact s76 ox oy Lx.length e1 e2 (by unfold mn; rw [if_neg h])
  have s21 : ∀ (ox : Bool), ox = decide (Lx.length < i) → wY_completes_21 post (nI k) (bI ox) f_stages f_heard f_now f_calls f_parts f_start f_at f_nextX f_nextY f_x f_y a_kind a_opA a_opB a_heardBy a_what a_said a_when a_over a_part a_first a_second a_user a_goStage a_goStep a_done a_val a_mom a_cnt a_end a_endMom a_begun a_status a_stageOf a_began a_taken a_demand a_asked a_code a_waits a_waiting a_came a_given a_got := by
    intro ox e1
    refine ⟨hiy, ?_⟩
    by_cases h : Ly.length < j
    · exact br_f (by rw [cy, hny]; exact nI_ge h (by omega)) (s43 ox true e1 (decide_eq_true h).symm)
    · exact br_t (by rw [cy, hny]; exact nI_le (by omega) (by omega)) (s43 ox false e1 (decide_eq_false h).symm)
  refine ⟨hix, ?_⟩
  by_cases h : Lx.length < i
  · exact br_f (by rw [cx, hnx]; exact nI_ge h (by omega)) (s21 true (decide_eq_true h).symm)
  · exact br_t (by rw [cx, hnx]; exact nI_le (by omega) (by omega)) (s21 false (decide_eq_false h).symm)
end
end
section
/-! ===== the reference: both, one turn of the loop ===== -/
section
variable {f_stages : Int32} {f_heard : Int32} {f_now : Int32} {f_calls : Int64} {f_parts : Int32} {f_start : Int64} {f_at : Int32} {f_nextX : Int32} {f_nextY : Int32} {f_x : Int32} {f_y : Int32} {a_kind : (Nat → Int32)} {a_opA : (Nat → Int32)} {a_opB : (Nat → Int32)} {a_heardBy : (Nat → Int32)} {a_what : (Nat → Int32)} {a_said : (Nat → Int32)} {a_when : (Nat → Int64)} {a_over : (Nat → Int32)} {a_part : (Nat → Int32)} {a_first : (Nat → Int32)} {a_second : (Nat → Int32)} {a_user : (Nat → Int32)} {a_goStage : (Nat → Int32)} {a_goStep : (Nat → Int32)} {a_done : (Nat → Int32)} {a_val : (Nat → Int32)} {a_mom : (Nat → Int64)} {a_cnt : (Nat → Int32)} {a_end : (Nat → Int32)} {a_endMom : (Nat → Int64)} {a_begun : (Nat → Int32)} {a_status : (Nat → Int32)} {a_stageOf : (Nat → Int32)} {a_began : (Nat → Int64)} {a_taken : (Nat → Int32)} {a_demand : (Nat → Int64)} {a_asked : (Nat → Int32)} {a_code : (Nat → Int32)} {a_waits : (Nat → Int32)} {a_waiting : (Nat → Int32)} {a_came : (Nat → Int32)} {a_given : (Nat → Int32)} {a_got : (Nat → Int64)}
theorem yd_314 {post : SY → Prop} {J : Int32 → Int32 → Int32 → Int64 → Int32 → Int64 → Int32 → Int32 → Int32 → Int32 → Int32 → (Nat → Int32) → (Nat → Int32) → (Nat → Int32) → (Nat → Int32) → (Nat → Int32) → (Nat → Int32) → (Nat → Int64) → (Nat → Int32) → (Nat → Int32) → (Nat → Int32) → (Nat → Int32) → (Nat → Int32) → (Nat → Int32) → (Nat → Int32) → (Nat → Int32) → (Nat → Int32) → (Nat → Int64) → (Nat → Int32) → (Nat → Int32) → (Nat → Int64) → (Nat → Int32) → (Nat → Int32) → (Nat → Int32) → (Nat → Int64) → (Nat → Int32) → (Nat → Int64) → (Nat → Int32) → (Nat → Int32) → (Nat → Int32) → (Nat → Int32) → (Nat → Int32) → (Nat → Int32) → (Nat → Int64) → Prop} {p k xq yq i j t m : Nat} {Lx Ly Lo : List (Int32 × Nat)} {zx zy : Option (Int32 × Nat)} (hk : k = 16 ∨ k = 17 ∨ k = 18) (hp : p < 9) (hat : f_at = nI p) (hnow : f_now = nI t) (ht : t ≤ 200) (hm : m < 1000000000000000) (hmt : tim m ≤ t) (hxq : xq < 9) (hyq : yq < 9) (hfx : f_x = nI xq) (hfy : f_y = nI yq) (hi : i ≤ 1000) (hj : j ≤ 1000) (hnx : f_nextX = nI i) (hny : f_nextY = nI j) (hY : YA a_val a_mom a_cnt a_end a_endMom p Lo none) (hx : YA a_val a_mom a_cnt a_end a_endMom xq Lx zx) (hy : YA a_val a_mom a_cnt a_end a_endMom yq Ly zy)
    (H1 : cmp k i j Lx.length Ly.length = false → J f_stages f_heard f_now f_calls f_parts f_start f_at f_nextX f_nextY f_x f_y a_kind a_opA a_opB a_heardBy a_what a_said a_when a_over a_part a_first a_second a_user a_goStage a_goStep a_done a_val a_mom a_cnt a_end a_endMom a_begun a_status a_stageOf a_began a_taken a_demand a_asked a_code a_waits a_waiting a_came a_given a_got) (H2 : cmp k i j Lx.length Ly.length = true → ∀ en em, YA a_val a_mom a_cnt en em p Lo (some (0, m)) → YF p a_val a_mom a_cnt a_end a_endMom a_val a_mom a_cnt en em → post (f_stages, f_heard, f_now, f_calls, f_parts, f_start, f_at, f_nextX, f_nextY, f_x, f_y, a_kind, a_opA, a_opB, a_heardBy, a_what, a_said, a_when, a_over, a_part, a_first, a_second, a_user, a_goStage, a_goStep, a_done, a_val, a_mom, a_cnt, en, em, a_begun, a_status, a_stageOf, a_began, a_taken, a_demand, a_asked, a_code, a_waits, a_waiting, a_came, a_given, a_got)) : wY_both_314 post J (nI k) (lN m) f_stages f_heard f_now f_calls f_parts f_start f_at f_nextX f_nextY f_x f_y a_kind a_opA a_opB a_heardBy a_what a_said a_when a_over a_part a_first a_second a_user a_goStage a_goStep a_done a_val a_mom a_cnt a_end a_endMom a_begun a_status a_stageOf a_began a_taken a_demand a_asked a_code a_waits a_waiting a_came a_given a_got := by
  have hcl : f_at.toNatClampNeg = p := by rw [hat]; exact nI_clamp (by omega)
  have hin : vp_in f_at 9 := by rw [hat]; exact vp_in_nI hp (by decide)
  obtain ⟨b1, b2, b3⟩ := yb_m1 hY.2.2.2.1 hY.2.2.2.2.1 (fun w hw => (hY.2.2.2.2.2 w hw).1)
  refine ⟨hin, br_f (by rw [hcl]; exact fun y => b2.mp y rfl) ?_⟩
  refine yd_completes hk hxq hyq hfx hfy hi hj hnx hny hx hy ?_
  rcases Bool.eq_false_or_eq_true (cmp k i j Lx.length Ly.length) with y | y
  · rw [y]
    exact br_f (by decide) (yw_stop (j := 0) hp hat hnow ht hm (by decide) rfl hY (fun _ en em k1 k2 => H2 y en em k1 k2) (fun z => absurd hmt z))
  · rw [y]
    exact br_t rfl (H1 y)
theorem yd_head {post : SY → Prop} {p k xq yq i j n : Nat} {Lx Ly Lo : List (Int32 × Nat)} {zx zy : Option (Int32 × Nat)} (hp : p < 9) (hat : f_at = nI p) (hxq : xq < 9) (hyq : yq < 9) (hfx : f_x = nI xq) (hfy : f_y = nI yq) (hi : i ≤ 1000) (hj : j ≤ 1000) (hnx : f_nextX = nI i) (hny : f_nextY = nI j) (hmx : ∀ e ∈ evs Lx zx, e.2.2 < 1000000000000000) (hmy : ∀ e ∈ evs Ly zy, e.2.2 < 1000000000000000) (hY : YA a_val a_mom a_cnt a_end a_endMom p Lo none) (hx : YA a_val a_mom a_cnt a_end a_endMom xq Lx zx) (hy : YA a_val a_mom a_cnt a_end a_endMom yq Ly zy)
    (H0 : ¬ i < (evs Lx zx).length → ¬ j < (evs Ly zy).length → post (f_stages, f_heard, f_now, f_calls, f_parts, f_start, f_at, f_nextX, f_nextY, f_x, f_y, a_kind, a_opA, a_opB, a_heardBy, a_what, a_said, a_when, a_over, a_part, a_first, a_second, a_user, a_goStage, a_goStep, a_done, a_val, a_mom, a_cnt, a_end, a_endMom, a_begun, a_status, a_stageOf, a_began, a_taken, a_demand, a_asked, a_code, a_waits, a_waiting, a_came, a_given, a_got))
    (Hx : ∀ ex, (evs Lx zx)[i]? = some ex → (∀ ey, (evs Ly zy)[j]? = some ey → ¬ ey.2.2 < ex.2.2) → wY_both_188 post (wY_both_10 post (nI k) n) (nI k) 1 (nI xq) (nI i) (lN ex.2.2) (bI (decide (i < Lx.length))) f_stages f_heard f_now f_calls f_parts f_start f_at (nI (i + 1)) f_nextY f_x f_y a_kind a_opA a_opB a_heardBy a_what a_said a_when a_over a_part a_first a_second a_user a_goStage a_goStep a_done a_val a_mom a_cnt a_end a_endMom a_begun a_status a_stageOf a_began a_taken a_demand a_asked a_code a_waits a_waiting a_came a_given a_got)
    (Hy : ∀ ey, (evs Ly zy)[j]? = some ey → (∀ ex, (evs Lx zx)[i]? = some ex → ey.2.2 < ex.2.2) → wY_both_188 post (wY_both_10 post (nI k) n) (nI k) 0 (nI yq) (nI j) (lN ey.2.2) (bI (decide (j < Ly.length))) f_stages f_heard f_now f_calls f_parts f_start f_at f_nextX (nI (j + 1)) f_x f_y a_kind a_opA a_opB a_heardBy a_what a_said a_when a_over a_part a_first a_second a_user a_goStage a_goStep a_done a_val a_mom a_cnt a_end a_endMom a_begun a_status a_stageOf a_began a_taken a_demand a_asked a_code a_waits a_waiting a_came a_given a_got) :
    wY_both_10 post (nI k) (n + 1) f_stages f_heard f_now f_calls f_parts f_start f_at f_nextX f_nextY f_x f_y a_kind a_opA a_opB a_heardBy a_what a_said a_when a_over a_part a_first a_second a_user a_goStage a_goStep a_done a_val a_mom a_cnt a_end a_endMom a_begun a_status a_stageOf a_began a_taken a_demand a_asked a_code a_waits a_waiting a_came a_given a_got := by
  have hcl : f_at.toNatClampNeg = p := by rw [hat]; exact nI_clamp (by omega)
  have hin : vp_in f_at 9 := by rw [hat]; exact vp_in_nI hp (by decide)
  have lx := hx.2.1
  have ly := hy.2.1
  obtain ⟨b1, b2, b3⟩ := yb_m1 hY.2.2.2.1 hY.2.2.2.2.1 (fun w hw => (hY.2.2.2.2.2 w hw).1)
  have gx : ∀ ex, (evs Lx zx)[i]? = some ex → (∀ ey, (evs Ly zy)[j]? = some ey → ¬ ey.2.2 < ex.2.2) → wY_both_110 post (wY_both_10 post (nI k) n) (nI k) f_stages f_heard f_now f_calls f_parts f_start f_at f_nextX f_nextY f_x f_y a_kind a_opA a_opB a_heardBy a_what a_said a_when a_over a_part a_first a_second a_user a_goStage a_goStep a_done a_val a_mom a_cnt a_end a_endMom a_begun a_status a_stageOf a_began a_taken a_demand a_asked a_code a_waits a_waiting a_came a_given a_got := by
    intro ex h1 h2
    have h188 := Hx ex h1 h2
    refine br_f (by decide) (br_f (by decide) (nm_r (e' := nI (i + 1)) (by rw [hnx, nI_1]) ?_))
    rw [hfx, hnx]
    rw [hfx] at h188
    refine yd_place (f_x := nI xq) (f_nextX := nI (i + 1)) hxq hx h1 ⟨vp_in_nI hxq (by decide), ?_⟩
    have hcx : (nI xq).toNatClampNeg = xq := nI_clamp (by omega)
    by_cases hil : i < Lx.length
    · rw [decide_eq_true hil] at h188
      exact br_f (by rw [hcx, hx.1]; exact nI_ge hil (by omega)) h188
    · rw [decide_eq_false hil] at h188
      exact br_t (by rw [hcx, hx.1]; exact nI_le (by omega) (by omega)) h188
  have gy : ∀ ey, (evs Ly zy)[j]? = some ey → (∀ ex, (evs Lx zx)[i]? = some ex → ey.2.2 < ex.2.2) → wY_both_114 post (wY_both_10 post (nI k) n) (nI k) f_stages f_heard f_now f_calls f_parts f_start f_at f_nextX f_nextY f_x f_y a_kind a_opA a_opB a_heardBy a_what a_said a_when a_over a_part a_first a_second a_user a_goStage a_goStep a_done a_val a_mom a_cnt a_end a_endMom a_begun a_status a_stageOf a_began a_taken a_demand a_asked a_code a_waits a_waiting a_came a_given a_got := by
    intro ey h1 h2
    have h188 := Hy ey h1 h2
    refine br_t rfl (br_t rfl (nm_r (e' := nI (j + 1)) (by rw [hny, nI_1]) ?_))
    rw [hfy, hny]
    rw [hfy] at h188
    refine yd_place (f_y := nI yq) (f_nextY := nI (j + 1)) hyq hy h1 ⟨vp_in_nI hyq (by decide), ?_⟩
    have hcy : (nI yq).toNatClampNeg = yq := nI_clamp (by omega)
    by_cases hjl : j < Ly.length
    · rw [decide_eq_true hjl] at h188
      exact br_f (by rw [hcy, hy.1]; exact nI_ge hjl (by omega)) h188
    · rw [decide_eq_false hjl] at h188
      exact br_t (by rw [hcy, hy.1]; exact nI_le (by omega) (by omega)) h188
  have s52 : i < (evs Lx zx).length ∨ j < (evs Ly zy).length → wY_both_52 post (wY_both_10 post (nI k) n) (nI k) f_stages f_heard f_now f_calls f_parts f_start f_at f_nextX f_nextY f_x f_y a_kind a_opA a_opB a_heardBy a_what a_said a_when a_over a_part a_first a_second a_user a_goStage a_goStep a_done a_val a_mom a_cnt a_end a_endMom a_begun a_status a_stageOf a_began a_taken a_demand a_asked a_code a_waits a_waiting a_came a_given a_got := by
    intro hor
    have hasx : wpY_has (fun r_49 => (((r_49 = 0 → (wY_both_114 post (wY_both_10 post (nI k) n) (nI k) f_stages f_heard f_now f_calls f_parts f_start f_at f_nextX f_nextY f_x f_y a_kind a_opA a_opB a_heardBy a_what a_said a_when a_over a_part a_first a_second a_user a_goStage a_goStep a_done a_val a_mom a_cnt a_end a_endMom a_begun a_status a_stageOf a_began a_taken a_demand a_asked a_code a_waits a_waiting a_came a_given a_got)) ∧ (¬ r_49 = 0 → (wpY_has (fun r_480 => (((r_480 = 0 → (wY_both_110 post (wY_both_10 post (nI k) n) (nI k) f_stages f_heard f_now f_calls f_parts f_start f_at f_nextX f_nextY f_x f_y a_kind a_opA a_opB a_heardBy a_what a_said a_when a_over a_part a_first a_second a_user a_goStage a_goStep a_done a_val a_mom a_cnt a_end a_endMom a_begun a_status a_stageOf a_began a_taken a_demand a_asked a_code a_waits a_waiting a_came a_given a_got)) ∧ (¬ r_480 = 0 → (wpY_place (fun r_526 => (wpY_place (fun r_571 => (((r_571 < r_526 → (wY_both_114 post (wY_both_10 post (nI k) n) (nI k) f_stages f_heard f_now f_calls f_parts f_start f_at f_nextX f_nextY f_x f_y a_kind a_opA a_opB a_heardBy a_what a_said a_when a_over a_part a_first a_second a_user a_goStage a_goStep a_done a_val a_mom a_cnt a_end a_endMom a_begun a_status a_stageOf a_began a_taken a_demand a_asked a_code a_waits a_waiting a_came a_given a_got)) ∧ (¬ r_571 < r_526 → (wY_both_110 post (wY_both_10 post (nI k) n) (nI k) f_stages f_heard f_now f_calls f_parts f_start f_at f_nextX f_nextY f_x f_y a_kind a_opA a_opB a_heardBy a_what a_said a_when a_over a_part a_first a_second a_user a_goStage a_goStep a_done a_val a_mom a_cnt a_end a_endMom a_begun a_status a_stageOf a_began a_taken a_demand a_asked a_code a_waits a_waiting a_came a_given a_got))))) (f_stages, f_heard, f_now, f_calls, f_parts, f_start, f_at, f_nextX, f_nextY, f_x, f_y, a_kind, a_opA, a_opB, a_heardBy, a_what, a_said, a_when, a_over, a_part, a_first, a_second, a_user, a_goStage, a_goStep, a_done, a_val, a_mom, a_cnt, a_end, a_endMom, a_begun, a_status, a_stageOf, a_began, a_taken, a_demand, a_asked, a_code, a_waits, a_waiting, a_came, a_given, a_got) (nI yq) (nI j))) (f_stages, f_heard, f_now, f_calls, f_parts, f_start, f_at, f_nextX, f_nextY, f_x, f_y, a_kind, a_opA, a_opB, a_heardBy, a_what, a_said, a_when, a_over, a_part, a_first, a_second, a_user, a_goStage, a_goStep, a_done, a_val, a_mom, a_cnt, a_end, a_endMom, a_begun, a_status, a_stageOf, a_began, a_taken, a_demand, a_asked, a_code, a_waits, a_waiting, a_came, a_given, a_got) (nI xq) (nI i)))))) (f_stages, f_heard, f_now, f_calls, f_parts, f_start, f_at, f_nextX, f_nextY, f_x, f_y, a_kind, a_opA, a_opB, a_heardBy, a_what, a_said, a_when, a_over, a_part, a_first, a_second, a_user, a_goStage, a_goStep, a_done, a_val, a_mom, a_cnt, a_end, a_endMom, a_begun, a_status, a_stageOf, a_began, a_taken, a_demand, a_asked, a_code, a_waits, a_waiting, a_came, a_given, a_got) (nI yq) (nI j)))))) (f_stages, f_heard, f_now, f_calls, f_parts, f_start, f_at, f_nextX, f_nextY, f_x, f_y, a_kind, a_opA, a_opB, a_heardBy, a_what, a_said, a_when, a_over, a_part, a_first, a_second, a_user, a_goStage, a_goStep, a_done, a_val, a_mom, a_cnt, a_end, a_endMom, a_begun, a_status, a_stageOf, a_began, a_taken, a_demand, a_asked, a_code, a_waits, a_waiting, a_came, a_given, a_got) (nI xq) (nI i) := by
      refine yd_has hxq hi hx ?_
      by_cases hix : i < (evs Lx zx).length
      · rw [decide_eq_true hix]
        obtain ⟨ex, hex⟩ : ∃ ex, (evs Lx zx)[i]? = some ex := ⟨_, List.getElem?_eq_getElem hix⟩
        refine br_f (by decide) (yd_has hyq hj hy ?_)
        by_cases hjy : j < (evs Ly zy).length
        · rw [decide_eq_true hjy]
          obtain ⟨ey, hey⟩ : ∃ ey, (evs Ly zy)[j]? = some ey := ⟨_, List.getElem?_eq_getElem hjy⟩
          have mx := hmx ex (List.mem_of_getElem? hex)
          have my := hmy ey (List.mem_of_getElem? hey)
          refine br_f (by decide) (yd_place hxq hx hex (yd_place hyq hy hey ?_))
          by_cases hlt : ey.2.2 < ex.2.2
          · exact br_t ((pk_lLT (by omega) (by omega)).mpr hlt) (gy ey hey (fun ex' h => by rw [hex] at h; cases h; exact hlt))
          · exact br_f (fun y => hlt ((pk_lLT (by omega) (by omega)).mp y)) (gx ex hex (fun ey' h => by rw [hey] at h; cases h; exact hlt))
        · rw [decide_eq_false hjy]
          exact br_t rfl (gx ex hex (fun ey h => by rw [List.getElem?_eq_none (by omega)] at h; simp at h))
      · rw [decide_eq_false hix]
        have hjy : j < (evs Ly zy).length := by rcases hor with y | y; exact absurd y hix; exact y
        obtain ⟨ey, hey⟩ : ∃ ey, (evs Ly zy)[j]? = some ey := ⟨_, List.getElem?_eq_getElem hjy⟩
        exact br_t rfl (gy ey hey (fun ex h => by rw [List.getElem?_eq_none (by omega)] at h; simp at h))
    rw [← hfx, ← hfy, ← hnx, ← hny] at hasx
    exact hasx
  refine ⟨hin, br_f (by rw [hcl]; exact fun y => b2.mp y rfl) ?_⟩
  have hh : wpY_has (fun r_3 => (((r_3 = 0 → (wpY_has (fun r_617 => (((r_617 = 0 → (post (f_stages, f_heard, f_now, f_calls, f_parts, f_start, f_at, f_nextX, f_nextY, f_x, f_y, a_kind, a_opA, a_opB, a_heardBy, a_what, a_said, a_when, a_over, a_part, a_first, a_second, a_user, a_goStage, a_goStep, a_done, a_val, a_mom, a_cnt, a_end, a_endMom, a_begun, a_status, a_stageOf, a_began, a_taken, a_demand, a_asked, a_code, a_waits, a_waiting, a_came, a_given, a_got))) ∧ (¬ r_617 = 0 → (wY_both_52 post (wY_both_10 post (nI k) n) (nI k) f_stages f_heard f_now f_calls f_parts f_start f_at f_nextX f_nextY f_x f_y a_kind a_opA a_opB a_heardBy a_what a_said a_when a_over a_part a_first a_second a_user a_goStage a_goStep a_done a_val a_mom a_cnt a_end a_endMom a_begun a_status a_stageOf a_began a_taken a_demand a_asked a_code a_waits a_waiting a_came a_given a_got))))) (f_stages, f_heard, f_now, f_calls, f_parts, f_start, f_at, f_nextX, f_nextY, f_x, f_y, a_kind, a_opA, a_opB, a_heardBy, a_what, a_said, a_when, a_over, a_part, a_first, a_second, a_user, a_goStage, a_goStep, a_done, a_val, a_mom, a_cnt, a_end, a_endMom, a_begun, a_status, a_stageOf, a_began, a_taken, a_demand, a_asked, a_code, a_waits, a_waiting, a_came, a_given, a_got) (nI yq) (nI j))) ∧ (¬ r_3 = 0 → (wY_both_52 post (wY_both_10 post (nI k) n) (nI k) f_stages f_heard f_now f_calls f_parts f_start f_at f_nextX f_nextY f_x f_y a_kind a_opA a_opB a_heardBy a_what a_said a_when a_over a_part a_first a_second a_user a_goStage a_goStep a_done a_val a_mom a_cnt a_end a_endMom a_begun a_status a_stageOf a_began a_taken a_demand a_asked a_code a_waits a_waiting a_came a_given a_got))))) (f_stages, f_heard, f_now, f_calls, f_parts, f_start, f_at, f_nextX, f_nextY, f_x, f_y, a_kind, a_opA, a_opB, a_heardBy, a_what, a_said, a_when, a_over, a_part, a_first, a_second, a_user, a_goStage, a_goStep, a_done, a_val, a_mom, a_cnt, a_end, a_endMom, a_begun, a_status, a_stageOf, a_began, a_taken, a_demand, a_asked, a_code, a_waits, a_waiting, a_came, a_given, a_got) (nI xq) (nI i) := by
    refine yd_has hxq hi hx ?_
    by_cases hix : i < (evs Lx zx).length
    · rw [decide_eq_true hix]
      exact br_f (by decide) (s52 (Or.inl hix))
    · rw [decide_eq_false hix]
      refine br_t rfl (yd_has hyq hj hy ?_)
      by_cases hjy : j < (evs Ly zy).length
      · rw [decide_eq_true hjy]
        exact br_f (by decide) (s52 (Or.inr hjy))
      · rw [decide_eq_false hjy]
        exact br_t rfl (H0 hix hjy)
  rw [← hfx, ← hfy, ← hnx, ← hny] at hh
  exact hh
end
end
section
/-! ===== the reference: both, the loop ===== -/
theorem ye_mx {ex : Inp} {xs ys : List Inp} (h : ∀ ey, ys.head? = some ey → ¬ ey.2.2.2 < ex.2.2.2) : mrg (ex :: xs) ys = ex :: mrg xs ys := by
  cases ys with
  | nil => rw [tp_mrg_nil, tp_mrg_nil]
  | cons y ys => exact tp_mrg_x (h y rfl)
theorem ye_my {ey : Inp} {xs ys : List Inp} (h : ∀ ex, xs.head? = some ex → ey.2.2.2 < ex.2.2.2) : mrg xs (ey :: ys) = ey :: mrg xs ys := by
  cases xs with
  | nil => rfl
  | cons x xs => exact tp_mrg_y (h x rfl)
theorem ye_hd {s : Nat} {H : List Ev} {i : Nat} : (tg s (H.drop i)).head? = (H[i]?).map (fun e => (s, e)) := by
  unfold tg
  rw [List.head?_map, List.head?_drop]
/-- the machine's state by the counts -/
def JI (k i j : Nat) (Lx Ly : List (Int32 × Nat)) : PSt → Prop
  | (_, _, h, hy, f, fy, qx, q, ox, oy) =>
    ox = decide (Lx.length < i) ∧ oy = decide (Ly.length < j) ∧
    (k = 18 → f = decide (0 < mn i Lx.length) ∧ fy = decide (0 < mn j Ly.length) ∧ (∀ x, 0 < mn i Lx.length → Lx[mn i Lx.length - 1]? = some x → h = x.1) ∧ (∀ x, 0 < mn j Ly.length → Ly[mn j Ly.length - 1]? = some x → hy = x.1)) ∧
    (k = 17 → (mn j Ly.length ≤ mn i Lx.length → q = ((Lx.drop (mn j Ly.length)).take (mn i Lx.length - mn j Ly.length)).map (fun x => (x.1, 0))) ∧ (mn i Lx.length < mn j Ly.length → q = ((Ly.drop (mn i Lx.length)).take (mn j Ly.length - mn i Lx.length)).map (fun x => (x.1, 0))) ∧ (mn j Ly.length < mn i Lx.length → qx = true) ∧ (mn i Lx.length < mn j Ly.length → qx = false) ∧ mn i Lx.length - mn j Ly.length ≤ 8 ∧ mn j Ly.length - mn i Lx.length ≤ 8)
theorem ye_mn1 {i n : Nat} (h : i < n) : mn i n = i ∧ mn (i + 1) n = i + 1 := by
  unfold mn
  refine ⟨if_pos h, ?_⟩
  by_cases h2 : i + 1 < n
  · rw [if_pos h2]
  · rw [if_neg h2]; omega
theorem ye_mn2 (n : Nat) : mn n n = n ∧ mn (n + 1) n = n := by
  unfold mn
  exact ⟨if_neg (Nat.lt_irrefl n), if_neg (by omega)⟩
theorem ye_mnle (j m : Nat) : mn j m ≤ m ∧ mn j m ≤ j := by unfold mn; split <;> omega
theorem ye_take1 {L : List (Int32 × Nat)} {c i : Nat} {x : Int32 × Nat} (hc : c ≤ i) (hx : L[i]? = some x) : (L.drop c).take (i + 1 - c) = (L.drop c).take (i - c) ++ [x] := by
  rw [show i + 1 - c = (i - c) + 1 from by omega, List.take_add_one, List.getElem?_drop, show c + (i - c) = i from by omega, hx]
  rfl
theorem ye_take2 {L : List (Int32 × Nat)} {i c : Nat} {y : Int32 × Nat} (hc : i < c) (hy : L[i]? = some y) : (L.drop i).take (c - i) = y :: (L.drop (i + 1)).take (c - (i + 1)) := by
  obtain ⟨hl, hv⟩ := List.getElem?_eq_some_iff.mp hy
  rw [List.drop_eq_getElem_cons hl, hv, show c - i = (c - (i + 1)) + 1 from by omega, List.take_succ_cons]

theorem ye_item16 {a b : Int32} {Lo : List (Int32 × Nat)} {S : PSt} {v : Int32} {m s : Nat} (hs : s < 2) : stp 16 a b (S, evs Lo none) (s, 1, v, m) = (S, evs (Lo ++ [(v, m)]) none) := by
  rw [rn_stp_go (yo_fin Lo), yo_snoc]
  obtain ⟨d, c, h, hy, f, fy, qx, q, ox, oy⟩ := S
  unfold rsp
  rw [if_neg (by show ¬ s = 2; omega)]
  rfl
theorem ye_err {k s : Nat} {a b : Int32} {Lo : List (Int32 × Nat)} {S : PSt} {v : Int32} {m : Nat} (hk : k < 20) (hs : s < 2) (hv : v ≠ 0) : (stp k a b (S, evs Lo none) (s, (if v = 0 then 2 else 3), v, m)).2 = evs Lo (some (v, m)) := by
  rw [rn_stp_go (yo_fin Lo), yo_end, if_neg hv]
  obtain ⟨d, c, h, hy, f, fy, qx, q, ox, oy⟩ := S
  unfold rsp
  rw [if_neg (by show ¬ s = 2; omega)]
  have e : he k (s == 0) v (d, c, h, hy, f, fy, qx, q, ox, oy) = ((d, c, h, hy, f, fy, qx, q, ox, oy), [(3, v)]) := by
    have hk20 : ¬ (k = 20 ∧ (s == 0) = true) := by omega
    simp only [he, if_neg hk20]
  show evs Lo none ++ ems m (he k (s == 0) v (d, c, h, hy, f, fy, qx, q, ox, oy)).2 = _
  rw [e]
  rfl

/-- a complete of one side -/
theorem ye_compx {k j : Nat} {a b : Int32} {Lx Ly Lo : List (Int32 × Nat)} {S : PSt} {m : Nat} (hk : k = 16 ∨ k = 17 ∨ k = 18) (hJ : JI k Lx.length j Lx Ly S) (hc : cmp k Lx.length j Lx.length Ly.length = false) : ∃ S', stp k a b (S, evs Lo none) (0, 2, 0, m) = (S', if cmp k (Lx.length + 1) j Lx.length Ly.length = true then evs Lo (some (0, m)) else evs Lo none) ∧ JI k (Lx.length + 1) j Lx Ly S' := by
  obtain ⟨d, c, h, hy, f, fy, qx, q, ox, oy⟩ := S
  obtain ⟨j1, j2, j3, j4⟩ := hJ
  obtain ⟨n1, n2⟩ := ye_mn2 Lx.length
  rw [n1] at j3 j4
  have d1 : decide (Lx.length < Lx.length + 1) = true := decide_eq_true (by omega)
  have d0 : decide (Lx.length < Lx.length) = false := decide_eq_false (by omega)
  rw [d0] at j1
  rw [rn_stp_go (yo_fin Lo)]
  refine ⟨(d, c, h, hy, f, fy, qx, q, true, oy), ?_, ?_⟩
  · rcases hk with e | e | e
    · subst e
      have hcm : cmp 16 (Lx.length + 1) j Lx.length Ly.length = oy := by simp [cmp, j2]
      rw [hcm]
      show ((d, c, h, hy, f, fy, qx, q, true, oy), evs Lo none ++ ems m (if oy = true then [(2, 0)] else [])) = _
      cases oy
      · simp [ems]
      · rw [if_pos rfl, if_pos rfl, yo_end]; rfl
    · subst e
      obtain ⟨k1, k2, k3, k4, k5, k6⟩ := j4 rfl
      have hcm : cmp 17 (Lx.length + 1) j Lx.length Ly.length = decide (q = [] ∨ qx ≠ true) := by
        have hold : cmp 17 Lx.length j Lx.length Ly.length = (oy && decide (mn j Ly.length ≤ Lx.length)) := by
          rw [j2]; simp [cmp, n1]
        rw [hold] at hc
        have hnew : cmp 17 (Lx.length + 1) j Lx.length Ly.length = (decide (Lx.length ≤ mn j Ly.length) || (oy && decide (mn j Ly.length ≤ Lx.length))) := by
          rw [j2]; simp [cmp, n2]
        rw [hnew, hc, Bool.or_false]
        congr 1
        apply propext
        rcases Nat.lt_trichotomy (mn j Ly.length) Lx.length with y | y | y
        · have hq := k1 (by omega)
          have hqx := k3 y
          constructor
          · intro z; omega
          · rintro (z | z)
            · rw [hq] at z
              have hl := congrArg List.length z
              simp at hl
              omega
            · exact absurd hqx z
        · have hq := k1 (by omega)
          rw [y, Nat.sub_self, List.take_zero] at hq
          exact ⟨fun _ => Or.inl hq, fun _ => by omega⟩
        · have hqx := k4 y
          exact ⟨fun _ => Or.inr (by rw [hqx]; decide), fun _ => by omega⟩
      rw [hcm]
      show ((d, c, h, hy, f, fy, qx, q, true, oy), evs Lo none ++ ems m (if q = [] ∨ qx ≠ true then [(2, 0)] else [])) = _
      by_cases hh : q = [] ∨ qx ≠ true
      · rw [if_pos hh, if_pos (decide_eq_true hh), yo_end]; rfl
      · rw [if_neg hh, if_neg (by rw [decide_eq_false hh]; decide)]; simp [ems]
    · subst e
      obtain ⟨k1, k2, k3, k4⟩ := j3 rfl
      have hold : cmp 18 Lx.length j Lx.length Ly.length = (oy && decide (Ly.length = 0)) := by
        rw [j2]; simp [cmp]
      rw [hold] at hc
      have hcm : cmp 18 (Lx.length + 1) j Lx.length Ly.length = decide (oy = true ∨ f = false) := by
        have hnew : cmp 18 (Lx.length + 1) j Lx.length Ly.length = (decide (Lx.length = 0) || (oy && decide (Ly.length = 0)) || oy) := by
          rw [j2]; simp [cmp]
        rw [hnew, hc, k1]
        by_cases h0 : Lx.length = 0
        · rw [decide_eq_true h0]; cases oy <;> simp [h0]
        · rw [decide_eq_false h0, decide_eq_true (show 0 < Lx.length by omega)]; cases oy <;> simp
      rw [hcm]
      show ((d, c, h, hy, f, fy, qx, q, true, oy), evs Lo none ++ ems m (if oy = true ∨ f = false then [(2, 0)] else [])) = _
      by_cases hh : oy = true ∨ f = false
      · rw [if_pos hh, if_pos (decide_eq_true hh), yo_end]; rfl
      · rw [if_neg hh, if_neg (by rw [decide_eq_false hh]; decide)]; simp [ems]
  · exact ⟨d1.symm, j2, by rw [n2]; exact j3, by rw [n2]; exact j4⟩
theorem ye_compy {k i : Nat} {a b : Int32} {Lx Ly Lo : List (Int32 × Nat)} {S : PSt} {m : Nat} (hk : k = 16 ∨ k = 17 ∨ k = 18) (hJ : JI k i Ly.length Lx Ly S) (hc : cmp k i Ly.length Lx.length Ly.length = false) : ∃ S', stp k a b (S, evs Lo none) (1, 2, 0, m) = (S', if cmp k i (Ly.length + 1) Lx.length Ly.length = true then evs Lo (some (0, m)) else evs Lo none) ∧ JI k i (Ly.length + 1) Lx Ly S' := by
  obtain ⟨d, c, h, hy, f, fy, qx, q, ox, oy⟩ := S
  obtain ⟨j1, j2, j3, j4⟩ := hJ
  obtain ⟨n1, n2⟩ := ye_mn2 Ly.length
  rw [n1] at j3 j4
  have d1 : decide (Ly.length < Ly.length + 1) = true := decide_eq_true (by omega)
  have d0 : decide (Ly.length < Ly.length) = false := decide_eq_false (by omega)
  rw [d0] at j2
  rw [rn_stp_go (yo_fin Lo)]
  refine ⟨(d, c, h, hy, f, fy, qx, q, ox, true), ?_, ?_⟩
  · rcases hk with e | e | e
    · subst e
      have hcm : cmp 16 i (Ly.length + 1) Lx.length Ly.length = ox := by simp [cmp, j1]
      rw [hcm]
      show ((d, c, h, hy, f, fy, qx, q, ox, true), evs Lo none ++ ems m (if ox = true then [(2, 0)] else [])) = _
      cases ox
      · simp [ems]
      · rw [if_pos rfl, if_pos rfl, yo_end]; rfl
    · subst e
      obtain ⟨k1, k2, k3, k4, k5, k6⟩ := j4 rfl
      have hcm : cmp 17 i (Ly.length + 1) Lx.length Ly.length = decide (q = [] ∨ qx ≠ false) := by
        have hold : cmp 17 i Ly.length Lx.length Ly.length = (ox && decide (mn i Lx.length ≤ Ly.length)) := by
          rw [j1]; simp [cmp, n1]
        rw [hold] at hc
        have hnew : cmp 17 i (Ly.length + 1) Lx.length Ly.length = ((ox && decide (mn i Lx.length ≤ Ly.length)) || decide (Ly.length ≤ mn i Lx.length)) := by
          rw [j1]; simp [cmp, n2]
        rw [hnew, hc, Bool.false_or]
        congr 1
        apply propext
        rcases Nat.lt_trichotomy (mn i Lx.length) Ly.length with y | y | y
        · have hq := k2 y
          have hqx := k4 y
          constructor
          · intro z; omega
          · rintro (z | z)
            · rw [hq] at z
              have hl := congrArg List.length z
              simp at hl
              omega
            · exact absurd hqx z
        · have hq := k1 (by omega)
          rw [y, Nat.sub_self, List.take_zero] at hq
          exact ⟨fun _ => Or.inl hq, fun _ => by omega⟩
        · have hqx := k3 y
          exact ⟨fun _ => Or.inr (by rw [hqx]; decide), fun _ => by omega⟩
      rw [hcm]
      show ((d, c, h, hy, f, fy, qx, q, ox, true), evs Lo none ++ ems m (if q = [] ∨ qx ≠ false then [(2, 0)] else [])) = _
      by_cases hh : q = [] ∨ qx ≠ false
      · rw [if_pos hh, if_pos (decide_eq_true hh), yo_end]; rfl
      · rw [if_neg hh, if_neg (by rw [decide_eq_false hh]; decide)]; simp [ems]
    · subst e
      obtain ⟨k1, k2, k3, k4⟩ := j3 rfl
      have hold : cmp 18 i Ly.length Lx.length Ly.length = (ox && decide (Lx.length = 0)) := by
        rw [j1]; simp [cmp]
      rw [hold] at hc
      have hcm : cmp 18 i (Ly.length + 1) Lx.length Ly.length = decide (ox = true ∨ fy = false) := by
        have hnew : cmp 18 i (Ly.length + 1) Lx.length Ly.length = ((ox && decide (Lx.length = 0)) || decide (Ly.length = 0) || ox) := by
          rw [j1]; simp [cmp]
        rw [hnew, hc, k2]
        by_cases h0 : Ly.length = 0
        · rw [decide_eq_true h0]; cases ox <;> simp [h0]
        · rw [decide_eq_false h0, decide_eq_true (show 0 < Ly.length by omega)]; cases ox <;> simp
      rw [hcm]
      show ((d, c, h, hy, f, fy, qx, q, ox, true), evs Lo none ++ ems m (if ox = true ∨ fy = false then [(2, 0)] else [])) = _
      by_cases hh : ox = true ∨ fy = false
      · rw [if_pos hh, if_pos (decide_eq_true hh), yo_end]; rfl
      · rw [if_neg hh, if_neg (by rw [decide_eq_false hh]; decide)]; simp [ems]
  · exact ⟨j1, d1.symm, by rw [n2]; exact j3, by rw [n2]; exact j4⟩
end
section
/-! ===== joins: the machine hears an item ===== -/
theorem yg_18x {i j : Nat} {a b : Int32} {Lx Ly Lo : List (Int32 × Nat)} {S : PSt} {x : Int32 × Nat} (hx : Lx[i]? = some x) (hJ : JI 18 i j Lx Ly S) (hc : cmp 18 i j Lx.length Ly.length = false) : ∃ S', JI 18 (i + 1) j Lx Ly S' ∧ cmp 18 (i + 1) j Lx.length Ly.length = false ∧ (mn j Ly.length = 0 → stp 18 a b (S, evs Lo none) (0, 1, x.1, x.2) = (S', evs Lo none)) ∧ (∀ y, 0 < mn j Ly.length → Ly[mn j Ly.length - 1]? = some y → stp 18 a b (S, evs Lo none) (0, 1, x.1, x.2) = (S', evs (Lo ++ [(31 * x.1 + y.1, x.2)]) none)) := by
  obtain ⟨d, c, h, hy, f, fy, qx, q, ox, oy⟩ := S
  obtain ⟨j1, j2, j3, j4⟩ := hJ
  obtain ⟨k1, k2, k3, k4⟩ := j3 rfl
  have hil := yb_idx hx
  obtain ⟨n1, n2⟩ := ye_mn1 hil
  have d0 : decide (Lx.length < i) = false := decide_eq_false (by omega)
  have d1 : decide (Lx.length < i + 1) = false := decide_eq_false (by omega)
  refine ⟨(d, c, x.1, hy, true, fy, qx, q, ox, oy), ⟨by rw [j1, d0, d1], j2, fun _ => ⟨?_, k2, ?_, k4⟩, fun z => by omega⟩, ?_, fun h0 => ?_, fun y h0 hyy => ?_⟩
  · rw [n2]; exact (decide_eq_true (by omega)).symm
  · intro x' _ hx'
    rw [n2, Nat.add_sub_cancel, hx] at hx'
    cases hx'
    rfl
  · simp only [cmp] at hc ⊢
    rw [d0] at hc
    rw [d1]
    simpa using hc
  · have hfy : fy = false := by rw [k2, h0]; rfl
    rw [yo_item, hfy]
    show (_, evs Lo none ++ []) = _
    rw [List.append_nil]
    rfl
  · have hfy : fy = true := by rw [k2]; exact decide_eq_true h0
    rw [yo_item, hfy, yo_snoc, ← k4 y h0 hyy]
    rfl
theorem yg_18y {i j : Nat} {a b : Int32} {Lx Ly Lo : List (Int32 × Nat)} {S : PSt} {x : Int32 × Nat} (hx : Ly[j]? = some x) (hJ : JI 18 i j Lx Ly S) (hc : cmp 18 i j Lx.length Ly.length = false) : ∃ S', JI 18 i (j + 1) Lx Ly S' ∧ cmp 18 i (j + 1) Lx.length Ly.length = false ∧ (mn i Lx.length = 0 → stp 18 a b (S, evs Lo none) (1, 1, x.1, x.2) = (S', evs Lo none)) ∧ (∀ y, 0 < mn i Lx.length → Lx[mn i Lx.length - 1]? = some y → stp 18 a b (S, evs Lo none) (1, 1, x.1, x.2) = (S', evs (Lo ++ [(31 * y.1 + x.1, x.2)]) none)) := by
  obtain ⟨d, c, h, hy, f, fy, qx, q, ox, oy⟩ := S
  obtain ⟨j1, j2, j3, j4⟩ := hJ
  obtain ⟨k1, k2, k3, k4⟩ := j3 rfl
  have hil := yb_idx hx
  obtain ⟨n1, n2⟩ := ye_mn1 hil
  have d0 : decide (Ly.length < j) = false := decide_eq_false (by omega)
  have d1 : decide (Ly.length < j + 1) = false := decide_eq_false (by omega)
  refine ⟨(d, c, h, x.1, f, true, qx, q, ox, oy), ⟨j1, by rw [j2, d0, d1], fun _ => ⟨k1, ?_, k3, ?_⟩, fun z => by omega⟩, ?_, fun h0 => ?_, fun y h0 hyy => ?_⟩
  · rw [n2]; exact (decide_eq_true (by omega)).symm
  · intro x' _ hx'
    rw [n2, Nat.add_sub_cancel, hx] at hx'
    cases hx'
    rfl
  · simp only [cmp] at hc ⊢
    rw [d0] at hc
    rw [d1]
    simpa using hc
  · have hf : f = false := by rw [k1, h0]; rfl
    rw [rn_stp_go (yo_fin Lo), hf]
    show (_, evs Lo none ++ []) = _
    rw [List.append_nil]
    rfl
  · have hf : f = true := by rw [k1]; exact decide_eq_true h0
    rw [rn_stp_go (yo_fin Lo), hf, yo_snoc, ← k3 y h0 hyy]
    rfl
theorem yg_17x {i j : Nat} {a b : Int32} {Lx Ly Lo : List (Int32 × Nat)} {S : PSt} {x : Int32 × Nat} (hx : Lx[i]? = some x) (hJ : JI 17 i j Lx Ly S) (hc : cmp 17 i j Lx.length Ly.length = false) :
    (∀ y, i < mn j Ly.length → Ly[i]? = some y → ∃ S', stp 17 a b (S, evs Lo none) (0, 1, x.1, x.2) = (S', if cmp 17 (i + 1) j Lx.length Ly.length = true then evs (Lo ++ [(31 * x.1 + y.1, x.2)]) (some (0, x.2)) else evs (Lo ++ [(31 * x.1 + y.1, x.2)]) none) ∧ JI 17 (i + 1) j Lx Ly S') ∧
    (mn j Ly.length ≤ i → i - mn j Ly.length < 8 → cmp 17 (i + 1) j Lx.length Ly.length = false ∧ ∃ S', stp 17 a b (S, evs Lo none) (0, 1, x.1, x.2) = (S', evs Lo none) ∧ JI 17 (i + 1) j Lx Ly S') ∧
    (mn j Ly.length ≤ i → ¬ i - mn j Ly.length < 8 → (stp 17 a b (S, evs Lo none) (0, 1, x.1, x.2)).2 = evs Lo (some (8, x.2))) := by
  obtain ⟨d, c, h, hy, f, fy, qx, q, ox, oy⟩ := S
  obtain ⟨j1, j2, j3, j4⟩ := hJ
  obtain ⟨k1, k2, k3, k4, k5, k6⟩ := j4 rfl
  have hil := yb_idx hx
  obtain ⟨n1, n2⟩ := ye_mn1 hil
  rw [n1] at k1 k2 k3 k4 k5 k6
  have d0 : decide (Lx.length < i) = false := decide_eq_false (by omega)
  have d1 : decide (Lx.length < i + 1) = false := decide_eq_false (by omega)
  have hold : cmp 17 i j Lx.length Ly.length = (oy && decide (mn j Ly.length ≤ i)) := by rw [j2]; simp [cmp, d0, n1]
  have hnew : cmp 17 (i + 1) j Lx.length Ly.length = (oy && decide (mn j Ly.length ≤ i + 1)) := by rw [j2]; simp [cmp, d1, n2]
  refine ⟨fun y hlt hyy => ?_, fun hle h8 => ?_, fun hle h8 => ?_⟩
  · have hq := k2 hlt
    rw [ye_take2 hlt hyy, List.map_cons] at hq
    have hqx := k4 hlt
    subst hq hqx
    refine ⟨(d, c, h, hy, f, fy, false, ((Ly.drop (i + 1)).take (mn j Ly.length - (i + 1))).map (fun x => (x.1, 0)), ox, oy), ?_, ⟨by rw [j1, d0, d1], j2, fun z => by omega, fun _ => ?_⟩⟩
    · rw [yo_item]
      have hcm : (((Ly.drop (i + 1)).take (mn j Ly.length - (i + 1))).map (fun x : Int32 × Nat => (x.1, (0 : Nat))) = [] ∧ oy = true) ↔ cmp 17 (i + 1) j Lx.length Ly.length = true := by
        rw [hnew, Bool.and_eq_true, decide_eq_true_eq]
        have hmle := ye_mnle j Ly.length
        constructor
        · rintro ⟨h1, h2⟩
          refine ⟨h2, ?_⟩
          have hl := congrArg List.length h1
          simp at hl
          omega
        · rintro ⟨h1, h2⟩
          refine ⟨?_, h1⟩
          rw [show mn j Ly.length - (i + 1) = 0 from by omega, List.take_zero]
          rfl
      have ehi : hi 17 b (tim x.2) true x.1 (d, c, h, hy, f, fy, false, (y.1, 0) :: ((Ly.drop (i + 1)).take (mn j Ly.length - (i + 1))).map (fun x => (x.1, 0)), ox, oy) = ((d, c, h, hy, f, fy, false, ((Ly.drop (i + 1)).take (mn j Ly.length - (i + 1))).map (fun x => (x.1, 0)), ox, oy), (1, 31 * x.1 + y.1) :: if ((Ly.drop (i + 1)).take (mn j Ly.length - (i + 1))).map (fun x : Int32 × Nat => (x.1, (0 : Nat))) = [] ∧ oy = true then [(2, 0)] else []) := by
        simp only [hi, if_neg (show ¬ false = true from by decide), if_true]
      rw [ehi]
      by_cases hh : cmp 17 (i + 1) j Lx.length Ly.length = true
      · rw [if_pos hh, if_pos (hcm.mpr hh), yo_end, yo_snoc]
        simp [ems]
      · rw [if_neg hh, if_neg (fun z => hh (hcm.mp z)), yo_snoc]
        rfl
    · rw [n2]
      refine ⟨fun z => ?_, fun z => rfl, fun z => by omega, fun _ => rfl, by omega, by omega⟩
      rw [show mn j Ly.length - (i + 1) = 0 from by omega, List.take_zero, show i + 1 - mn j Ly.length = 0 from by omega, List.take_zero]
  · have hoy : oy = false := by
      rw [hold, decide_eq_true hle, Bool.and_true] at hc
      exact hc
    have hq := k1 hle
    refine ⟨by rw [hnew, hoy]; rfl, (d, c, h, hy, f, fy, true, q ++ [(x.1, 0)], ox, oy), ?_, ⟨by rw [j1, d0, d1], j2, fun z => by omega, fun _ => ?_⟩⟩
    · rw [yo_item]
      have hlen : q.length = i - mn j Ly.length := by rw [hq]; simp; omega
      have ehi : hi 17 b (tim x.2) true x.1 (d, c, h, hy, f, fy, qx, q, ox, oy) = ((d, c, h, hy, f, fy, true, q ++ [(x.1, 0)], ox, oy), []) := by
        cases q with
        | nil => rfl
        | cons e r =>
          have hqx : qx = true := k3 (by simp at hlen; omega)
          have hr : r.length < 7 := by simp at hlen; omega
          simp only [hi, if_pos hqx, if_pos hr]
      rw [ehi]
      show (_, evs Lo none ++ []) = _
      rw [List.append_nil]
    · rw [n2]
      refine ⟨fun z => ?_, fun z => by omega, fun _ => rfl, fun z => by omega, by omega, by omega⟩
      rw [ye_take1 hle hx, List.map_append, hq]
      rfl
  · have hq := k1 hle
    have hlen : q.length = i - mn j Ly.length := by rw [hq]; simp; omega
    rw [yo_item]
    have ehi : (hi 17 b (tim x.2) true x.1 (d, c, h, hy, f, fy, qx, q, ox, oy)).2 = [(3, 8)] := by
      cases q with
      | nil => simp at hlen; omega
      | cons e r =>
        have hqx : qx = true := k3 (by simp at hlen; omega)
        have hr : ¬ r.length < 7 := by simp at hlen; omega
        simp only [hi, if_pos hqx, if_neg hr]
    show evs Lo none ++ ems x.2 (hi 17 b (tim x.2) true x.1 (d, c, h, hy, f, fy, qx, q, ox, oy)).2 = _
    rw [ehi, yo_end]
    rfl
theorem yg_itemy {k : Nat} {a b : Int32} {S : PSt} {Lo : List (Int32 × Nat)} {v : Int32} {m : Nat} : stp k a b (S, evs Lo none) (1, 1, v, m) = ((hi k b (tim m) false v S).1, evs Lo none ++ ems m (hi k b (tim m) false v S).2) := by
  rw [rn_stp_go (yo_fin Lo)]
  rfl
theorem yg_17y {i j : Nat} {a b : Int32} {Lx Ly Lo : List (Int32 × Nat)} {S : PSt} {x : Int32 × Nat} (hx : Ly[j]? = some x) (hJ : JI 17 i j Lx Ly S) (hc : cmp 17 i j Lx.length Ly.length = false) :
    (∀ y, j < mn i Lx.length → Lx[j]? = some y → ∃ S', stp 17 a b (S, evs Lo none) (1, 1, x.1, x.2) = (S', if cmp 17 i (j + 1) Lx.length Ly.length = true then evs (Lo ++ [(31 * y.1 + x.1, x.2)]) (some (0, x.2)) else evs (Lo ++ [(31 * y.1 + x.1, x.2)]) none) ∧ JI 17 i (j + 1) Lx Ly S') ∧
    (mn i Lx.length ≤ j → j - mn i Lx.length < 8 → cmp 17 i (j + 1) Lx.length Ly.length = false ∧ ∃ S', stp 17 a b (S, evs Lo none) (1, 1, x.1, x.2) = (S', evs Lo none) ∧ JI 17 i (j + 1) Lx Ly S') ∧
    (mn i Lx.length ≤ j → ¬ j - mn i Lx.length < 8 → (stp 17 a b (S, evs Lo none) (1, 1, x.1, x.2)).2 = evs Lo (some (8, x.2))) := by
  obtain ⟨d, c, h, hy, f, fy, qx, q, ox, oy⟩ := S
  obtain ⟨j1, j2, j3, j4⟩ := hJ
  obtain ⟨k1, k2, k3, k4, k5, k6⟩ := j4 rfl
  have hil := yb_idx hx
  obtain ⟨n1, n2⟩ := ye_mn1 hil
  rw [n1] at k1 k2 k3 k4 k5 k6
  have d0 : decide (Ly.length < j) = false := decide_eq_false (by omega)
  have d1 : decide (Ly.length < j + 1) = false := decide_eq_false (by omega)
  have hold : cmp 17 i j Lx.length Ly.length = (ox && decide (mn i Lx.length ≤ j)) := by rw [j1]; simp [cmp, d0, n1]
  have hnew : cmp 17 i (j + 1) Lx.length Ly.length = (ox && decide (mn i Lx.length ≤ j + 1)) := by rw [j1]; simp [cmp, d1, n2]
  have hmle := ye_mnle i Lx.length
  refine ⟨fun y hlt hyy => ?_, fun hle h8 => ?_, fun hle h8 => ?_⟩
  · have hq := k1 (by omega)
    rw [ye_take2 hlt hyy, List.map_cons] at hq
    have hqx := k3 hlt
    subst hq hqx
    refine ⟨(d, c, h, hy, f, fy, true, ((Lx.drop (j + 1)).take (mn i Lx.length - (j + 1))).map (fun x => (x.1, 0)), ox, oy), ?_, ⟨j1, by rw [j2, d0, d1], fun z => by omega, fun _ => ?_⟩⟩
    · rw [yg_itemy]
      have hcm : (((Lx.drop (j + 1)).take (mn i Lx.length - (j + 1))).map (fun x : Int32 × Nat => (x.1, (0 : Nat))) = [] ∧ ox = true) ↔ cmp 17 i (j + 1) Lx.length Ly.length = true := by
        rw [hnew, Bool.and_eq_true, decide_eq_true_eq]
        constructor
        · rintro ⟨h1, h2⟩
          refine ⟨h2, ?_⟩
          have hl := congrArg List.length h1
          simp at hl
          omega
        · rintro ⟨h1, h2⟩
          refine ⟨?_, h1⟩
          rw [show mn i Lx.length - (j + 1) = 0 from by omega, List.take_zero]
          rfl
      have ehi : hi 17 b (tim x.2) false x.1 (d, c, h, hy, f, fy, true, (y.1, 0) :: ((Lx.drop (j + 1)).take (mn i Lx.length - (j + 1))).map (fun x => (x.1, 0)), ox, oy) = ((d, c, h, hy, f, fy, true, ((Lx.drop (j + 1)).take (mn i Lx.length - (j + 1))).map (fun x => (x.1, 0)), ox, oy), (1, 31 * y.1 + x.1) :: if ((Lx.drop (j + 1)).take (mn i Lx.length - (j + 1))).map (fun x : Int32 × Nat => (x.1, (0 : Nat))) = [] ∧ ox = true then [(2, 0)] else []) := by
        simp only [hi, if_neg (show ¬ true = false from by decide), if_neg (show ¬ false = true from by decide)]
      rw [ehi]
      by_cases hh : cmp 17 i (j + 1) Lx.length Ly.length = true
      · rw [if_pos hh, if_pos (hcm.mpr hh), yo_end, yo_snoc]
        simp [ems]
      · rw [if_neg hh, if_neg (fun z => hh (hcm.mp z)), yo_snoc]
        rfl
    · rw [n2]
      refine ⟨fun z => rfl, fun z => by omega, fun _ => rfl, fun z => by omega, by omega, by omega⟩
  · have hox : ox = false := by
      rw [hold, decide_eq_true hle, Bool.and_true] at hc
      exact hc
    have hq : q = ((Ly.drop (mn i Lx.length)).take (j - mn i Lx.length)).map (fun x => (x.1, 0)) := by
      by_cases e : mn i Lx.length = j
      · have := k1 (by omega)
        rw [this, show mn i Lx.length - j = 0 from by omega, show j - mn i Lx.length = 0 from by omega, List.take_zero, List.take_zero]
      · exact k2 (by omega)
    refine ⟨by rw [hnew, hox]; rfl, (d, c, h, hy, f, fy, false, q ++ [(x.1, 0)], ox, oy), ?_, ⟨j1, by rw [j2, d0, d1], fun z => by omega, fun _ => ?_⟩⟩
    · rw [yg_itemy]
      have hlen : q.length = j - mn i Lx.length := by rw [hq]; simp; omega
      have ehi : hi 17 b (tim x.2) false x.1 (d, c, h, hy, f, fy, qx, q, ox, oy) = ((d, c, h, hy, f, fy, false, q ++ [(x.1, 0)], ox, oy), []) := by
        cases q with
        | nil => rfl
        | cons e r =>
          have hqx : qx = false := k4 (by simp at hlen; omega)
          have hr : r.length < 7 := by simp at hlen; omega
          simp only [hi, if_pos hqx, if_pos hr]
      rw [ehi]
      show (_, evs Lo none ++ []) = _
      rw [List.append_nil]
    · rw [n2]
      refine ⟨fun z => by omega, fun z => ?_, fun z => by omega, fun _ => rfl, by omega, by omega⟩
      rw [ye_take1 hle hx, List.map_append, hq]
      rfl
  · have hq := k2 (by omega)
    have hlen : q.length = j - mn i Lx.length := by rw [hq]; simp; omega
    rw [yg_itemy]
    have ehi : (hi 17 b (tim x.2) false x.1 (d, c, h, hy, f, fy, qx, q, ox, oy)).2 = [(3, 8)] := by
      cases q with
      | nil => simp at hlen; omega
      | cons e r =>
        have hqx : qx = false := k4 (by simp at hlen; omega)
        have hr : ¬ r.length < 7 := by simp at hlen; omega
        simp only [hi, if_pos hqx, if_neg hr]
    show evs Lo none ++ ems x.2 (hi 17 b (tim x.2) false x.1 (d, c, h, hy, f, fy, qx, q, ox, oy)).2 = _
    rw [ehi, yo_end]
    rfl
end
section
/-! ===== the reference: both, whole ===== -/
section
variable {f_stages : Int32} {f_heard : Int32} {f_now : Int32} {f_calls : Int64} {f_parts : Int32} {f_start : Int64} {f_at : Int32} {f_nextX : Int32} {f_nextY : Int32} {f_x : Int32} {f_y : Int32} {a_kind : (Nat → Int32)} {a_opA : (Nat → Int32)} {a_opB : (Nat → Int32)} {a_heardBy : (Nat → Int32)} {a_what : (Nat → Int32)} {a_said : (Nat → Int32)} {a_when : (Nat → Int64)} {a_over : (Nat → Int32)} {a_part : (Nat → Int32)} {a_first : (Nat → Int32)} {a_second : (Nat → Int32)} {a_user : (Nat → Int32)} {a_goStage : (Nat → Int32)} {a_goStep : (Nat → Int32)} {a_done : (Nat → Int32)} {a_val : (Nat → Int32)} {a_mom : (Nat → Int64)} {a_cnt : (Nat → Int32)} {a_end : (Nat → Int32)} {a_endMom : (Nat → Int64)} {a_begun : (Nat → Int32)} {a_status : (Nat → Int32)} {a_stageOf : (Nat → Int32)} {a_began : (Nat → Int64)} {a_taken : (Nat → Int32)} {a_demand : (Nat → Int64)} {a_asked : (Nat → Int32)} {a_code : (Nat → Int32)} {a_waits : (Nat → Int32)} {a_waiting : (Nat → Int32)} {a_came : (Nat → Int32)} {a_given : (Nat → Int32)} {a_got : (Nat → Int64)}
theorem yh_88 {post : SY → Prop} {p t m xq yq g c : Nat} {Lx Ly Lo : List (Int32 × Nat)} {zx zy : Option (Int32 × Nat)} (hp : p < 9) (hat : f_at = nI p) (hnow : f_now = nI t) (ht : t ≤ 200) (hm : m < 1000000000000000) (hmt : tim m ≤ t) (hxq : xq < 9) (hyq : yq < 9) (hfx : f_x = nI xq) (hfy : f_y = nI yq) (hY : YA a_val a_mom a_cnt a_end a_endMom p Lo none) (hl : Lo.length < 255) (hx : YA a_val a_mom a_cnt a_end a_endMom xq Lx zx) (hy : YA a_val a_mom a_cnt a_end a_endMom yq Ly zy) (hg : g ≤ 1000) (hc : c ≤ 1000)
    (H1 : g < c → ∃ x y, Lx[g]? = some x ∧ Ly[g]? = some y ∧ ∀ va mm cn, YA va mm cn a_end a_endMom p (Lo ++ [(31 * x.1 + y.1, m)]) none → YF p a_val a_mom a_cnt a_end a_endMom va mm cn a_end a_endMom → post (f_stages, f_heard, f_now, f_calls, f_parts, f_start, f_at, f_nextX, f_nextY, f_x, f_y, a_kind, a_opA, a_opB, a_heardBy, a_what, a_said, a_when, a_over, a_part, a_first, a_second, a_user, a_goStage, a_goStep, a_done, va, mm, cn, a_end, a_endMom, a_begun, a_status, a_stageOf, a_began, a_taken, a_demand, a_asked, a_code, a_waits, a_waiting, a_came, a_given, a_got))
    (H2 : c ≤ g → g - c < 8 → post (f_stages, f_heard, f_now, f_calls, f_parts, f_start, f_at, f_nextX, f_nextY, f_x, f_y, a_kind, a_opA, a_opB, a_heardBy, a_what, a_said, a_when, a_over, a_part, a_first, a_second, a_user, a_goStage, a_goStep, a_done, a_val, a_mom, a_cnt, a_end, a_endMom, a_begun, a_status, a_stageOf, a_began, a_taken, a_demand, a_asked, a_code, a_waits, a_waiting, a_came, a_given, a_got)) (H3 : c ≤ g → ¬ g - c < 8 → ∀ en em, YA a_val a_mom a_cnt en em p Lo (some (8, m)) → YF p a_val a_mom a_cnt a_end a_endMom a_val a_mom a_cnt en em → post (f_stages, f_heard, f_now, f_calls, f_parts, f_start, f_at, f_nextX, f_nextY, f_x, f_y, a_kind, a_opA, a_opB, a_heardBy, a_what, a_said, a_when, a_over, a_part, a_first, a_second, a_user, a_goStage, a_goStep, a_done, a_val, a_mom, a_cnt, en, em, a_begun, a_status, a_stageOf, a_began, a_taken, a_demand, a_asked, a_code, a_waits, a_waiting, a_came, a_given, a_got)) :
    wY_pair_88 post (lN m) (nI (g + 1)) (nI c) f_stages f_heard f_now f_calls f_parts f_start f_at f_nextX f_nextY f_x f_y a_kind a_opA a_opB a_heardBy a_what a_said a_when a_over a_part a_first a_second a_user a_goStage a_goStep a_done a_val a_mom a_cnt a_end a_endMom a_begun a_status a_stageOf a_began a_taken a_demand a_asked a_code a_waits a_waiting a_came a_given a_got := by
  by_cases h : g < c
  · obtain ⟨x, y, hxg, hyg, H⟩ := H1 h
    refine br_f (nI_nlt (by omega) (by omega)) ?_
    rw [show nI (g + 1) - 1 = nI g from nI_pred g, hfx, hfy]
    refine yw_word (f_x := nI xq) (f_y := nI yq) hxq hx hxg (yw_word (f_x := nI xq) (f_y := nI yq) hyq hy hyg ?_)
    rw [← hfx, ← hfy]
    exact yw_put hp hat hnow ht hm hY hl (fun _ va mm cn k1 k2 => H va mm cn k1 k2) (fun z => absurd hmt z)
  · refine br_t (nI_lt (by omega) (by omega)) ?_
    rw [pk_sub (by omega)]
    by_cases h8 : g - c < 8
    · exact br_t (nI_le (b := 8) (by omega) (by decide)) (H2 (by omega) h8)
    · exact br_f (nI_ge (a := 8) (by omega) (by omega)) (yw_stop (j := 8) hp hat hnow ht hm (by decide) rfl hY (fun _ en em k1 k2 => H3 (by omega) h8 en em k1 k2) (fun z => absurd hmt z))
theorem yh_pairx {post : SY → Prop} {m yq i j : Nat} {Ly : List (Int32 × Nat)} {zy : Option (Int32 × Nat)} (hyq : yq < 9) (hfy : f_y = nI yq) (hnx : f_nextX = nI (i + 1)) (hny : f_nextY = nI j) (hj : j ≤ 1000) (hy : YA a_val a_mom a_cnt a_end a_endMom yq Ly zy) (H : wY_pair_88 post (lN m) (nI (i + 1)) (nI (mn j Ly.length)) f_stages f_heard f_now f_calls f_parts f_start f_at f_nextX f_nextY f_x f_y a_kind a_opA a_opB a_heardBy a_what a_said a_when a_over a_part a_first a_second a_user a_goStage a_goStep a_done a_val a_mom a_cnt a_end a_endMom a_begun a_status a_stageOf a_began a_taken a_demand a_asked a_code a_waits a_waiting a_came a_given a_got) : wpY_pair post (f_stages, f_heard, f_now, f_calls, f_parts, f_start, f_at, f_nextX, f_nextY, f_x, f_y, a_kind, a_opA, a_opB, a_heardBy, a_what, a_said, a_when, a_over, a_part, a_first, a_second, a_user, a_goStage, a_goStep, a_done, a_val, a_mom, a_cnt, a_end, a_endMom, a_begun, a_status, a_stageOf, a_began, a_taken, a_demand, a_asked, a_code, a_waits, a_waiting, a_came, a_given, a_got) 1 (lN m) := by
  have hcy : f_y.toNatClampNeg = yq := by rw [hfy]; exact nI_clamp (by omega)
  have hiy : vp_in f_y 9 := by rw [hfy]; exact vp_in_nI hyq (by decide)
  have cy : a_cnt f_y.toNatClampNeg = nI Ly.length := by rw [hcy]; exact hy.1
  have ly := hy.2.1
  refine br_f (by decide) (br_f (by decide) ⟨hiy, ?_⟩)
  rw [hnx, hny]
  rw [hnx, hny] at H
  by_cases h : j < Ly.length
  · refine br_f (by rw [cy]; exact nI_ge h (by omega)) ?_
    unfold mn at H
    rw [if_pos h] at H
    exact H
  · refine br_t (by rw [cy]; exact nI_le (by omega) (by omega)) ⟨hiy, ?_⟩
    rw [cy]
    unfold mn at H
    rw [if_neg h] at H
    exact H
theorem yh_pairy {post : SY → Prop} {m xq i j : Nat} {Lx : List (Int32 × Nat)} {zx : Option (Int32 × Nat)} (hxq : xq < 9) (hfx : f_x = nI xq) (hnx : f_nextX = nI i) (hny : f_nextY = nI (j + 1)) (hi : i ≤ 1000) (hx : YA a_val a_mom a_cnt a_end a_endMom xq Lx zx) (H : wY_pair_88 post (lN m) (nI (j + 1)) (nI (mn i Lx.length)) f_stages f_heard f_now f_calls f_parts f_start f_at f_nextX f_nextY f_x f_y a_kind a_opA a_opB a_heardBy a_what a_said a_when a_over a_part a_first a_second a_user a_goStage a_goStep a_done a_val a_mom a_cnt a_end a_endMom a_begun a_status a_stageOf a_began a_taken a_demand a_asked a_code a_waits a_waiting a_came a_given a_got) : wpY_pair post (f_stages, f_heard, f_now, f_calls, f_parts, f_start, f_at, f_nextX, f_nextY, f_x, f_y, a_kind, a_opA, a_opB, a_heardBy, a_what, a_said, a_when, a_over, a_part, a_first, a_second, a_user, a_goStage, a_goStep, a_done, a_val, a_mom, a_cnt, a_end, a_endMom, a_begun, a_status, a_stageOf, a_began, a_taken, a_demand, a_asked, a_code, a_waits, a_waiting, a_came, a_given, a_got) 0 (lN m) := by
  have hcx : f_x.toNatClampNeg = xq := by rw [hfx]; exact nI_clamp (by omega)
  have hix : vp_in f_x 9 := by rw [hfx]; exact vp_in_nI hxq (by decide)
  have cx : a_cnt f_x.toNatClampNeg = nI Lx.length := by rw [hcx]; exact hx.1
  have lx := hx.2.1
  refine br_t rfl (br_t rfl ⟨hix, ?_⟩)
  rw [hnx, hny]
  rw [hnx, hny] at H
  by_cases h : i < Lx.length
  · refine br_f (by rw [cx]; exact nI_ge h (by omega)) ?_
    unfold mn at H
    rw [if_pos h] at H
    exact H
  · refine br_t (by rw [cx]; exact nI_le (by omega) (by omega)) ⟨hix, ?_⟩
    rw [cx]
    unfold mn at H
    rw [if_neg h] at H
    exact H
theorem yh_latest {post : SY → Prop} {p t m xq yq i j : Nat} {Lx Ly Lo : List (Int32 × Nat)} {zx zy : Option (Int32 × Nat)} {x y : Int32 × Nat} (hp : p < 9) (hat : f_at = nI p) (hnow : f_now = nI t) (ht : t ≤ 200) (hm : m < 1000000000000000) (hmt : tim m ≤ t) (hxq : xq < 9) (hyq : yq < 9) (hfx : f_x = nI xq) (hfy : f_y = nI yq) (hnx : f_nextX = nI i) (hny : f_nextY = nI j) (hi : i ≤ 1000) (hj : j ≤ 1000) (hY : YA a_val a_mom a_cnt a_end a_endMom p Lo none) (hl : Lo.length < 255) (hx : YA a_val a_mom a_cnt a_end a_endMom xq Lx zx) (hy : YA a_val a_mom a_cnt a_end a_endMom yq Ly zy) (h1 : 0 < mn i Lx.length) (h2 : 0 < mn j Ly.length) (hxx : Lx[mn i Lx.length - 1]? = some x) (hyy : Ly[mn j Ly.length - 1]? = some y)
    (H : ∀ va mm cn, YA va mm cn a_end a_endMom p (Lo ++ [(31 * x.1 + y.1, m)]) none → YF p a_val a_mom a_cnt a_end a_endMom va mm cn a_end a_endMom → post (f_stages, f_heard, f_now, f_calls, f_parts, f_start, f_at, f_nextX, f_nextY, f_x, f_y, a_kind, a_opA, a_opB, a_heardBy, a_what, a_said, a_when, a_over, a_part, a_first, a_second, a_user, a_goStage, a_goStep, a_done, va, mm, cn, a_end, a_endMom, a_begun, a_status, a_stageOf, a_began, a_taken, a_demand, a_asked, a_code, a_waits, a_waiting, a_came, a_given, a_got)) : wpY_latest post (f_stages, f_heard, f_now, f_calls, f_parts, f_start, f_at, f_nextX, f_nextY, f_x, f_y, a_kind, a_opA, a_opB, a_heardBy, a_what, a_said, a_when, a_over, a_part, a_first, a_second, a_user, a_goStage, a_goStep, a_done, a_val, a_mom, a_cnt, a_end, a_endMom, a_begun, a_status, a_stageOf, a_began, a_taken, a_demand, a_asked, a_code, a_waits, a_waiting, a_came, a_given, a_got) (lN m) := by
  have hcx : f_x.toNatClampNeg = xq := by rw [hfx]; exact nI_clamp (by omega)
  have hix : vp_in f_x 9 := by rw [hfx]; exact vp_in_nI hxq (by decide)
  have cx : a_cnt f_x.toNatClampNeg = nI Lx.length := by rw [hcx]; exact hx.1
  have hcy : f_y.toNatClampNeg = yq := by rw [hfy]; exact nI_clamp (by omega)
  have hiy : vp_in f_y 9 := by rw [hfy]; exact vp_in_nI hyq (by decide)
  have cy : a_cnt f_y.toNatClampNeg = nI Ly.length := by rw [hcy]; exact hy.1
  have lx := hx.2.1
  have ly := hy.2.1
  have s65 : wY_latest_65 post (lN m) (nI (mn i Lx.length)) (nI (mn j Ly.length)) f_stages f_heard f_now f_calls f_parts f_start f_at f_nextX f_nextY f_x f_y a_kind a_opA a_opB a_heardBy a_what a_said a_when a_over a_part a_first a_second a_user a_goStage a_goStep a_done a_val a_mom a_cnt a_end a_endMom a_begun a_status a_stageOf a_began a_taken a_demand a_asked a_code a_waits a_waiting a_came a_given a_got := by
    unfold wY_latest_65
    have e1 : nI (mn i Lx.length) - 1 = nI (mn i Lx.length - 1) := by rw [show (1 : Int32) = nI 1 from rfl, pk_sub (by omega)]
    have e2 : nI (mn j Ly.length) - 1 = nI (mn j Ly.length - 1) := by rw [show (1 : Int32) = nI 1 from rfl, pk_sub (by omega)]
    rw [e1, e2, hfx, hfy]
    refine yw_word (f_x := nI xq) (f_y := nI yq) hxq hx hxx (yw_word (f_x := nI xq) (f_y := nI yq) hyq hy hyy ?_)
    rw [← hfx, ← hfy]
    exact yw_put hp hat hnow ht hm hY hl (fun _ va mm cn k1 k2 => H va mm cn k1 k2) (fun z => absurd hmt z)
  have s32 : wY_latest_32 post (lN m) (nI (mn i Lx.length)) f_stages f_heard f_now f_calls f_parts f_start f_at f_nextX f_nextY f_x f_y a_kind a_opA a_opB a_heardBy a_what a_said a_when a_over a_part a_first a_second a_user a_goStage a_goStep a_done a_val a_mom a_cnt a_end a_endMom a_begun a_status a_stageOf a_began a_taken a_demand a_asked a_code a_waits a_waiting a_came a_given a_got := by
    refine ⟨hiy, ?_⟩
    by_cases h : j < Ly.length
    · refine br_f (by rw [cy, hny]; exact nI_ge h (by omega)) ?_
      rw [show mn j Ly.length = j from by unfold mn; rw [if_pos h], ← hny] at s65
      exact s65
    · refine br_t (by rw [cy, hny]; exact nI_le (by omega) (by omega)) ⟨hiy, ?_⟩
      rw [show mn j Ly.length = Ly.length from by unfold mn; rw [if_neg h], ← cy] at s65
      exact s65
  refine ⟨hix, ?_⟩
  by_cases h : i < Lx.length
  · refine br_f (by rw [cx, hnx]; exact nI_ge h (by omega)) ?_
    rw [show mn i Lx.length = i from by unfold mn; rw [if_pos h], ← hnx] at s32
    exact s32
  · refine br_t (by rw [cx, hnx]; exact nI_le (by omega) (by omega)) ⟨hix, ?_⟩
    rw [show mn i Lx.length = Lx.length from by unfold mn; rw [if_neg h], ← cx] at s32
    exact s32
theorem yh_loop {post : SY → Prop} {p xq yq t k : Nat} {a b : Int32} {Lx Ly : List (Int32 × Nat)} {zx zy : Option (Int32 × Nat)} {RES : List Ev} (hk : k = 16 ∨ k = 17 ∨ k = 18) (hp : p < 9) (hxq : xq < 9) (hyq : yq < 9) (hpx : xq ≠ p) (hpy : yq ≠ p) (hat : f_at = nI p) (hfx : f_x = nI xq) (hfy : f_y = nI yq) (hnow : f_now = nI t) (ht : t ≤ 200) (hex : ∀ e ∈ evs Lx zx, e.2.2 < 1000000000000000 ∧ tim e.2.2 ≤ t) (hey : ∀ e ∈ evs Ly zy, e.2.2 < 1000000000000000 ∧ tim e.2.2 ≤ t) (hL250 : Lx.length + Ly.length ≤ 250)
    (K : ∀ nx ny va mm cn en em L' z', YA va mm cn en em p L' z' → evs L' z' = RES → YF p a_val a_mom a_cnt a_end a_endMom va mm cn en em → L'.length ≤ Lx.length + Ly.length → post (f_stages, f_heard, f_now, f_calls, f_parts, f_start, f_at, nx, ny, f_x, f_y, a_kind, a_opA, a_opB, a_heardBy, a_what, a_said, a_when, a_over, a_part, a_first, a_second, a_user, a_goStage, a_goStep, a_done, va, mm, cn, en, em, a_begun, a_status, a_stageOf, a_began, a_taken, a_demand, a_asked, a_code, a_waits, a_waiting, a_came, a_given, a_got)) :
    ∀ (e i j : Nat) (S : PSt) (Lo : List (Int32 × Nat)) (va : Nat → Int32) (mm : Nat → Int64) (cn : Nat → Int32), i ≤ (evs Lx zx).length → j ≤ (evs Ly zy).length → (evs Lx zx).length - i + ((evs Ly zy).length - j) = e → Lo.length ≤ mn i Lx.length + mn j Ly.length → YA va mm cn a_end a_endMom p Lo none → YA va mm cn a_end a_endMom xq Lx zx → YA va mm cn a_end a_endMom yq Ly zy → YF p a_val a_mom a_cnt a_end a_endMom va mm cn a_end a_endMom → JI k i j Lx Ly S → cmp k i j Lx.length Ly.length = false → RES = ((mrg (tg 0 ((evs Lx zx).drop i)) (tg 1 ((evs Ly zy).drop j))).foldl (stp k a b) (S, evs Lo none)).2 → wY_both_10 post (nI k) (e + 1) f_stages f_heard f_now f_calls f_parts f_start f_at (nI i) (nI j) f_x f_y a_kind a_opA a_opB a_heardBy a_what a_said a_when a_over a_part a_first a_second a_user a_goStage a_goStep a_done (va) (mm) (cn) a_end a_endMom a_begun a_status a_stageOf a_began a_taken a_demand a_asked a_code a_waits a_waiting a_came a_given a_got := by
  have hmx : ∀ e ∈ evs Lx zx, e.2.2 < 1000000000000000 := fun e he => (hex e he).1
  have hmy : ∀ e ∈ evs Ly zy, e.2.2 < 1000000000000000 := fun e he => (hey e he).1
  have hlx := yd_len Lx zx
  have hly := yd_len Ly zy
  have hzx1 : ze zx ≤ 1 := by cases zx <;> simp [ze]
  have hzy1 : ze zy ≤ 1 := by cases zy <;> simp [ze]
  -- what ended: the loop's head sees it
  have ended : ∀ (n : Nat) (nx ny : Int32) (va : Nat → Int32) (mm : Nat → Int64) (cn en : Nat → Int32) (em : Nat → Int64) (Lo : List (Int32 × Nat)) (w : Int32 × Nat), YA va mm cn en em p Lo (some w) → evs Lo (some w) = RES → YF p a_val a_mom a_cnt a_end a_endMom va mm cn en em → Lo.length ≤ Lx.length + Ly.length → wY_both_314 post (wY_both_10 post (nI k) n) (nI k) (lN w.2) f_stages f_heard f_now f_calls f_parts f_start f_at (nx) (ny) f_x f_y a_kind a_opA a_opB a_heardBy a_what a_said a_when a_over a_part a_first a_second a_user a_goStage a_goStep a_done (va) (mm) (cn) (en) (em) a_begun a_status a_stageOf a_began a_taken a_demand a_asked a_code a_waits a_waiting a_came a_given a_got → True := fun _ _ _ _ _ _ _ _ _ _ _ _ _ _ _ => True.intro
  have over : ∀ (n : Nat) (nx ny : Int32) (va : Nat → Int32) (mm : Nat → Int64) (cn en : Nat → Int32) (em : Nat → Int64) (Lo : List (Int32 × Nat)) (w : Int32 × Nat), YA va mm cn en em p Lo (some w) → evs Lo (some w) = RES → YF p a_val a_mom a_cnt a_end a_endMom va mm cn en em → Lo.length ≤ Lx.length + Ly.length → wY_both_10 post (nI k) (n + 1) f_stages f_heard f_now f_calls f_parts f_start f_at (nx) (ny) f_x f_y a_kind a_opA a_opB a_heardBy a_what a_said a_when a_over a_part a_first a_second a_user a_goStage a_goStep a_done (va) (mm) (cn) (en) (em) a_begun a_status a_stageOf a_began a_taken a_demand a_asked a_code a_waits a_waiting a_came a_given a_got := by
    intro n nx ny va mm cn en em Lo w h1 h2 h3 h4
    have hcl : f_at.toNatClampNeg = p := by rw [hat]; exact nI_clamp (by omega)
    obtain ⟨b1, b2, b3⟩ := yb_m1 h1.2.2.2.1 h1.2.2.2.2.1 (fun w hw => (h1.2.2.2.2.2 w hw).1)
    exact ⟨by rw [hat]; exact vp_in_nI hp (by decide), br_t (by rw [hcl]; exact b2.mpr (by simp)) (K nx ny va mm cn en em Lo (some w) h1 h2 h3 h4)⟩
  have over314 : ∀ (n : Nat) (m : Nat) (nx ny : Int32) (va : Nat → Int32) (mm : Nat → Int64) (cn en : Nat → Int32) (em : Nat → Int64) (Lo : List (Int32 × Nat)) (w : Int32 × Nat), YA va mm cn en em p Lo (some w) → evs Lo (some w) = RES → YF p a_val a_mom a_cnt a_end a_endMom va mm cn en em → Lo.length ≤ Lx.length + Ly.length → wY_both_314 post (wY_both_10 post (nI k) (n + 1)) (nI k) (lN m) f_stages f_heard f_now f_calls f_parts f_start f_at (nx) (ny) f_x f_y a_kind a_opA a_opB a_heardBy a_what a_said a_when a_over a_part a_first a_second a_user a_goStage a_goStep a_done (va) (mm) (cn) (en) (em) a_begun a_status a_stageOf a_began a_taken a_demand a_asked a_code a_waits a_waiting a_came a_given a_got := by
    intro n m nx ny va mm cn en em Lo w h1 h2 h3 h4
    have hcl : f_at.toNatClampNeg = p := by rw [hat]; exact nI_clamp (by omega)
    obtain ⟨b1, b2, b3⟩ := yb_m1 h1.2.2.2.1 h1.2.2.2.2.1 (fun w hw => (h1.2.2.2.2.2 w hw).1)
    exact ⟨by rw [hat]; exact vp_in_nI hp (by decide), br_t (by rw [hcl]; exact b2.mpr (by simp)) (over n nx ny va mm cn en em Lo w h1 h2 h3 h4)⟩
  intro e
  induction e with
  | zero =>
    intro i j S Lo va mm cn hi hj he hLo hY hx hy hF hJ hc hT
    have m1 := ye_mnle i Lx.length
    have m2 := ye_mnle j Ly.length
    have l1 := hx.2.1
    have l2 := hy.2.1
    refine yd_head (f_nextX := nI i) (f_nextY := nI j) (a_val := va) (a_mom := mm) (a_cnt := cn) hp hat hxq hyq hfx hfy (by omega) (by omega) rfl rfl hmx hmy hY hx hy (fun h1 h2 => ?_) (fun ex h1 _ => ?_) (fun ey h1 _ => ?_)
    · refine K (nI i) (nI j) va mm cn a_end a_endMom Lo none hY ?_ hF (by omega)
      rw [hT, yd_dropn h1, yd_dropn h2]
      rfl
    · rw [List.getElem?_eq_none (by omega)] at h1; simp at h1
    · rw [List.getElem?_eq_none (by omega)] at h1; simp at h1
  | succ e ih =>
    intro i j S Lo va mm cn hi hj he hLo hY hx hy hF hJ hc hT
    have m1 := ye_mnle i Lx.length
    have m2 := ye_mnle j Ly.length
    have l1 := hx.2.1
    have l2 := hy.2.1
    refine yd_head (f_nextX := nI i) (f_nextY := nI j) (a_val := va) (a_mom := mm) (a_cnt := cn) hp hat hxq hyq hfx hfy (by omega) (by omega) rfl rfl hmx hmy hY hx hy (fun h1 h2 => ?_) (fun ex h1 h2 => ?_) (fun ey h1 h2 => ?_)
    · omega
    · -- side x
      have hmg : mrg (tg 0 ((evs Lx zx).drop i)) (tg 1 ((evs Ly zy).drop j)) = (0, ex) :: mrg (tg 0 ((evs Lx zx).drop (i + 1))) (tg 1 ((evs Ly zy).drop j)) := by
        rw [yd_drop h1]
        refine ye_mx (fun w hw => ?_)
        rw [ye_hd] at hw
        obtain ⟨w', hw', rfl⟩ := Option.map_eq_some_iff.mp hw
        exact h2 w' hw'
      rw [hmg, List.foldl_cons] at hT
      have hmem := List.mem_of_getElem? h1
      have hem := (hex ex hmem).1
      have het := (hex ex hmem).2
      have hcq : (nI xq).toNatClampNeg = xq := nI_clamp (by omega)
      have hiq : vp_in (nI xq) 9 := vp_in_nI hxq (by decide)
      have hiH : i < (evs Lx zx).length := by
        rcases Nat.lt_or_ge i (evs Lx zx).length with w | w
        · exact w
        · rw [List.getElem?_eq_none w] at h1; simp at h1
      by_cases hil : i < Lx.length
      · rw [decide_eq_true hil]
        rw [yd_item hil] at h1
        obtain ⟨x, hxx⟩ : ∃ x, Lx[i]? = some x := ⟨_, List.getElem?_eq_getElem hil⟩
        have hxe : Lx[i] = x := by
          rw [List.getElem?_eq_getElem hil] at hxx
          exact Option.some.inj hxx
        rw [hxe] at h1
        cases h1
        obtain ⟨n1, n2⟩ := ye_mn1 hil
        refine br_f (by decide) ?_
        rcases hk with hk0 | hk0 | hk0
        · subst hk0
          refine br_t rfl (br_f (by decide) ?_)
          refine yw_word (f_nextX := nI (i + 1)) (f_nextY := nI j) hxq hx hxx (yw_put (f_nextX := nI (i + 1)) (f_nextY := nI j) hp hat hnow ht hem hY (by omega) (fun _ va2 mm2 cn2 g1 g2 => ?_) (fun w => absurd het w))
          have hcm : cmp 16 (i + 1) j Lx.length Ly.length = false := by
            have d1 : decide (Lx.length < i + 1) = false := decide_eq_false (by omega)
            simp [cmp, d1]
          refine br_f (by decide) (br_f (by decide) (yd_314 (k := 16) (i := (i + 1)) (j := j) (Or.inl rfl) hp hat hnow ht hem het hxq hyq hfx hfy (by omega) (by omega) rfl rfl g1 (g2 xq hpx _ _ hx) (g2 yq hpy _ _ hy) (fun _ => ?_) (fun w => by rw [hcm] at w; exact absurd w (by decide))))
          refine ih (i + 1) j S _ va2 mm2 cn2 (by omega) (by omega) (by omega) (by rw [n2]; simp; omega) g1 (g2 xq hpx _ _ hx) (g2 yq hpy _ _ hy) (yb_trans hF g2) ?_ hcm ?_
          · obtain ⟨d, c, h, hyy, f, fy, qx, q, ox, oy⟩ := S
            obtain ⟨j1, j2, j3, j4⟩ := hJ
            exact ⟨by rw [j1, decide_eq_false (show ¬ Lx.length < i by omega), decide_eq_false (show ¬ Lx.length < i + 1 by omega)], j2, fun w => by omega, fun w => by omega⟩
          · rw [hT]
            show (List.foldl (stp 16 a b) (stp 16 a b (S, evs Lo none) (0, 1, x.1, x.2)) _).2 = _
            rw [ye_item16 (by decide)]
        · subst hk0
          obtain ⟨q1, q2, q3⟩ := yg_17x (a := a) (b := b) (Lo := Lo) hxx hJ hc
          refine br_f (by decide) (br_t rfl (br_f (by decide) ?_))
          have c259 : ∀ (va2 : Nat → Int32) (mm2 : Nat → Int64) (cn2 en2 : Nat → Int32) (em2 : Nat → Int64), wY_both_314 post (wY_both_10 post (nI 17) (e + 1)) (nI 17) (lN x.2) f_stages f_heard f_now f_calls f_parts f_start f_at (nI (i + 1)) (nI j) f_x f_y a_kind a_opA a_opB a_heardBy a_what a_said a_when a_over a_part a_first a_second a_user a_goStage a_goStep a_done (va2) (mm2) (cn2) (en2) (em2) a_begun a_status a_stageOf a_began a_taken a_demand a_asked a_code a_waits a_waiting a_came a_given a_got → wY_both_259 post (wY_both_10 post (nI 17) (e + 1)) (nI 17) (lN x.2) 1 f_stages f_heard f_now f_calls f_parts f_start f_at (nI (i + 1)) (nI j) f_x f_y a_kind a_opA a_opB a_heardBy a_what a_said a_when a_over a_part a_first a_second a_user a_goStage a_goStep a_done (va2) (mm2) (cn2) (en2) (em2) a_begun a_status a_stageOf a_began a_taken a_demand a_asked a_code a_waits a_waiting a_came a_given a_got := fun _ _ _ _ _ h => br_f (by decide) h
          have hT0 : RES = (List.foldl (stp 17 a b) (stp 17 a b (S, evs Lo none) (0, 1, x.1, x.2)) (mrg (tg 0 ((evs Lx zx).drop (i + 1))) (tg 1 ((evs Ly zy).drop j)))).2 := hT
          have m3 := ye_mnle j Ly.length
          refine yh_pairx (f_nextX := nI (i + 1)) (f_nextY := nI j) (i := i) (j := j) hyq hfy rfl rfl (by omega) hy (yh_88 (f_nextX := nI (i + 1)) (f_nextY := nI j) hp hat hnow ht hem het hxq hyq hfx hfy hY (by omega) hx hy (by omega) (by omega) ?_ ?_ ?_)
          · intro hlt
            obtain ⟨y, hyy⟩ : ∃ y, Ly[i]? = some y := ⟨_, List.getElem?_eq_getElem (by omega)⟩
            obtain ⟨S', hS', hJ'⟩ := q1 y hlt hyy
            refine ⟨x, y, hxx, hyy, fun va2 mm2 cn2 g1 g2 => c259 _ _ _ _ _ ?_⟩
            rw [hS'] at hT0
            refine yd_314 (k := 17) (i := (i + 1)) (j := j) (Or.inr (Or.inl rfl)) hp hat hnow ht hem het hxq hyq hfx hfy (by omega) (by omega) rfl rfl g1 (g2 xq hpx _ _ hx) (g2 yq hpy _ _ hy) (fun w => ?_) (fun w en em k1 k2 => ?_)
            · rw [if_neg (by rw [w]; decide)] at hT0
              exact ih (i + 1) j S' _ va2 mm2 cn2 (by omega) (by omega) (by omega) (by rw [n2]; simp; omega) g1 (g2 xq hpx _ _ hx) (g2 yq hpy _ _ hy) (yb_trans hF g2) hJ' w hT0
            · rw [if_pos w, rn_fold_fin _ _ (yt_finend _ _ _)] at hT0
              exact K _ _ va2 mm2 cn2 en em _ _ k1 hT0.symm (yb_trans hF (yb_trans g2 k2)) (by simp; omega)
          · intro hle h8
            obtain ⟨hcm, S', hS', hJ'⟩ := q2 hle h8
            rw [hS'] at hT0
            refine c259 _ _ _ _ _ (yd_314 (k := 17) (i := (i + 1)) (j := j) (Or.inr (Or.inl rfl)) hp hat hnow ht hem het hxq hyq hfx hfy (by omega) (by omega) rfl rfl hY hx hy (fun _ => ?_) (fun w => by rw [hcm] at w; exact absurd w (by decide)))
            exact ih (i + 1) j S' Lo va mm cn (by omega) (by omega) (by omega) (by rw [n2]; omega) hY hx hy hF hJ' hcm hT0
          · intro hle h8 en em k1 k2
            have hf := q3 hle h8
            rw [rn_fold_fin _ _ (by rw [hf]; exact yt_finend _ _ _), hf] at hT0
            exact c259 _ _ _ _ _ (over314 e x.2 _ _ va mm cn en em Lo (8, x.2) k1 hT0.symm (yb_trans hF k2) (by omega))
        · subst hk0
          obtain ⟨S', hJ', hcm, q1, q2⟩ := yg_18x (a := a) (b := b) (Lo := Lo) hxx hJ hc
          have hT0 : RES = (List.foldl (stp 18 a b) (stp 18 a b (S, evs Lo none) (0, 1, x.1, x.2)) (mrg (tg 0 ((evs Lx zx).drop (i + 1))) (tg 1 ((evs Ly zy).drop j)))).2 := hT
          have c314 : ∀ (Lo2 : List (Int32 × Nat)) (va2 : Nat → Int32) (mm2 : Nat → Int64) (cn2 : Nat → Int32), YA va2 mm2 cn2 a_end a_endMom p Lo2 none → YA va2 mm2 cn2 a_end a_endMom xq Lx zx → YA va2 mm2 cn2 a_end a_endMom yq Ly zy → YF p a_val a_mom a_cnt a_end a_endMom va2 mm2 cn2 a_end a_endMom → Lo2.length ≤ mn (i + 1) Lx.length + mn j Ly.length → stp 18 a b (S, evs Lo none) (0, 1, x.1, x.2) = (S', evs Lo2 none) → wY_both_314 post (wY_both_10 post (nI 18) (e + 1)) (nI 18) (lN x.2) f_stages f_heard f_now f_calls f_parts f_start f_at (nI (i + 1)) (nI j) f_x f_y a_kind a_opA a_opB a_heardBy a_what a_said a_when a_over a_part a_first a_second a_user a_goStage a_goStep a_done (va2) (mm2) (cn2) a_end a_endMom a_begun a_status a_stageOf a_began a_taken a_demand a_asked a_code a_waits a_waiting a_came a_given a_got := by
            intro Lo2 va2 mm2 cn2 g1 g2 g3 g4 g5 g6
            rw [g6] at hT0
            refine yd_314 (k := 18) (i := (i + 1)) (j := j) (Or.inr (Or.inr rfl)) hp hat hnow ht hem het hxq hyq hfx hfy (by omega) (by omega) rfl rfl g1 g2 g3 (fun _ => ?_) (fun w => by rw [hcm] at w; exact absurd w (by decide))
            exact ih (i + 1) j S' Lo2 va2 mm2 cn2 (by omega) (by omega) (by omega) g5 g1 g2 g3 g4 hJ' hcm hT0
          have hcx : f_x.toNatClampNeg = xq := by rw [hfx]; exact nI_clamp (by omega)
          have hix : vp_in f_x 9 := by rw [hfx]; exact vp_in_nI hxq (by decide)
          have cx : cn f_x.toNatClampNeg = nI Lx.length := by rw [hcx]; exact hx.1
          have hcy : f_y.toNatClampNeg = yq := by rw [hfy]; exact nI_clamp (by omega)
          have hiy : vp_in f_y 9 := by rw [hfy]; exact vp_in_nI hyq (by decide)
          have cy : cn f_y.toNatClampNeg = nI Ly.length := by rw [hcy]; exact hy.1
          have none0 : mn j Ly.length = 0 → wY_both_314 post (wY_both_10 post (nI 18) (e + 1)) (nI 18) (lN x.2) f_stages f_heard f_now f_calls f_parts f_start f_at (nI (i + 1)) (nI j) f_x f_y a_kind a_opA a_opB a_heardBy a_what a_said a_when a_over a_part a_first a_second a_user a_goStage a_goStep a_done (va) (mm) (cn) a_end a_endMom a_begun a_status a_stageOf a_began a_taken a_demand a_asked a_code a_waits a_waiting a_came a_given a_got := fun h0 => c314 Lo va mm cn hY hx hy hF (by rw [n2]; omega) (q1 h0)
          have m3 := ye_mnle j Ly.length
          refine br_f (by decide) (br_f (by decide) (br_t rfl (br_f (by decide) ?_)))
          by_cases h0 : mn j Ly.length = 0
          · have hz := none0 h0
            refine br_f (nI_nle (by omega) (by omega)) ?_
            by_cases e2 : j = 0
            · exact br_t (by rw [e2]; decide) hz
            · refine br_f (nI_nle (by omega) (by omega)) ⟨hix, br_f (by rw [cx]; exact nI_nle (by omega) (by omega)) ⟨hiy, br_t ?_ hz⟩⟩
              have h00 : Ly.length = 0 := by
                unfold mn at h0
                split at h0 <;> omega
              rw [cy, h00]; decide
          · obtain ⟨y, hyy⟩ : ∃ y, Ly[mn j Ly.length - 1]? = some y := ⟨_, List.getElem?_eq_getElem (by omega)⟩
            refine br_f (nI_nle (by omega) (by omega)) (br_f (nI_nle (by omega) (by omega)) ⟨hix, br_f (by rw [cx]; exact nI_nle (by omega) (by omega)) ⟨hiy, br_f (by rw [cy]; exact nI_nle (by omega) (by omega)) ?_⟩⟩)
            refine yh_latest (f_nextX := nI (i + 1)) (f_nextY := nI j) (i := i + 1) (j := j) (x := x) (y := y) hp hat hnow ht hem het hxq hyq hfx hfy rfl rfl (by omega) (by omega) hY (by omega) hx hy (by omega) (by omega) (by rw [n2, Nat.add_sub_cancel]; exact hxx) hyy (fun va2 mm2 cn2 g1 g2 => ?_)
            exact c314 _ va2 mm2 cn2 g1 (g2 xq hpx _ _ hx) (g2 yq hpy _ _ hy) (yb_trans hF g2) (by rw [n2]; simp; omega) (q2 y (by omega) hyy)
      · rw [decide_eq_false hil]
        have hie : i = Lx.length := by omega
        subst hie
        cases zx with
        | none => simp [evs] at hiH
        | some w =>
          obtain ⟨v, m⟩ := w
          rw [yd_endi] at h1
          cases h1
          obtain ⟨n1, n2⟩ := ye_mn2 Lx.length
          obtain ⟨hm1, jj, hjj, ejj⟩ := hx.2.2.2.1 (v, m) rfl
          have hev0 := hx.2.2.2.2.2 (v, m) rfl
          have hev : a_end (nI xq).toNatClampNeg = v := by rw [hcq]; exact hev0.1
          refine br_t rfl ⟨hiq, ?_⟩
          by_cases hv0 : v = 0
          · subst hv0
            obtain ⟨S', hS', hJ'⟩ := ye_compx (a := a) (b := b) (Lo := Lo) (m := m) hk hJ hc
            have hT0 : RES = (List.foldl (stp k a b) (stp k a b (S, evs Lo none) (0, 2, 0, m)) (mrg (tg 0 ((evs Lx (some (0, m))).drop (Lx.length + 1))) (tg 1 ((evs Ly zy).drop j)))).2 := hT
            rw [hS'] at hT0
            have g314 : wY_both_314 post (wY_both_10 post (nI k) (e + 1)) (nI k) (lN m) f_stages f_heard f_now f_calls f_parts f_start f_at (nI (Lx.length + 1)) (nI j) f_x f_y a_kind a_opA a_opB a_heardBy a_what a_said a_when a_over a_part a_first a_second a_user a_goStage a_goStep a_done (va) (mm) (cn) a_end a_endMom a_begun a_status a_stageOf a_began a_taken a_demand a_asked a_code a_waits a_waiting a_came a_given a_got := by
              refine yd_314 (k := k) (i := (Lx.length + 1)) (j := j) hk hp hat hnow ht hem het hxq hyq hfx hfy (by omega) (by omega) rfl rfl hY hx hy (fun w => ?_) (fun w en em k1 k2 => ?_)
              · rw [if_neg (by rw [w]; decide)] at hT0
                exact ih (Lx.length + 1) j S' Lo va mm cn (by omega) (by omega) (by omega) (by rw [n2]; rw [n1] at hLo; exact hLo) hY hx hy hF hJ' w hT0
              · rw [if_pos w, rn_fold_fin _ _ (yt_finend _ _ _)] at hT0
                exact K _ _ va mm cn en em _ _ k1 hT0.symm (yb_trans hF k2) (by omega)
            refine br_t (by rw [hev]; decide) ?_
            rcases hk with hk0 | hk0 | hk0
            · subst hk0
              exact br_t rfl (br_t rfl (br_f (by decide) (br_f (by decide) g314)))
            · subst hk0
              exact br_f (by decide) (br_t rfl (br_t rfl (br_f (by decide) g314)))
            · subst hk0
              exact br_f (by decide) (br_f (by decide) (br_t rfl (br_t rfl g314)))
          · have hjp : 0 < jj := by
              rcases Nat.eq_zero_or_pos jj with w | w
              · exfalso; apply hv0; have : v = nI jj := ejj; rw [this, w]; rfl
              · exact w
            refine br_f (by rw [hev, show v = nI jj from ejj]; exact nI_nle hjp (by omega)) ⟨hiq, ?_⟩
            rw [hev]
            refine yw_stop (f_nextX := nI (Lx.length + 1)) (f_nextY := nI j) hp hat hnow ht hm1 hjj ejj hY (fun _ en em k1 k2 => K _ _ va mm cn en em Lo (some (v, m)) k1 ?_ (yb_trans hF k2) (by omega)) (fun w => absurd het w)
            have hE := ye_err (k := k) (a := a) (b := b) (s := 0) (Lo := Lo) (S := S) (v := v) (m := m) (by omega) (by decide) hv0
            rw [hT, rn_fold_fin _ _ (by rw [hE]; exact yt_finend _ _ _), hE]
    · -- side y
      have hmg : mrg (tg 0 ((evs Lx zx).drop i)) (tg 1 ((evs Ly zy).drop j)) = (1, ey) :: mrg (tg 0 ((evs Lx zx).drop i)) (tg 1 ((evs Ly zy).drop (j + 1))) := by
        rw [yd_drop h1]
        refine ye_my (fun w hw => ?_)
        rw [ye_hd] at hw
        obtain ⟨w', hw', rfl⟩ := Option.map_eq_some_iff.mp hw
        exact h2 w' hw'
      rw [hmg, List.foldl_cons] at hT
      have hmem := List.mem_of_getElem? h1
      have hem := (hey ey hmem).1
      have het := (hey ey hmem).2
      have hcq : (nI yq).toNatClampNeg = yq := nI_clamp (by omega)
      have hiq : vp_in (nI yq) 9 := vp_in_nI hyq (by decide)
      have hiH : j < (evs Ly zy).length := by
        rcases Nat.lt_or_ge j (evs Ly zy).length with w | w
        · exact w
        · rw [List.getElem?_eq_none w] at h1; simp at h1
      by_cases hil : j < Ly.length
      · rw [decide_eq_true hil]
        rw [yd_item hil] at h1
        obtain ⟨x, hxx⟩ : ∃ x, Ly[j]? = some x := ⟨_, List.getElem?_eq_getElem hil⟩
        have hxe : Ly[j] = x := by
          rw [List.getElem?_eq_getElem hil] at hxx
          exact Option.some.inj hxx
        rw [hxe] at h1
        cases h1
        obtain ⟨n1, n2⟩ := ye_mn1 hil
        refine br_f (by decide) ?_
        rcases hk with hk0 | hk0 | hk0
        · subst hk0
          refine br_t rfl (br_f (by decide) ?_)
          refine yw_word (f_nextX := nI i) (f_nextY := nI (j + 1)) hyq hy hxx (yw_put (f_nextX := nI i) (f_nextY := nI (j + 1)) hp hat hnow ht hem hY (by omega) (fun _ va2 mm2 cn2 g1 g2 => ?_) (fun w => absurd het w))
          have hcm : cmp 16 i (j + 1) Lx.length Ly.length = false := by
            have d1 : decide (Ly.length < j + 1) = false := decide_eq_false (by omega)
            simp [cmp, d1]
          refine br_f (by decide) (br_f (by decide) (yd_314 (k := 16) (i := i) (j := (j + 1)) (Or.inl rfl) hp hat hnow ht hem het hxq hyq hfx hfy (by omega) (by omega) rfl rfl g1 (g2 xq hpx _ _ hx) (g2 yq hpy _ _ hy) (fun _ => ?_) (fun w => by rw [hcm] at w; exact absurd w (by decide))))
          refine ih i (j + 1) S _ va2 mm2 cn2 (by omega) (by omega) (by omega) (by rw [n2]; simp; omega) g1 (g2 xq hpx _ _ hx) (g2 yq hpy _ _ hy) (yb_trans hF g2) ?_ hcm ?_
          · obtain ⟨d, c, h, hyy, f, fy, qx, q, ox, oy⟩ := S
            obtain ⟨j1, j2, j3, j4⟩ := hJ
            exact ⟨j1, by rw [j2, decide_eq_false (show ¬ Ly.length < j by omega), decide_eq_false (show ¬ Ly.length < j + 1 by omega)], fun w => by omega, fun w => by omega⟩
          · rw [hT]
            show (List.foldl (stp 16 a b) (stp 16 a b (S, evs Lo none) (1, 1, x.1, x.2)) _).2 = _
            rw [ye_item16 (by decide)]
        · subst hk0
          obtain ⟨q1, q2, q3⟩ := yg_17y (a := a) (b := b) (Lo := Lo) hxx hJ hc
          refine br_f (by decide) (br_t rfl (br_f (by decide) ?_))
          have c259 : ∀ (va2 : Nat → Int32) (mm2 : Nat → Int64) (cn2 en2 : Nat → Int32) (em2 : Nat → Int64), wY_both_314 post (wY_both_10 post (nI 17) (e + 1)) (nI 17) (lN x.2) f_stages f_heard f_now f_calls f_parts f_start f_at (nI i) (nI (j + 1)) f_x f_y a_kind a_opA a_opB a_heardBy a_what a_said a_when a_over a_part a_first a_second a_user a_goStage a_goStep a_done (va2) (mm2) (cn2) (en2) (em2) a_begun a_status a_stageOf a_began a_taken a_demand a_asked a_code a_waits a_waiting a_came a_given a_got → wY_both_259 post (wY_both_10 post (nI 17) (e + 1)) (nI 17) (lN x.2) 1 f_stages f_heard f_now f_calls f_parts f_start f_at (nI i) (nI (j + 1)) f_x f_y a_kind a_opA a_opB a_heardBy a_what a_said a_when a_over a_part a_first a_second a_user a_goStage a_goStep a_done (va2) (mm2) (cn2) (en2) (em2) a_begun a_status a_stageOf a_began a_taken a_demand a_asked a_code a_waits a_waiting a_came a_given a_got := fun _ _ _ _ _ h => br_f (by decide) h
          have hT0 : RES = (List.foldl (stp 17 a b) (stp 17 a b (S, evs Lo none) (1, 1, x.1, x.2)) (mrg (tg 0 ((evs Lx zx).drop i)) (tg 1 ((evs Ly zy).drop (j + 1))))).2 := hT
          have m3 := ye_mnle i Lx.length
          refine yh_pairy (f_nextX := nI i) (f_nextY := nI (j + 1)) (i := i) (j := j) hxq hfx rfl rfl (by omega) hx (yh_88 (f_nextX := nI i) (f_nextY := nI (j + 1)) hp hat hnow ht hem het hxq hyq hfx hfy hY (by omega) hx hy (by omega) (by omega) ?_ ?_ ?_)
          · intro hlt
            obtain ⟨y, hyy⟩ : ∃ y, Lx[j]? = some y := ⟨_, List.getElem?_eq_getElem (by omega)⟩
            obtain ⟨S', hS', hJ'⟩ := q1 y hlt hyy
            refine ⟨y, x, hyy, hxx, fun va2 mm2 cn2 g1 g2 => c259 _ _ _ _ _ ?_⟩
            rw [hS'] at hT0
            refine yd_314 (k := 17) (i := i) (j := (j + 1)) (Or.inr (Or.inl rfl)) hp hat hnow ht hem het hxq hyq hfx hfy (by omega) (by omega) rfl rfl g1 (g2 xq hpx _ _ hx) (g2 yq hpy _ _ hy) (fun w => ?_) (fun w en em k1 k2 => ?_)
            · rw [if_neg (by rw [w]; decide)] at hT0
              exact ih i (j + 1) S' _ va2 mm2 cn2 (by omega) (by omega) (by omega) (by rw [n2]; simp; omega) g1 (g2 xq hpx _ _ hx) (g2 yq hpy _ _ hy) (yb_trans hF g2) hJ' w hT0
            · rw [if_pos w, rn_fold_fin _ _ (yt_finend _ _ _)] at hT0
              exact K _ _ va2 mm2 cn2 en em _ _ k1 hT0.symm (yb_trans hF (yb_trans g2 k2)) (by simp; omega)
          · intro hle h8
            obtain ⟨hcm, S', hS', hJ'⟩ := q2 hle h8
            rw [hS'] at hT0
            refine c259 _ _ _ _ _ (yd_314 (k := 17) (i := i) (j := (j + 1)) (Or.inr (Or.inl rfl)) hp hat hnow ht hem het hxq hyq hfx hfy (by omega) (by omega) rfl rfl hY hx hy (fun _ => ?_) (fun w => by rw [hcm] at w; exact absurd w (by decide)))
            exact ih i (j + 1) S' Lo va mm cn (by omega) (by omega) (by omega) (by rw [n2]; omega) hY hx hy hF hJ' hcm hT0
          · intro hle h8 en em k1 k2
            have hf := q3 hle h8
            rw [rn_fold_fin _ _ (by rw [hf]; exact yt_finend _ _ _), hf] at hT0
            exact c259 _ _ _ _ _ (over314 e x.2 _ _ va mm cn en em Lo (8, x.2) k1 hT0.symm (yb_trans hF k2) (by omega))
        · subst hk0
          obtain ⟨S', hJ', hcm, q1, q2⟩ := yg_18y (a := a) (b := b) (Lo := Lo) hxx hJ hc
          have hT0 : RES = (List.foldl (stp 18 a b) (stp 18 a b (S, evs Lo none) (1, 1, x.1, x.2)) (mrg (tg 0 ((evs Lx zx).drop i)) (tg 1 ((evs Ly zy).drop (j + 1))))).2 := hT
          have c314 : ∀ (Lo2 : List (Int32 × Nat)) (va2 : Nat → Int32) (mm2 : Nat → Int64) (cn2 : Nat → Int32), YA va2 mm2 cn2 a_end a_endMom p Lo2 none → YA va2 mm2 cn2 a_end a_endMom xq Lx zx → YA va2 mm2 cn2 a_end a_endMom yq Ly zy → YF p a_val a_mom a_cnt a_end a_endMom va2 mm2 cn2 a_end a_endMom → Lo2.length ≤ mn i Lx.length + mn (j + 1) Ly.length → stp 18 a b (S, evs Lo none) (1, 1, x.1, x.2) = (S', evs Lo2 none) → wY_both_314 post (wY_both_10 post (nI 18) (e + 1)) (nI 18) (lN x.2) f_stages f_heard f_now f_calls f_parts f_start f_at (nI i) (nI (j + 1)) f_x f_y a_kind a_opA a_opB a_heardBy a_what a_said a_when a_over a_part a_first a_second a_user a_goStage a_goStep a_done (va2) (mm2) (cn2) a_end a_endMom a_begun a_status a_stageOf a_began a_taken a_demand a_asked a_code a_waits a_waiting a_came a_given a_got := by
            intro Lo2 va2 mm2 cn2 g1 g2 g3 g4 g5 g6
            rw [g6] at hT0
            refine yd_314 (k := 18) (i := i) (j := (j + 1)) (Or.inr (Or.inr rfl)) hp hat hnow ht hem het hxq hyq hfx hfy (by omega) (by omega) rfl rfl g1 g2 g3 (fun _ => ?_) (fun w => by rw [hcm] at w; exact absurd w (by decide))
            exact ih i (j + 1) S' Lo2 va2 mm2 cn2 (by omega) (by omega) (by omega) g5 g1 g2 g3 g4 hJ' hcm hT0
          have hcx : f_x.toNatClampNeg = xq := by rw [hfx]; exact nI_clamp (by omega)
          have hix : vp_in f_x 9 := by rw [hfx]; exact vp_in_nI hxq (by decide)
          have cx : cn f_x.toNatClampNeg = nI Lx.length := by rw [hcx]; exact hx.1
          have hcy : f_y.toNatClampNeg = yq := by rw [hfy]; exact nI_clamp (by omega)
          have hiy : vp_in f_y 9 := by rw [hfy]; exact vp_in_nI hyq (by decide)
          have cy : cn f_y.toNatClampNeg = nI Ly.length := by rw [hcy]; exact hy.1
          have none0 : mn i Lx.length = 0 → wY_both_314 post (wY_both_10 post (nI 18) (e + 1)) (nI 18) (lN x.2) f_stages f_heard f_now f_calls f_parts f_start f_at (nI i) (nI (j + 1)) f_x f_y a_kind a_opA a_opB a_heardBy a_what a_said a_when a_over a_part a_first a_second a_user a_goStage a_goStep a_done (va) (mm) (cn) a_end a_endMom a_begun a_status a_stageOf a_began a_taken a_demand a_asked a_code a_waits a_waiting a_came a_given a_got := fun h0 => c314 Lo va mm cn hY hx hy hF (by rw [n2]; omega) (q1 h0)
          have m3 := ye_mnle i Lx.length
          refine br_f (by decide) (br_f (by decide) (br_t rfl (br_f (by decide) ?_)))
          by_cases h0 : mn i Lx.length = 0
          · have hz := none0 h0
            by_cases e2 : i = 0
            · exact br_t (by rw [e2]; decide) hz
            · refine br_f (nI_nle (by omega) (by omega)) (br_f (nI_nle (by omega) (by omega)) ⟨hix, br_t ?_ hz⟩)
              have h00 : Lx.length = 0 := by
                unfold mn at h0
                split at h0 <;> omega
              rw [cx, h00]; decide
          · obtain ⟨y, hyy⟩ : ∃ y, Lx[mn i Lx.length - 1]? = some y := ⟨_, List.getElem?_eq_getElem (by omega)⟩
            refine br_f (nI_nle (by omega) (by omega)) (br_f (nI_nle (by omega) (by omega)) ⟨hix, br_f (by rw [cx]; exact nI_nle (by omega) (by omega)) ⟨hiy, br_f (by rw [cy]; exact nI_nle (by omega) (by omega)) ?_⟩⟩)
            refine yh_latest (f_nextX := nI i) (f_nextY := nI (j + 1)) (i := i) (j := j + 1) (x := y) (y := x) hp hat hnow ht hem het hxq hyq hfx hfy rfl rfl (by omega) (by omega) hY (by omega) hx hy (by omega) (by omega) hyy (by rw [n2, Nat.add_sub_cancel]; exact hxx) (fun va2 mm2 cn2 g1 g2 => ?_)
            exact c314 _ va2 mm2 cn2 g1 (g2 xq hpx _ _ hx) (g2 yq hpy _ _ hy) (yb_trans hF g2) (by rw [n2]; simp; omega) (q2 y (by omega) hyy)
      · rw [decide_eq_false hil]
        have hie : j = Ly.length := by omega
        subst hie
        cases zy with
        | none => simp [evs] at hiH
        | some w =>
          obtain ⟨v, m⟩ := w
          rw [yd_endi] at h1
          cases h1
          obtain ⟨n1, n2⟩ := ye_mn2 Ly.length
          obtain ⟨hm1, jj, hjj, ejj⟩ := hy.2.2.2.1 (v, m) rfl
          have hev0 := hy.2.2.2.2.2 (v, m) rfl
          have hev : a_end (nI yq).toNatClampNeg = v := by rw [hcq]; exact hev0.1
          refine br_t rfl ⟨hiq, ?_⟩
          by_cases hv0 : v = 0
          · subst hv0
            obtain ⟨S', hS', hJ'⟩ := ye_compy (a := a) (b := b) (Lo := Lo) (m := m) hk hJ hc
            have hT0 : RES = (List.foldl (stp k a b) (stp k a b (S, evs Lo none) (1, 2, 0, m)) (mrg (tg 0 ((evs Lx zx).drop i)) (tg 1 ((evs Ly (some (0, m))).drop (Ly.length + 1))))).2 := hT
            rw [hS'] at hT0
            have g314 : wY_both_314 post (wY_both_10 post (nI k) (e + 1)) (nI k) (lN m) f_stages f_heard f_now f_calls f_parts f_start f_at (nI i) (nI (Ly.length + 1)) f_x f_y a_kind a_opA a_opB a_heardBy a_what a_said a_when a_over a_part a_first a_second a_user a_goStage a_goStep a_done (va) (mm) (cn) a_end a_endMom a_begun a_status a_stageOf a_began a_taken a_demand a_asked a_code a_waits a_waiting a_came a_given a_got := by
              refine yd_314 (k := k) (i := i) (j := (Ly.length + 1)) hk hp hat hnow ht hem het hxq hyq hfx hfy (by omega) (by omega) rfl rfl hY hx hy (fun w => ?_) (fun w en em k1 k2 => ?_)
              · rw [if_neg (by rw [w]; decide)] at hT0
                exact ih i (Ly.length + 1) S' Lo va mm cn (by omega) (by omega) (by omega) (by rw [n2]; rw [n1] at hLo; exact hLo) hY hx hy hF hJ' w hT0
              · rw [if_pos w, rn_fold_fin _ _ (yt_finend _ _ _)] at hT0
                exact K _ _ va mm cn en em _ _ k1 hT0.symm (yb_trans hF k2) (by omega)
            refine br_t (by rw [hev]; decide) ?_
            rcases hk with hk0 | hk0 | hk0
            · subst hk0
              exact br_t rfl (br_t rfl (br_f (by decide) (br_f (by decide) g314)))
            · subst hk0
              exact br_f (by decide) (br_t rfl (br_t rfl (br_f (by decide) g314)))
            · subst hk0
              exact br_f (by decide) (br_f (by decide) (br_t rfl (br_t rfl g314)))
          · have hjp : 0 < jj := by
              rcases Nat.eq_zero_or_pos jj with w | w
              · exfalso; apply hv0; have : v = nI jj := ejj; rw [this, w]; rfl
              · exact w
            refine br_f (by rw [hev, show v = nI jj from ejj]; exact nI_nle hjp (by omega)) ⟨hiq, ?_⟩
            rw [hev]
            refine yw_stop (f_nextX := nI i) (f_nextY := nI (Ly.length + 1)) hp hat hnow ht hm1 hjj ejj hY (fun _ en em k1 k2 => K _ _ va mm cn en em Lo (some (v, m)) k1 ?_ (yb_trans hF k2) (by omega)) (fun w => absurd het w)
            have hE := ye_err (k := k) (a := a) (b := b) (s := 1) (Lo := Lo) (S := S) (v := v) (m := m) (by omega) (by decide) hv0
            rw [hT, rn_fold_fin _ _ (by rw [hE]; exact yt_finend _ _ _), hE]
end
end
section
/-! ===== the reference: both closed; delay: the machine ===== -/
def SRT (L : List (Int32 × Nat)) (z : Option (Int32 × Nat)) : Prop := L.Pairwise (fun x y => x.2 ≤ y.2) ∧ ∀ w, z = some w → ∀ x ∈ L, x.2 ≤ w.2
theorem yk_tim {m m' : Nat} (h : m ≤ m') : tim m ≤ tim m' := by unfold tim; exact Nat.div_le_div_right h
theorem yk_ck {p m m' : Nat} (hp : p < 9) (h : m ≤ m') : ckm p m ≤ ckm p m' := by
  rcases Nat.lt_or_ge (ckm p m') (ckm p m) with y | y
  · exfalso
    have h2 := yt_ck2 (m := m') hp
    rcases yt_ck (m := m) hp with w | w
    · have : tm (ckm p m' + 1) p ≤ tm (ckm p m) p := by
        unfold tm
        exact Nat.add_le_add_right (Nat.mul_le_mul_right _ y) _
      omega
    · have : ckm p m = 0 := by unfold ckm; split <;> omega
      omega
  · exact y
def due (bn : Nat) (x : Int32 × Nat) : Nat := tim x.2 + bn
def rel (p bn : Nat) (x : Int32 × Nat) : Int32 × Nat := (x.1, tm (due bn x) p)
def qv (bn : Nat) (x : Int32 × Nat) : Int32 × Nat := (x.1, due bn x)
/-- released by clock c, still waiting at clock c -/
def dlo (bn c : Nat) (P : List (Int32 × Nat)) : List (Int32 × Nat) := P.filter (fun x => decide (due bn x ≤ c))
def dhi (bn c : Nat) (P : List (Int32 × Nat)) : List (Int32 × Nat) := P.filter (fun x => decide (c < due bn x))
def deq (bn c : Nat) (P : List (Int32 × Nat)) : List (Int32 × Nat) := P.filter (fun x => decide (due bn x = c))
def dmid (bn c t : Nat) (P : List (Int32 × Nat)) : List (Int32 × Nat) := P.filter (fun x => decide (c < due bn x ∧ due bn x ≤ t))
theorem yk_nil {bn c : Nat} {P : List (Int32 × Nat)} (h : ∀ x ∈ P, c < due bn x) : dlo bn c P = [] := by
  unfold dlo
  rw [List.filter_eq_nil_iff]
  intro x hx
  have := h x hx
  simp
  omega
theorem yk_split {bn c t : Nat} (hct : c ≤ t) : ∀ P : List (Int32 × Nat), P.Pairwise (fun x y => x.2 ≤ y.2) → dlo bn t P = dlo bn c P ++ dmid bn c t P := by
  intro P
  induction P with
  | nil => intro _; rfl
  | cons x P ih =>
    intro hs
    rw [List.pairwise_cons] at hs
    have ih' := ih hs.2
    by_cases h1 : due bn x ≤ c
    · have e1 : dlo bn t (x :: P) = x :: dlo bn t P := List.filter_cons_of_pos (by simp; omega)
      have e2 : dlo bn c (x :: P) = x :: dlo bn c P := List.filter_cons_of_pos (by simp; omega)
      have e3 : dmid bn c t (x :: P) = dmid bn c t P := List.filter_cons_of_neg (by simp; omega)
      rw [e1, e2, e3, ih']; rfl
    · have hn : ∀ y ∈ P, c < due bn y := fun y hy => by
        have := yk_tim (hs.1 y hy)
        unfold due at h1 ⊢
        omega
      have e2 : dlo bn c (x :: P) = [] := yk_nil (fun y hy => by rcases List.mem_cons.mp hy with w | w; subst w; omega; exact hn y w)
      have e0 : dlo bn c P = [] := yk_nil hn
      rw [e2, List.nil_append]
      rw [e0, List.nil_append] at ih'
      by_cases h2 : due bn x ≤ t
      · rw [show dlo bn t (x :: P) = x :: dlo bn t P from List.filter_cons_of_pos (by simp; omega), show dmid bn c t (x :: P) = x :: dmid bn c t P from List.filter_cons_of_pos (by simp; omega), ih']
      · rw [show dlo bn t (x :: P) = dlo bn t P from List.filter_cons_of_neg (by simp; omega), show dmid bn c t (x :: P) = dmid bn c t P from List.filter_cons_of_neg (by simp; omega), ih']
theorem yk_hi1 {bn c : Nat} : ∀ P : List (Int32 × Nat), P.Pairwise (fun x y => x.2 ≤ y.2) → dhi bn c P = deq bn (c + 1) P ++ dhi bn (c + 1) P := by
  intro P
  induction P with
  | nil => intro _; rfl
  | cons x P ih =>
    intro hs
    rw [List.pairwise_cons] at hs
    have ih' := ih hs.2
    rcases Nat.lt_trichotomy (due bn x) (c + 1) with h | h | h
    · rw [show dhi bn c (x :: P) = dhi bn c P from List.filter_cons_of_neg (by simp; omega), show deq bn (c + 1) (x :: P) = deq bn (c + 1) P from List.filter_cons_of_neg (by simp; omega), show dhi bn (c + 1) (x :: P) = dhi bn (c + 1) P from List.filter_cons_of_neg (by simp; omega), ih']
    · rw [show dhi bn c (x :: P) = x :: dhi bn c P from List.filter_cons_of_pos (by simp; omega), show deq bn (c + 1) (x :: P) = x :: deq bn (c + 1) P from List.filter_cons_of_pos (by simp; omega), show dhi bn (c + 1) (x :: P) = dhi bn (c + 1) P from List.filter_cons_of_neg (by simp; omega), ih']; rfl
    · have hn : deq bn (c + 1) P = [] := by
        unfold deq
        rw [List.filter_eq_nil_iff]
        intro y hy
        have := yk_tim (hs.1 y hy)
        unfold due at h ⊢
        simp
        omega
      rw [hn, List.nil_append] at ih'
      rw [show dhi bn c (x :: P) = x :: dhi bn c P from List.filter_cons_of_pos (by simp; omega), show deq bn (c + 1) (x :: P) = deq bn (c + 1) P from List.filter_cons_of_neg (by simp; omega), show dhi bn (c + 1) (x :: P) = x :: dhi bn (c + 1) P from List.filter_cons_of_pos (by simp; omega), hn, ih']; rfl
theorem yk_lo1 {bn c : Nat} {P : List (Int32 × Nat)} (hs : P.Pairwise (fun x y => x.2 ≤ y.2)) : dlo bn (c + 1) P = dlo bn c P ++ deq bn (c + 1) P := by
  rw [yk_split (c := c) (t := c + 1) (by omega) P hs]
  congr 1
  unfold dmid deq
  congr 1
  funext x
  exact decide_eq_decide.mpr ⟨fun h => by omega, fun h => by omega⟩
/-- the machine's state at clock c -/
def DS (bn c dd cx : Nat) (h hy : Int32) (f fy qx ox oy : Bool) (P : List (Int32 × Nat)) : PSt := (dd, cx, h, hy, f, fy, qx, (dhi bn c P).map (qv bn), ox, oy)
theorem yk_rdy {bn c : Nat} {P : List (Int32 × Nat)} (hs : P.Pairwise (fun x y => x.2 ≤ y.2)) : rdy (c + 1) ((dhi bn c P).map (qv bn)) = (deq bn (c + 1) P).length := by
  unfold rdy
  rw [yk_hi1 P hs, List.map_append, List.filter_append, List.length_append]
  have e1 : ((deq bn (c + 1) P).map (qv bn)).filter (fun e => e.2 == c + 1) = (deq bn (c + 1) P).map (qv bn) := by
    rw [List.filter_eq_self]
    intro e he
    obtain ⟨x, hx, rfl⟩ := List.mem_map.mp he
    have := (List.mem_filter.mp hx).2
    simpa [qv] using this
  have e2 : ((dhi bn (c + 1) P).map (qv bn)).filter (fun e => e.2 == c + 1) = [] := by
    rw [List.filter_eq_nil_iff]
    intro e he
    obtain ⟨x, hx, rfl⟩ := List.mem_map.mp he
    have := (List.mem_filter.mp hx).2
    simp [qv] at this ⊢
    omega
  rw [e1, e2]
  simp
theorem yk_fi {bn c dd cx : Nat} {a b h hy : Int32} {f fy qx ox oy : Bool} {P : List (Int32 × Nat)} (hs : P.Pairwise (fun x y => x.2 ≤ y.2)) : fi 11 a b (c + 1) (DS bn c dd cx h hy f fy qx ox oy P) = (DS bn (c + 1) dd cx h hy f fy qx ox oy P, (deq bn (c + 1) P).map (fun x => (1, x.1)) ++ if dd = c + 1 then [(2, 0)] else []) := by
  unfold DS
  simp only [fi]
  rw [yk_rdy hs, yk_hi1 P hs, List.map_append]
  have hl : (deq bn (c + 1) P).length = ((deq bn (c + 1) P).map (qv bn)).length := by simp
  rw [hl, List.drop_left, List.take_left, List.map_map]
  rfl
theorem yk_rel {p bn c : Nat} {P : List (Int32 × Nat)} (Lo : List (Int32 × Nat)) : evs Lo none ++ ems (tm c p) ((deq bn c P).map (fun x => (1, x.1))) = evs (Lo ++ (deq bn c P).map (rel p bn)) none := by
  have key : ems (tm c p) ((deq bn c P).map (fun x => (1, x.1))) = ((deq bn c P).map (rel p bn)).map (fun x => (1, x.1, x.2)) := by
    unfold ems
    rw [List.map_map, List.map_map]
    refine List.map_congr_left (fun x hx => ?_)
    have := (List.mem_filter.mp hx).2
    have e : due bn x = c := by simpa using this
    show (1, x.1, tm c p) = (1, x.1, tm (due bn x) p)
    rw [e]
  rw [key]
  unfold evs
  rw [List.append_nil, List.append_nil, List.map_append]
theorem yk_tms {p bn c0 dd cx : Nat} {a b h hy : Int32} {f fy qx ox oy : Bool} {P : List (Int32 × Nat)} (hp : p < 9) (hs : P.Pairwise (fun x y => x.2 ≤ y.2)) : ∀ D : Nat, (dd = 0 ∨ c0 + D < dd) → (tms p c0 D).foldl (stp 11 a b) (DS bn c0 dd cx h hy f fy qx ox oy P, evs ((dlo bn c0 P).map (rel p bn)) none) = (DS bn (c0 + D) dd cx h hy f fy qx ox oy P, evs ((dlo bn (c0 + D) P).map (rel p bn)) none) := by
  intro D
  induction D with
  | zero => intro _; rfl
  | succ D ih =>
    intro hd
    rw [tp_tms, tp_foldl_snoc, ih (by omega), rn_stp_go (yo_fin _)]
    have e : rsp 11 a b (DS bn (c0 + D) dd cx h hy f fy qx ox oy P) (2, 0, 0, tm (c0 + D + 1) p) = (DS bn (c0 + D + 1) dd cx h hy f fy qx ox oy P, (deq bn (c0 + D + 1) P).map (fun x => (1, x.1))) := by
      show (if (2 : Nat) = 2 then fi 11 a b (tim (tm (c0 + D + 1) p)) (DS bn (c0 + D) dd cx h hy f fy qx ox oy P) else _) = _
      rw [if_pos rfl, tim_tm hp, yk_fi hs, if_neg (by omega), List.append_nil]
    dsimp only
    rw [e]
    dsimp only
    rw [yk_rel, ← List.map_append, ← yk_lo1 hs]
    rfl
end
section
/-! ===== the reference: delay ===== -/
theorem yk_lolen {bn c : Nat} {P : List (Int32 × Nat)} : (dlo bn c P).length ≤ P.length := List.length_filter_le _ _
def cw (p bn m : Nat) (P : List (Int32 × Nat)) : Nat := (P.filter (fun x => decide (m < tm (due bn x) p))).length
theorem yk_take {L : List (Int32 × Nat)} {i : Nat} {x : Int32 × Nat} (h : L[i]? = some x) : L.take (i + 1) = L.take i ++ [x] := by
  rw [List.take_add_one, h]; rfl
theorem yk_cw {p bn m : Nat} {P : List (Int32 × Nat)} (hp : p < 9) (hb : 1 ≤ bn) (hf : ∀ x ∈ P, m ≠ tm (due bn x) p) : cw p bn m P = (dhi bn (ckm p m) P).length := by
  unfold cw dhi
  congr 1
  refine List.filter_congr (fun x hx => ?_)
  have h := yt_lt (p := p) (m := m) (T := due bn x) hp (by unfold due; omega) (hf x hx)
  refine decide_eq_decide.mpr ⟨fun y => ?_, fun y => ?_⟩
  · rcases Nat.lt_or_ge (ckm p m) (due bn x) with w | w
    · exact w
    · have := h.mpr w; omega
  · rcases Nat.lt_or_ge m (tm (due bn x) p) with w | w
    · exact w
    · exfalso
      have h3 : tm (due bn x) p < m := Nat.lt_of_le_of_ne w (fun z => hf x hx z.symm)
      have := h.mp h3
      omega
section
variable {f_stages : Int32} {f_heard : Int32} {f_now : Int32} {f_calls : Int64} {f_parts : Int32} {f_start : Int64} {f_at : Int32} {f_nextX : Int32} {f_nextY : Int32} {f_x : Int32} {f_y : Int32} {a_kind : (Nat → Int32)} {a_opA : (Nat → Int32)} {a_opB : (Nat → Int32)} {a_heardBy : (Nat → Int32)} {a_what : (Nat → Int32)} {a_said : (Nat → Int32)} {a_when : (Nat → Int64)} {a_over : (Nat → Int32)} {a_part : (Nat → Int32)} {a_first : (Nat → Int32)} {a_second : (Nat → Int32)} {a_user : (Nat → Int32)} {a_goStage : (Nat → Int32)} {a_goStep : (Nat → Int32)} {a_done : (Nat → Int32)} {a_val : (Nat → Int32)} {a_mom : (Nat → Int64)} {a_cnt : (Nat → Int32)} {a_end : (Nat → Int32)} {a_endMom : (Nat → Int64)} {a_begun : (Nat → Int32)} {a_status : (Nat → Int32)} {a_stageOf : (Nat → Int32)} {a_began : (Nat → Int64)} {a_taken : (Nat → Int32)} {a_demand : (Nat → Int64)} {a_asked : (Nat → Int32)} {a_code : (Nat → Int32)} {a_waits : (Nat → Int32)} {a_waiting : (Nat → Int32)} {a_came : (Nat → Int32)} {a_given : (Nat → Int32)} {a_got : (Nat → Int64)}
theorem yk_err {post : SY → Prop} {p t m j : Nat} {v : Int32} {A : List (Int32 × Nat)} (hp : p < 9) (hat : f_at = nI p) (hnow : f_now = nI t) (ht : t ≤ 200) (hm : m < 1000000000000000) (hmt : tim m ≤ t) (hj : j ≤ 9) (hv : v = nI j) (hA : ∀ x ∈ A, x.2 ≤ m) {va : Nat → Int32} {mm : Nat → Int64}
    (K : ∀ cn en em, YA va mm cn en em p A (some (v, m)) → YF p a_val a_mom a_cnt a_end a_endMom va mm cn en em → post (f_stages, f_heard, f_now, f_calls, f_parts, f_start, f_at, f_nextX, f_nextY, f_x, f_y, a_kind, a_opA, a_opB, a_heardBy, a_what, a_said, a_when, a_over, a_part, a_first, a_second, a_user, a_goStage, a_goStep, a_done, va, mm, cn, en, em, a_begun, a_status, a_stageOf, a_began, a_taken, a_demand, a_asked, a_code, a_waits, a_waiting, a_came, a_given, a_got)) :
    ∀ (e : Nat) (B : List (Int32 × Nat)) (cn : Nat → Int32), B.length = e → (∀ x ∈ B, m < x.2) → YA va mm cn a_end a_endMom p (A ++ B) none → YF p a_val a_mom a_cnt a_end a_endMom va mm cn a_end a_endMom → wY_error_0 post v (lN m) f_stages f_heard f_now f_calls f_parts f_start f_at f_nextX f_nextY f_x f_y (e + 1) a_kind a_opA a_opB a_heardBy a_what a_said a_when a_over a_part a_first a_second a_user a_goStage a_goStep a_done (va) (mm) (cn) a_end a_endMom a_begun a_status a_stageOf a_began a_taken a_demand a_asked a_code a_waits a_waiting a_came a_given a_got := by
  have hcl : f_at.toNatClampNeg = p := by rw [hat]; exact nI_clamp (by omega)
  have hin : vp_in f_at 9 := by rw [hat]; exact vp_in_nI hp (by decide)
  intro e
  induction e with
  | zero =>
    intro B cn hB hBm hY hF
    have hB0 : B = [] := List.length_eq_zero_iff.mp hB
    subst hB0
    rw [List.append_nil] at hY
    have h58 : wY_error_58 post v (lN m) f_stages f_heard f_now f_calls f_parts f_start f_at f_nextX f_nextY f_x f_y a_kind a_opA a_opB a_heardBy a_what a_said a_when a_over a_part a_first a_second a_user a_goStage a_goStep a_done (va) (mm) (cn) a_end a_endMom a_begun a_status a_stageOf a_began a_taken a_demand a_asked a_code a_waits a_waiting a_came a_given a_got := yw_stop hp hat hnow ht hm hj hv hY (fun _ en em k1 k2 => K cn en em k1 (yb_trans hF k2)) (fun w => absurd hmt w)
    refine ⟨hin, ?_⟩
    rw [hcl, hY.1]
    have hl := hY.2.1
    rcases Nat.eq_zero_or_pos A.length with y | y
    · exact br_t (by rw [y]; decide) h58
    · obtain ⟨x, hx⟩ : ∃ x, A[A.length - 1]? = some x := ⟨_, List.getElem?_eq_getElem (by omega)⟩
      have hxa := hY.2.2.1 _ x hx
      have ei : 256 * f_at + nI A.length - 1 = nI (256 * p + (A.length - 1)) := by
        rw [hat, show (256 : Int32) = nI 256 from rfl, pk_mul, nI_add, show (1 : Int32) = nI 1 from rfl, pk_sub (by omega)]; congr 1; omega
      have hci : (256 * f_at + nI A.length - 1).toNatClampNeg = 256 * p + (A.length - 1) := by rw [ei]; exact nI_clamp (by omega)
      refine br_f (nI_nle y (by omega)) ⟨hin, by rw [ei]; exact vp_in_nI (by omega) (by decide), br_t ?_ h58⟩
      rw [hci, hxa.2.1]
      exact (pk_lLE (by omega) (by omega)).mpr (hA x (List.mem_of_getElem? hx))
  | succ e ih =>
    intro B cn hB hBm hY hF
    obtain ⟨B', x, rfl⟩ : ∃ B' x, B = B' ++ [x] := ⟨B.dropLast, B.getLast (by intro z; rw [z] at hB; simp at hB), (List.dropLast_concat_getLast _).symm⟩
    have hB' : B'.length = e := by simpa using hB
    have hl := hY.2.1
    have hlen : (A ++ (B' ++ [x])).length = A.length + B'.length + 1 := by simp; omega
    rw [hlen] at hl
    have hxg : (A ++ (B' ++ [x]))[A.length + B'.length]? = some x := by
      rw [← List.append_assoc, show A.length + B'.length = (A ++ B').length from by simp]
      exact List.getElem?_concat_length
    have hxa := hY.2.2.1 _ x hxg
    have hc1 : cn f_at.toNatClampNeg = nI (A.length + B'.length + 1) := by rw [hcl, hY.1, hlen]
    have ei : 256 * f_at + cn f_at.toNatClampNeg - 1 = nI (256 * p + (A.length + B'.length)) := by
      rw [hc1, hat, show (256 : Int32) = nI 256 from rfl, pk_mul, nI_add, show (1 : Int32) = nI 1 from rfl, pk_sub (by omega)]; congr 1
    have hci : (256 * f_at + cn f_at.toNatClampNeg - 1).toNatClampNeg = 256 * p + (A.length + B'.length) := by rw [ei]; exact nI_clamp (by omega)
    have hxm : m < x.2 := hBm x (by simp)
    refine ⟨hin, br_f (by rw [hc1]; exact nI_nle (by omega) (by omega)) ⟨hin, by rw [ei]; exact vp_in_nI (by omega) (by decide), br_f ?_ ⟨hin, hin, nm_r (e' := upd cn p (nI (A.length + B'.length))) (by rw [hc1, hcl, nI_pred]) ?_⟩⟩⟩
    · rw [hci, hxa.2.1]
      intro w
      have := (pk_lLE (by omega) (by omega)).mp w
      omega
    · have hY2 : YA va mm (upd cn p (nI (A.length + B'.length))) a_end a_endMom p (A ++ B') none := by
        refine ⟨by rw [pk_us]; simp, by simp; omega, fun i y hy => ?_, hY.2.2.2.1, hY.2.2.2.2.1, hY.2.2.2.2.2⟩
        have hi := yb_idx hy
        refine hY.2.2.1 i y ?_
        rw [← List.append_assoc, List.getElem?_append_left hi]
        exact hy
      exact ih B' _ hB' (fun y hy => hBm y (List.mem_append.mpr (Or.inl hy))) hY2 (yb_trans hF (yb_frame (fun q hq => ⟨pk_un hq, rfl, rfl⟩) (fun q hq i hi => ⟨rfl, rfl⟩)))
theorem yk_error {post : SY → Prop} {p t m j : Nat} {v : Int32} {A B : List (Int32 × Nat)} (hp : p < 9) (hat : f_at = nI p) (hnow : f_now = nI t) (ht : t ≤ 200) (hm : m < 1000000000000000) (hmt : tim m ≤ t) (hj : j ≤ 9) (hv : v = nI j) (hA : ∀ x ∈ A, x.2 ≤ m) (hB : ∀ x ∈ B, m < x.2) (hY : YA a_val a_mom a_cnt a_end a_endMom p (A ++ B) none)
    (K : ∀ cn en em, YA a_val a_mom cn en em p A (some (v, m)) → YF p a_val a_mom a_cnt a_end a_endMom a_val a_mom cn en em → post (f_stages, f_heard, f_now, f_calls, f_parts, f_start, f_at, f_nextX, f_nextY, f_x, f_y, a_kind, a_opA, a_opB, a_heardBy, a_what, a_said, a_when, a_over, a_part, a_first, a_second, a_user, a_goStage, a_goStep, a_done, a_val, a_mom, cn, en, em, a_begun, a_status, a_stageOf, a_began, a_taken, a_demand, a_asked, a_code, a_waits, a_waiting, a_came, a_given, a_got)) : wpY_error post (f_stages, f_heard, f_now, f_calls, f_parts, f_start, f_at, f_nextX, f_nextY, f_x, f_y, a_kind, a_opA, a_opB, a_heardBy, a_what, a_said, a_when, a_over, a_part, a_first, a_second, a_user, a_goStage, a_goStep, a_done, a_val, a_mom, a_cnt, a_end, a_endMom, a_begun, a_status, a_stageOf, a_began, a_taken, a_demand, a_asked, a_code, a_waits, a_waiting, a_came, a_given, a_got) v (lN m) :=
  ⟨B.length + 1, yk_err hp hat hnow ht hm hmt hj hv hA (va := a_val) (mm := a_mom) K B.length B a_cnt rfl hB hY yb_refl⟩
/-- counting those that wait -/
theorem yk_cnt {post : SY → Prop} {J : Int32 → Int32 → Int32 → Int32 → Int64 → Int32 → Int64 → Int32 → Int32 → Int32 → Int32 → Int32 → (Nat → Int32) → (Nat → Int32) → (Nat → Int32) → (Nat → Int32) → (Nat → Int32) → (Nat → Int32) → (Nat → Int64) → (Nat → Int32) → (Nat → Int32) → (Nat → Int32) → (Nat → Int32) → (Nat → Int32) → (Nat → Int32) → (Nat → Int32) → (Nat → Int32) → (Nat → Int32) → (Nat → Int64) → (Nat → Int32) → (Nat → Int32) → (Nat → Int64) → (Nat → Int32) → (Nat → Int32) → (Nat → Int32) → (Nat → Int64) → (Nat → Int32) → (Nat → Int64) → (Nat → Int32) → (Nat → Int32) → (Nat → Int32) → (Nat → Int32) → (Nat → Int32) → (Nat → Int32) → (Nat → Int64) → Prop} {p xq i m : Nat} {b : Int32} {L : List (Int32 × Nat)} {z : Option (Int32 × Nat)} (hp : p < 9) (hat : f_at = nI p) (hxq : xq < 9) (hfx : f_x = nI xq) (hb : b = nI (cl b)) (hb30 : cl b ≤ 30) (hm : m < 1000000000000000) (hx : YA a_val a_mom a_cnt a_end a_endMom xq L z) (htL : ∀ x ∈ L, tim x.2 ≤ 200) (hi : i < L.length)
    (H1 : cw p (cl b) m (L.take i) < 8 → wpY_word (fun r_192 => (wpY_later (fun r_237 => (wpY_put (fun u => match u with | (f_stages, f_heard, f_now, f_calls, f_parts, f_start, f_at, f_nextX, f_nextY, f_x, f_y, a_kind, a_opA, a_opB, a_heardBy, a_what, a_said, a_when, a_over, a_part, a_first, a_second, a_user, a_goStage, a_goStep, a_done, a_val, a_mom, a_cnt, a_end, a_endMom, a_begun, a_status, a_stageOf, a_began, a_taken, a_demand, a_asked, a_code, a_waits, a_waiting, a_came, a_given, a_got) => (∀ x : Int32, x = nI i + 1 → J x f_stages f_heard f_now f_calls f_parts f_start f_at f_nextX f_nextY f_x f_y a_kind a_opA a_opB a_heardBy a_what a_said a_when a_over a_part a_first a_second a_user a_goStage a_goStep a_done a_val a_mom a_cnt a_end a_endMom a_begun a_status a_stageOf a_began a_taken a_demand a_asked a_code a_waits a_waiting a_came a_given a_got)) (f_stages, f_heard, f_now, f_calls, f_parts, f_start, f_at, f_nextX, f_nextY, f_x, f_y, a_kind, a_opA, a_opB, a_heardBy, a_what, a_said, a_when, a_over, a_part, a_first, a_second, a_user, a_goStage, a_goStep, a_done, a_val, a_mom, a_cnt, a_end, a_endMom, a_begun, a_status, a_stageOf, a_began, a_taken, a_demand, a_asked, a_code, a_waits, a_waiting, a_came, a_given, a_got) r_192 r_237)) (f_stages, f_heard, f_now, f_calls, f_parts, f_start, f_at, f_nextX, f_nextY, f_x, f_y, a_kind, a_opA, a_opB, a_heardBy, a_what, a_said, a_when, a_over, a_part, a_first, a_second, a_user, a_goStage, a_goStep, a_done, a_val, a_mom, a_cnt, a_end, a_endMom, a_begun, a_status, a_stageOf, a_began, a_taken, a_demand, a_asked, a_code, a_waits, a_waiting, a_came, a_given, a_got) (lN m) b)) (f_stages, f_heard, f_now, f_calls, f_parts, f_start, f_at, f_nextX, f_nextY, f_x, f_y, a_kind, a_opA, a_opB, a_heardBy, a_what, a_said, a_when, a_over, a_part, a_first, a_second, a_user, a_goStage, a_goStep, a_done, a_val, a_mom, a_cnt, a_end, a_endMom, a_begun, a_status, a_stageOf, a_began, a_taken, a_demand, a_asked, a_code, a_waits, a_waiting, a_came, a_given, a_got) f_x (nI i))
    (H2 : ¬ cw p (cl b) m (L.take i) < 8 → wpY_error (fun u => match u with | (f_stages, f_heard, f_now, f_calls, f_parts, f_start, f_at, f_nextX, f_nextY, f_x, f_y, a_kind, a_opA, a_opB, a_heardBy, a_what, a_said, a_when, a_over, a_part, a_first, a_second, a_user, a_goStage, a_goStep, a_done, a_val, a_mom, a_cnt, a_end, a_endMom, a_begun, a_status, a_stageOf, a_began, a_taken, a_demand, a_asked, a_code, a_waits, a_waiting, a_came, a_given, a_got) => post (f_stages, f_heard, f_now, f_calls, f_parts, f_start, f_at, f_nextX, f_nextY, f_x, f_y, a_kind, a_opA, a_opB, a_heardBy, a_what, a_said, a_when, a_over, a_part, a_first, a_second, a_user, a_goStage, a_goStep, a_done, a_val, a_mom, a_cnt, a_end, a_endMom, a_begun, a_status, a_stageOf, a_began, a_taken, a_demand, a_asked, a_code, a_waits, a_waiting, a_came, a_given, a_got)) (f_stages, f_heard, f_now, f_calls, f_parts, f_start, f_at, f_nextX, f_nextY, f_x, f_y, a_kind, a_opA, a_opB, a_heardBy, a_what, a_said, a_when, a_over, a_part, a_first, a_second, a_user, a_goStage, a_goStep, a_done, a_val, a_mom, a_cnt, a_end, a_endMom, a_begun, a_status, a_stageOf, a_began, a_taken, a_demand, a_asked, a_code, a_waits, a_waiting, a_came, a_given, a_got) 8 (lN m)) :
    ∀ (e j : Nat), j + e = i → wY_delay_31 post J b (nI i) (lN m) f_stages f_heard f_now f_calls f_parts f_start f_at f_nextX f_nextY f_x f_y a_kind a_opA a_opB a_heardBy a_what a_said a_when a_over a_part a_first a_second a_user a_goStage a_goStep a_done a_val a_mom a_cnt a_end a_endMom a_begun a_status a_stageOf a_began a_taken a_demand a_asked a_code a_waits a_waiting a_came a_given a_got (e + 1) (nI (cw p (cl b) m (L.take j))) (nI j) := by
  have hl := hx.2.1
  have hcwl : ∀ j, cw p (cl b) m (L.take j) ≤ j := fun j => Nat.le_trans (List.length_filter_le _ _) (by rw [List.length_take]; omega)
  intro e
  induction e with
  | zero =>
    intro j hj
    have : j = i := by omega
    subst this
    have hcj := hcwl j
    refine br_t (nI_le (Nat.le_refl _) (by omega)) ?_
    by_cases h8 : cw p (cl b) m (L.take j) < 8
    · exact br_t (nI_lt (b := 8) h8 (by decide)) (H1 h8)
    · exact br_f (nI_nlt (b := 8) (by omega) (by omega)) (H2 h8)
  | succ e ih =>
    intro j hj
    obtain ⟨x, hxj⟩ : ∃ x, L[j]? = some x := ⟨_, List.getElem?_eq_getElem (by omega)⟩
    have hxm := (hx.2.2.1 j x hxj).2.2
    have hxt := htL x (List.mem_of_getElem? hxj)
    have hdm : tm (due (cl b) x) p < 1000000000000000 := by unfold tm due; omega
    have hih := ih (j + 1) (by omega)
    rw [yk_take hxj] at hih
    refine br_f (nI_ge (by omega) (by omega)) ?_
    rw [hfx]
    refine yw_of (f_x := nI xq) hxq hx hxj ?_
    rw [← hfx]
    refine yt_later hb hp hat hxm (by omega) ?_
    by_cases hle : tm (tim x.2 + cl b) p ≤ m
    · have e1 : cw p (cl b) m (L.take j ++ [x]) = cw p (cl b) m (L.take j) := by
        unfold cw
        rw [List.filter_append, List.filter_cons_of_neg (by unfold due; simp; omega)]
        simp
      rw [e1] at hih
      exact br_t ((pk_lLE (by unfold due at hdm; omega) (by omega)).mpr hle) (nm_r (nI_1 j) hih)
    · have e1 : cw p (cl b) m (L.take j ++ [x]) = cw p (cl b) m (L.take j) + 1 := by
        unfold cw
        rw [List.filter_append, List.filter_cons_of_pos (by unfold due; simp; omega)]
        simp
      rw [e1] at hih
      exact br_f (fun w => hle ((pk_lLE (by unfold due at hdm; omega) (by omega)).mp w)) (nm_r (nI_1 _) (nm_r (nI_1 j) hih))
end
end
section
/-! ===== the reference: delay, the loop ===== -/
theorem yk_hear {bn c cx : Nat} {a b h hy : Int32} {f fy qx ox oy : Bool} {P : List (Int32 × Nat)} {x : Int32 × Nat} {Lo : List (Int32 × Nat)} (hb : cl b = bn) (hx : c < due bn x) (h8 : (dhi bn c P).length < 8) : stp 11 a b (DS bn c 0 cx h hy f fy qx ox oy P, evs Lo none) (0, 1, x.1, x.2) = (DS bn c 0 cx h hy f fy qx ox oy (P ++ [x]), evs Lo none) := by
  subst hb
  rw [yo_item]
  unfold DS
  have h8' : ((dhi (cl b) c P).map (qv (cl b))).length < 8 := by simpa using h8
  simp only [hi, if_pos h8']
  have e : dhi (cl b) c (P ++ [x]) = dhi (cl b) c P ++ [x] := by
    unfold dhi
    rw [List.filter_append, List.filter_cons_of_pos (by simpa using hx)]
    rfl
  rw [e, List.map_append]
  show (_, evs Lo none ++ []) = _
  rw [List.append_nil]
  rfl
theorem yk_full {bn c cx : Nat} {a b h hy : Int32} {f fy qx ox oy : Bool} {P : List (Int32 × Nat)} {x : Int32 × Nat} {Lo : List (Int32 × Nat)} (h8 : ¬ (dhi bn c P).length < 8) : (stp 11 a b (DS bn c 0 cx h hy f fy qx ox oy P, evs Lo none) (0, 1, x.1, x.2)).2 = evs Lo (some (8, x.2)) := by
  rw [yo_item, yo_end]
  unfold DS
  have h8' : ¬ ((dhi bn c P).map (qv bn)).length < 8 := by simpa using h8
  simp only [hi, if_neg h8']
  rfl
theorem yk_lo_snoc {bn c : Nat} {P : List (Int32 × Nat)} {x : Int32 × Nat} : dlo bn c (P ++ [x]) = dlo bn c P ++ if due bn x ≤ c then [x] else [] := by
  unfold dlo
  rw [List.filter_append]
  by_cases h : due bn x ≤ c
  · rw [if_pos h, List.filter_cons_of_pos (by simpa using h)]; rfl
  · rw [if_neg h, List.filter_cons_of_neg (by simpa using h)]; rfl
theorem yk_all {bn c : Nat} {P : List (Int32 × Nat)} (h : ∀ x ∈ P, due bn x ≤ c) : dlo bn c P = P := by
  unfold dlo
  rw [List.filter_eq_self]
  intro x hx
  simpa using h x hx
section
variable {f_stages : Int32} {f_heard : Int32} {f_now : Int32} {f_calls : Int64} {f_parts : Int32} {f_start : Int64} {f_at : Int32} {f_nextX : Int32} {f_nextY : Int32} {f_x : Int32} {f_y : Int32} {a_kind : (Nat → Int32)} {a_opA : (Nat → Int32)} {a_opB : (Nat → Int32)} {a_heardBy : (Nat → Int32)} {a_what : (Nat → Int32)} {a_said : (Nat → Int32)} {a_when : (Nat → Int64)} {a_over : (Nat → Int32)} {a_part : (Nat → Int32)} {a_first : (Nat → Int32)} {a_second : (Nat → Int32)} {a_user : (Nat → Int32)} {a_goStage : (Nat → Int32)} {a_goStep : (Nat → Int32)} {a_done : (Nat → Int32)} {a_val : (Nat → Int32)} {a_mom : (Nat → Int64)} {a_cnt : (Nat → Int32)} {a_end : (Nat → Int32)} {a_endMom : (Nat → Int64)} {a_begun : (Nat → Int32)} {a_status : (Nat → Int32)} {a_stageOf : (Nat → Int32)} {a_began : (Nat → Int64)} {a_taken : (Nat → Int32)} {a_demand : (Nat → Int64)} {a_asked : (Nat → Int32)} {a_code : (Nat → Int32)} {a_waits : (Nat → Int32)} {a_waiting : (Nat → Int32)} {a_came : (Nat → Int32)} {a_given : (Nat → Int32)} {a_got : (Nat → Int64)}
theorem yk_loop {post : SY → Prop} {p xq t : Nat} {a b : Int32} {L : List (Int32 × Nat)} {z : Option (Int32 × Nat)} {RES : List Ev} {cx : Nat} {h hy : Int32} {f fy qx ox oy : Bool} (hp : p < 9) (hxq : xq < 9) (hpx : xq ≠ p) (hat : f_at = nI p) (hfx : f_x = nI xq) (hnow : f_now = nI t) (ht : t ≤ 200) (hL : ∀ x ∈ L, tim x.2 ≤ t) (hz : ∀ w, z = some w → tim w.2 ≤ t) (hL250 : L.length ≤ 250) (hb : 1 ≤ cl b ∧ cl b ≤ 30 ∧ b = nI (cl b)) (hfree : FRa p L z) (hsrt : SRT L z)
    (K : ∀ va mm cn en em L' z', YA va mm cn en em p L' z' → evs L' z' = RES → YF p a_val a_mom a_cnt a_end a_endMom va mm cn en em → L'.length ≤ L.length → post (f_stages, f_heard, f_now, f_calls, f_parts, f_start, f_at, f_nextX, f_nextY, f_x, f_y, a_kind, a_opA, a_opB, a_heardBy, a_what, a_said, a_when, a_over, a_part, a_first, a_second, a_user, a_goStage, a_goStep, a_done, va, mm, cn, en, em, a_begun, a_status, a_stageOf, a_began, a_taken, a_demand, a_asked, a_code, a_waits, a_waiting, a_came, a_given, a_got)) :
    ∀ (r : List (Int32 × Nat)) (i c0 : Nat) (va : Nat → Int32) (mm : Nat → Int64) (cn : Nat → Int32), L.drop i = r → i ≤ L.length → c0 ≤ t → (∀ x ∈ r, c0 ≤ ckm p x.2) → (∀ w, z = some w → c0 ≤ ckm p w.2) → YA va mm cn a_end a_endMom p ((dlo (cl b) t (L.take i)).map (rel p (cl b))) none → YA va mm cn a_end a_endMom xq L z → YF p a_val a_mom a_cnt a_end a_endMom va mm cn a_end a_endMom → RES = ((feed p c0 (evs r z) t).foldl (stp 11 a b) (DS (cl b) c0 0 cx h hy f fy qx ox oy (L.take i), evs ((dlo (cl b) c0 (L.take i)).map (rel p (cl b))) none)).2 → wY_delay_2 post b (r.length + 1) (nI i) f_stages f_heard f_now f_calls f_parts f_start f_at f_nextX f_nextY f_x f_y a_kind a_opA a_opB a_heardBy a_what a_said a_when a_over a_part a_first a_second a_user a_goStage a_goStep a_done (va) (mm) (cn) a_end a_endMom a_begun a_status a_stageOf a_began a_taken a_demand a_asked a_code a_waits a_waiting a_came a_given a_got := by
  have hcl : f_x.toNatClampNeg = xq := by rw [hfx]; exact nI_clamp (by omega)
  have hin : vp_in f_x 9 := by rw [hfx]; exact vp_in_nI hxq (by decide)
  have hst : ∀ i, (L.take i).Pairwise (fun x y => x.2 ≤ y.2) := fun i => List.Pairwise.sublist (List.take_sublist i L) hsrt.1
  have hmt : ∀ i x, x ∈ L.take i → x ∈ L := fun i x hx => List.mem_of_mem_take hx
  -- an error at m: what waits is dropped
  have errAt : ∀ (i m j : Nat) (v : Int32) (va : Nat → Int32) (mm : Nat → Int64) (cn : Nat → Int32), i ≤ L.length → m < 1000000000000000 → tim m ≤ t → j ≤ 9 → v = nI j → (∀ T, m ≠ tm T p) → YA va mm cn a_end a_endMom p ((dlo (cl b) t (L.take i)).map (rel p (cl b))) none → YF p a_val a_mom a_cnt a_end a_endMom va mm cn a_end a_endMom → evs ((dlo (cl b) (ckm p m) (L.take i)).map (rel p (cl b))) (some (v, m)) = RES → wpY_error (fun u => match u with | (f_stages, f_heard, f_now, f_calls, f_parts, f_start, f_at, f_nextX, f_nextY, f_x, f_y, a_kind, a_opA, a_opB, a_heardBy, a_what, a_said, a_when, a_over, a_part, a_first, a_second, a_user, a_goStage, a_goStep, a_done, a_val, a_mom, a_cnt, a_end, a_endMom, a_begun, a_status, a_stageOf, a_began, a_taken, a_demand, a_asked, a_code, a_waits, a_waiting, a_came, a_given, a_got) => post (f_stages, f_heard, f_now, f_calls, f_parts, f_start, f_at, f_nextX, f_nextY, f_x, f_y, a_kind, a_opA, a_opB, a_heardBy, a_what, a_said, a_when, a_over, a_part, a_first, a_second, a_user, a_goStage, a_goStep, a_done, a_val, a_mom, a_cnt, a_end, a_endMom, a_begun, a_status, a_stageOf, a_began, a_taken, a_demand, a_asked, a_code, a_waits, a_waiting, a_came, a_given, a_got)) (f_stages, f_heard, f_now, f_calls, f_parts, f_start, f_at, f_nextX, f_nextY, f_x, f_y, a_kind, a_opA, a_opB, a_heardBy, a_what, a_said, a_when, a_over, a_part, a_first, a_second, a_user, a_goStage, a_goStep, a_done, va, mm, cn, a_end, a_endMom, a_begun, a_status, a_stageOf, a_began, a_taken, a_demand, a_asked, a_code, a_waits, a_waiting, a_came, a_given, a_got) v (lN m) := by
    intro i m j v va mm cn hi hm hmt2 hj hv hne hY hF hT
    have hck := yt_cktim (p := p) (m := m)
    rw [yk_split (c := ckm p m) (t := t) (by omega) _ (hst i), List.map_append] at hY
    refine yk_error hp hat hnow ht hm hmt2 hj hv (fun x hx => ?_) (fun x hx => ?_) hY (fun cn2 en em k1 k2 => K va mm cn2 en em _ _ k1 hT (yb_trans hF k2) ?_)
    · obtain ⟨y, hy1, rfl⟩ := List.mem_map.mp hx
      have h1 := of_decide_eq_true (List.mem_filter.mp hy1).2
      have := (yt_lt (p := p) (m := m) (T := due (cl b) y) hp (by unfold due; omega) (hne _)).mpr h1
      exact Nat.le_of_lt this
    · obtain ⟨y, hy1, rfl⟩ := List.mem_map.mp hx
      have h1 := of_decide_eq_true (List.mem_filter.mp hy1).2
      have h2 := yt_lt (p := p) (m := m) (T := due (cl b) y) hp (by unfold due; omega) (hne _)
      show m < tm (due (cl b) y) p
      rcases Nat.lt_or_ge m (tm (due (cl b) y) p) with w | w
      · exact w
      · exfalso
        have := h2.mp (Nat.lt_of_le_of_ne w (fun q => hne _ q.symm))
        omega
    · rw [List.length_map]
      exact Nat.le_trans yk_lolen (by rw [List.length_take]; omega)
  intro r
  induction r with
  | nil =>
    intro i c0 va mm cn hr hiL hct hck hckz hY hx hF hT
    have hiL2 : L.length ≤ i := List.drop_eq_nil_iff.mp hr
    obtain ⟨b1, b2, b3⟩ := yb_m1 hx.2.2.2.1 hx.2.2.2.2.1 (fun w hw => (hx.2.2.2.2.2 w hw).1)
    have hlen : ((dlo (cl b) t (L.take i)).map (rel p (cl b))).length ≤ L.length := by
      rw [List.length_map]
      exact Nat.le_trans yk_lolen (by rw [List.length_take]; omega)
    refine ⟨hin, br_t (by rw [hcl, hx.1]; exact nI_le hiL2 (by omega)) ⟨hin, ?_⟩⟩
    cases z with
    | none =>
      have hev : a_end f_x.toNatClampNeg = -1 := by rw [hcl]; exact hx.2.2.2.2.1 rfl
      refine br_f (by rw [hev]; decide) ⟨hin, br_t (by rw [hev]; decide) (K va mm cn a_end a_endMom _ none hY ?_ hF hlen)⟩
      rw [hT, show feed p c0 (evs [] none) t = tms p c0 (t - c0) from rfl, yk_tms hp (hst i) _ (Or.inl rfl), show c0 + (t - c0) = t from by omega]
    | some w =>
      obtain ⟨v, m⟩ := w
      obtain ⟨hm1, j, hj, ej⟩ := hx.2.2.2.1 (v, m) rfl
      have hev0 := hx.2.2.2.2.2 (v, m) rfl
      have hmt2 : tim m ≤ t := hz _ rfl
      have hem : a_endMom f_x.toNatClampNeg = lN m := by rw [hcl]; exact hev0.2
      have hev : a_end f_x.toNatClampNeg = v := by rw [hcl]; exact hev0.1
      have hc1 := hckz (v, m) rfl
      have hc1' : c0 ≤ ckm p m := hc1
      have hckt := yt_cktim (p := p) (m := m)
      rw [yt_feede, List.foldl_append, yk_tms hp (hst i) _ (Or.inl rfl), show c0 + (ckm p m - c0) = ckm p m from by omega, List.foldl_cons] at hT
      by_cases hv0 : v = 0
      · subst hv0
        have hdue : ∀ x ∈ L.take i, due (cl b) x ≤ tim m + cl b := fun x hxi => by
          have := yk_tim (hsrt.2 _ rfl x (hmt i x hxi))
          unfold due
          exact Nat.add_le_add_right this _
        have hS : stp 11 a b (DS (cl b) (ckm p m) 0 cx h hy f fy qx ox oy (L.take i), evs ((dlo (cl b) (ckm p m) (L.take i)).map (rel p (cl b))) none) (0, (if (0 : Int32) = 0 then 2 else 3), 0, m) = (DS (cl b) (ckm p m) (tim m + cl b) cx h hy f fy qx ox oy (L.take i), evs ((dlo (cl b) (ckm p m) (L.take i)).map (rel p (cl b))) none) := by
          rw [rn_stp_go (yo_fin _)]
          show (_, evs _ none ++ []) = _
          rw [List.append_nil]
          rfl
        rw [hS] at hT
        refine br_t hev ⟨hin, ?_⟩
        rw [hem]
        refine yt_later hb.2.2 hp hat hm1 (by omega) ?_
        have h137 : ∀ (en : Nat → Int32) (em : Nat → Int64), en f_x.toNatClampNeg ≤ 0 → post (f_stages, f_heard, f_now, f_calls, f_parts, f_start, f_at, f_nextX, f_nextY, f_x, f_y, a_kind, a_opA, a_opB, a_heardBy, a_what, a_said, a_when, a_over, a_part, a_first, a_second, a_user, a_goStage, a_goStep, a_done, va, mm, cn, en, em, a_begun, a_status, a_stageOf, a_began, a_taken, a_demand, a_asked, a_code, a_waits, a_waiting, a_came, a_given, a_got) → wY_delay_137 post f_stages f_heard f_now f_calls f_parts f_start f_at f_nextX f_nextY f_x f_y a_kind a_opA a_opB a_heardBy a_what a_said a_when a_over a_part a_first a_second a_user a_goStage a_goStep a_done (va) (mm) (cn) (en) (em) a_begun a_status a_stageOf a_began a_taken a_demand a_asked a_code a_waits a_waiting a_came a_given a_got := fun en em h1 h2 => ⟨hin, br_t h1 h2⟩
        refine yw_stop (j := 0) hp hat hnow ht (by unfold tm; omega) (by decide) rfl hY (fun y en em k1 k2 => h137 en em ?_ (K va mm cn en em _ _ k1 ?_ (yb_trans hF k2) hlen)) (fun y => h137 a_end a_endMom ?_ (K va mm cn a_end a_endMom _ none hY ?_ hF hlen))
        · have hx2 := k2 xq hpx _ _ hx
          rw [hcl, (hx2.2.2.2.2.2 _ rfl).1]
          show (0 : Int32) ≤ 0
          decide
        · rw [tim_tm hp] at y
          -- the complete comes at its due moment, behind all items
          have hd : (tms p (ckm p m) (t - ckm p m)).foldl (stp 11 a b) (DS (cl b) (ckm p m) (tim m + cl b) cx h hy f fy qx ox oy (L.take i), evs ((dlo (cl b) (ckm p m) (L.take i)).map (rel p (cl b))) none) = (tms p (tim m + cl b) (t - (tim m + cl b))).foldl (stp 11 a b) (DS (cl b) (tim m + cl b) (tim m + cl b) cx h hy f fy qx ox oy (L.take i), evs ((dlo (cl b) (tim m + cl b) (L.take i)).map (rel p (cl b))) (some (0, tm (tim m + cl b) p))) := by
            rw [show t - ckm p m = (tim m + cl b - 1 - ckm p m) + (1 + (t - (tim m + cl b))) from by omega, yt_app, List.foldl_append, yk_tms hp (hst i) _ (Or.inr (by omega)), show ckm p m + (tim m + cl b - 1 - ckm p m) = tim m + cl b - 1 from by omega, yt_app, List.foldl_append, show tim m + cl b - 1 + 1 = tim m + cl b from by omega]
            congr 1
            have h3 : tms p (tim m + cl b - 1) 1 = [(2, 0, 0, tm (tim m + cl b) p)] := by
              show [] ++ [(2, 0, 0, tm (tim m + cl b - 1 + 0 + 1) p)] = _
              rw [show tim m + cl b - 1 + 0 + 1 = tim m + cl b from by omega]
              rfl
            rw [h3]
            show stp 11 a b _ _ = _
            rw [rn_stp_go (yo_fin _)]
            have e : rsp 11 a b (DS (cl b) (tim m + cl b - 1) (tim m + cl b) cx h hy f fy qx ox oy (L.take i)) (2, 0, 0, tm (tim m + cl b) p) = (DS (cl b) (tim m + cl b) (tim m + cl b) cx h hy f fy qx ox oy (L.take i), (deq (cl b) (tim m + cl b) (L.take i)).map (fun x => (1, x.1)) ++ [(2, 0)]) := by
              show (if (2 : Nat) = 2 then fi 11 a b (tim (tm (tim m + cl b) p)) _ else _) = _
              rw [if_pos rfl, tim_tm hp]
              have := yk_fi (a := a) (b := b) (bn := cl b) (c := tim m + cl b - 1) (dd := tim m + cl b) (cx := cx) (h := h) (hy := hy) (f := f) (fy := fy) (qx := qx) (ox := ox) (oy := oy) (hst i)
              rw [show tim m + cl b - 1 + 1 = tim m + cl b from by omega, if_pos rfl] at this
              exact this
            dsimp only
            rw [e]
            dsimp only
            have e5 : ems (tm (tim m + cl b) p) ((deq (cl b) (tim m + cl b) (L.take i)).map (fun x => (1, x.1)) ++ [(2, 0)]) = ems (tm (tim m + cl b) p) ((deq (cl b) (tim m + cl b) (L.take i)).map (fun x => (1, x.1))) ++ [(2, 0, tm (tim m + cl b) p)] := by unfold ems; rw [List.map_append]; rfl
            rw [e5, ← List.append_assoc, yk_rel, ← List.map_append]
            have e6 := yk_lo1 (bn := cl b) (c := tim m + cl b - 1) (hst i)
            rw [show tim m + cl b - 1 + 1 = tim m + cl b from by omega] at e6
            rw [← e6, yo_end]
            rfl
          rw [hT, hd, rn_fold_fin _ _ (yt_finend _ _ _), yk_all hdue, yk_all (fun x hx0 => Nat.le_trans (hdue x hx0) y)]
        · rw [hev]; decide
        · rw [tim_tm hp] at y
          rw [hT, yk_tms hp (hst i) _ (Or.inr (by omega)), show ckm p m + (t - ckm p m) = t from by omega]
      · have hjp : 0 < j := by
          rcases Nat.eq_zero_or_pos j with w | w
          · exfalso; apply hv0; have : v = nI j := ej; rw [this, w]; rfl
          · exact w
        refine br_f (by rw [hev]; exact hv0) ⟨hin, br_f (by rw [hev, show v = nI j from ej]; exact nI_nle hjp (by omega)) ⟨hin, hin, ?_⟩⟩
        rw [hev, hem]
        refine errAt i m j v va mm cn hiL hm1 hmt2 hj ej (hfree.2 _ rfl) hY hF ?_
        have hE := ye_err (k := 11) (a := a) (b := b) (s := 0) (Lo := (dlo (cl b) (ckm p m) (L.take i)).map (rel p (cl b))) (S := DS (cl b) (ckm p m) 0 cx h hy f fy qx ox oy (L.take i)) (v := v) (m := m) (by decide) (by decide) hv0
        rw [hT, rn_fold_fin _ _ (by rw [hE]; exact yt_finend _ _ _), hE]
  | cons x r ih =>
    intro i c0 va mm cn hr hiL hct hck hckz hY hx hF hT
    have hxi : L[i]? = some x := by rw [← List.head?_drop, hr]; rfl
    have hil := yb_idx hxi
    have hr' : L.drop (i + 1) = r := by rw [← List.drop_drop, hr]; rfl
    have hxmem := List.mem_of_getElem? hxi
    have hxt := hL x hxmem
    have hxm := (hx.2.2.1 i x hxi).2.2
    have hckt := yt_cktim (p := p) (m := x.2)
    have hc1 := hck x (by simp)
    have hne : ∀ y ∈ L.take i, x.2 ≠ tm (due (cl b) y) p := fun y _ => hfree.1 x hxmem _
    have hcw := yk_cw (p := p) (bn := cl b) (m := x.2) hp hb.1 hne
    rw [yt_feedi, List.foldl_append, yk_tms hp (hst i) _ (Or.inl rfl), show c0 + (ckm p x.2 - c0) = ckm p x.2 from by omega, List.foldl_cons] at hT
    have hLol : ((dlo (cl b) t (L.take i)).map (rel p (cl b))).length ≤ i := by
      rw [List.length_map]
      exact Nat.le_trans yk_lolen (by rw [List.length_take]; omega)
    refine ⟨hin, br_f (by rw [hcl, hx.1]; exact nI_ge hil (by omega)) ?_⟩
    rw [hfx]
    refine yw_of (f_x := nI xq) hxq hx hxi ?_
    rw [← hfx]
    refine ⟨i + 1, yk_cnt (a_val := va) (a_mom := mm) (a_cnt := cn) hp hat hxq hfx hb.2.2 hb.2.1 hxm hx (fun y hy0 => Nat.le_trans (hL y hy0) ht) hil (fun h8 => ?_) (fun h8 => ?_) i 0 (by omega)⟩
    · rw [hcw] at h8
      have hdx : ckm p x.2 < due (cl b) x := by unfold due; omega
      rw [yk_hear rfl hdx h8] at hT
      have hpw := hsrt.1
      have hnext : ∀ y ∈ r, ckm p x.2 ≤ ckm p y.2 := fun y hy0 => by
        have h1 : (L.drop i).Pairwise (fun x y => x.2 ≤ y.2) := List.Pairwise.sublist (List.drop_sublist i L) hpw
        rw [hr, List.pairwise_cons] at h1
        exact yk_ck hp (h1.1 y hy0)
      have hnextz : ∀ w, z = some w → ckm p x.2 ≤ ckm p w.2 := fun w hw => yk_ck hp (hsrt.2 w hw x hxmem)
      have hOlo : evs ((dlo (cl b) (ckm p x.2) (L.take i)).map (rel p (cl b))) none = evs ((dlo (cl b) (ckm p x.2) (L.take (i + 1))).map (rel p (cl b))) none := by
        rw [yk_take hxi, yk_lo_snoc, if_neg (by omega), List.append_nil]
      rw [← yk_take hxi, hOlo] at hT
      rw [hfx]
      refine yw_word (f_x := nI xq) hxq hx hxi ?_
      rw [← hfx]
      refine yt_later hb.2.2 hp hat hxm (by omega) ?_
      refine yw_put hp hat hnow ht (by unfold tm; omega) hY (by omega) (fun y va2 mm2 cn2 g1 g2 => nm_r (nI_1 i) ?_) (fun y => nm_r (nI_1 i) ?_)
      · rw [tim_tm hp] at y
        have e7 : (dlo (cl b) t (L.take i)).map (rel p (cl b)) ++ [(x.1, tm (tim x.2 + cl b) p)] = (dlo (cl b) t (L.take (i + 1))).map (rel p (cl b)) := by
          rw [yk_take hxi, yk_lo_snoc, if_pos (show due (cl b) x ≤ t from y), List.map_append]
          rfl
        rw [e7] at g1
        exact ih (i + 1) (ckm p x.2) va2 mm2 cn2 hr' (by omega) (by omega) hnext hnextz g1 (g2 xq hpx _ _ hx) (yb_trans hF g2) hT
      · rw [tim_tm hp] at y
        have e7 : (dlo (cl b) t (L.take i)).map (rel p (cl b)) = (dlo (cl b) t (L.take (i + 1))).map (rel p (cl b)) := by
          rw [yk_take hxi, yk_lo_snoc, if_neg (show ¬ due (cl b) x ≤ t from y), List.append_nil]
        rw [e7] at hY
        exact ih (i + 1) (ckm p x.2) va mm cn hr' (by omega) (by omega) hnext hnextz hY hx hF hT
    · rw [hcw] at h8
      have hE := yk_full (a := a) (b := b) (bn := cl b) (c := ckm p x.2) (cx := cx) (h := h) (hy := hy) (f := f) (fy := fy) (qx := qx) (ox := ox) (oy := oy) (x := x) (Lo := (dlo (cl b) (ckm p x.2) (L.take i)).map (rel p (cl b))) h8
      refine errAt i x.2 8 8 va mm cn (by omega) hxm hxt (by decide) rfl (hfree.1 x hxmem) hY hF ?_
      rw [hT, rn_fold_fin _ _ (by rw [hE]; exact yt_finend _ _ _), hE]
end
end
section
/-! ===== the reference: sample ===== -/
theorem ys_tms {p c0 D T cx : Nat} {a b h hy : Int32} {f fy qx ox oy : Bool} {q : List (Int32 × Nat)} {O : List Ev} (hp : p < 9) (hd : c0 + D < T) : (tms p c0 D).foldl (stp 14 a b) ((T, cx, h, hy, f, fy, qx, q, ox, oy), O) = ((T, cx, h, hy, f, fy, qx, q, ox, oy), O) :=
  yt_same hp _ (fun U h3 h4 => by
    have hne : ¬ T = U := by omega
    simp only [fi, if_neg hne])
theorem ys_hear {a b : Int32} {d cx : Nat} {h hy : Int32} {f fy qx ox oy : Bool} {q : List (Int32 × Nat)} {Lo : List (Int32 × Nat)} {x : Int32 × Nat} : stp 14 a b ((d, cx, h, hy, f, fy, qx, q, ox, oy), evs Lo none) (0, 1, x.1, x.2) = ((d, cx, x.1, hy, true, fy, qx, q, ox, oy), evs Lo none) := by
  rw [yo_item]
  show ((d, cx, x.1, hy, true, fy, qx, q, ox, oy), evs Lo none ++ []) = _
  rw [List.append_nil]
def sap (p T : Nat) (f : Bool) (h : Int32) : List (Int32 × Nat) := if f = true then [(h, tm T p)] else []
theorem ys_fire1 {p c0 D T cx : Nat} {a b h hy : Int32} {f fy qx ox oy : Bool} {q : List (Int32 × Nat)} {Lo : List (Int32 × Nat)} (hp : p < 9) (h1 : c0 < T) (h2 : T ≤ c0 + D) : (tms p c0 D).foldl (stp 14 a b) ((T, cx, h, hy, f, fy, qx, q, ox, oy), evs Lo none) = (tms p T (c0 + D - T)).foldl (stp 14 a b) ((T + cl b, cx, h, hy, false, fy, qx, q, ox, oy), evs (Lo ++ sap p T f h) none) := by
  rw [yt_one (S' := (T + cl b, cx, h, hy, false, fy, qx, q, ox, oy)) (o := if f = true then [(1, h)] else []) hp (yo_fin Lo) h1 h2 (fun U h3 h4 => by
    have hne : ¬ T = U := by omega
    simp only [fi, if_neg hne]) (by simp only [fi, if_true])]
  congr 2
  unfold sap
  cases f
  · simp [ems]
  · simp [ems, evs]
/-- the due strikes before the next event -/
theorem ys_fire {p c0 t T cx : Nat} {a b h hy : Int32} {f fy qx ox oy : Bool} {q : List (Int32 × Nat)} {Lo r : List (Int32 × Nat)} {z : Option (Int32 × Nat)} (hp : p < 9) (h1 : c0 < T) (hr : ∀ x, r.head? = some x → T ≤ ckm p x.2) (hz : ∀ w, z = some w → T ≤ ckm p w.2) (ht : T ≤ t) : (feed p c0 (evs r z) t).foldl (stp 14 a b) ((T, cx, h, hy, f, fy, qx, q, ox, oy), evs Lo none) = (feed p T (evs r z) t).foldl (stp 14 a b) ((T + cl b, cx, h, hy, false, fy, qx, q, ox, oy), evs (Lo ++ sap p T f h) none) := by
  cases r with
  | nil =>
    cases z with
    | none =>
      show (tms p c0 (t - c0)).foldl _ _ = (tms p T (t - T)).foldl _ _
      rw [ys_fire1 hp h1 (by omega), show c0 + (t - c0) - T = t - T from by omega]
    | some w =>
      obtain ⟨v, m⟩ := w
      have hm : T ≤ ckm p m := hz _ rfl
      rw [yt_feede, yt_feede, List.foldl_append, List.foldl_append, ys_fire1 hp h1 (by omega), show c0 + (ckm p m - c0) - T = ckm p m - T from by omega]
  | cons x r =>
    have hm : T ≤ ckm p x.2 := hr _ rfl
    rw [yt_feedi, yt_feedi, List.foldl_append, List.foldl_append, ys_fire1 hp h1 (by omega), show c0 + (ckm p x.2 - c0) - T = ckm p x.2 - T from by omega]
/-- nothing strikes any more -/
theorem ys_over {p t T cx : Nat} {a b hy : Int32} {fy qx ox oy : Bool} {q : List (Int32 × Nat)} {Lo : List (Int32 × Nat)} {z : Option (Int32 × Nat)} (hp : p < 9) (hz : ∀ w, z = some w → ckm p w.2 < T) (ht : z = none → t < T) : ∀ (r : List (Int32 × Nat)) (c0 : Nat) (h : Int32) (f : Bool), c0 < T → (∀ x ∈ r, ckm p x.2 < T) → ((feed p c0 (evs r z) t).foldl (stp 14 a b) ((T, cx, h, hy, f, fy, qx, q, ox, oy), evs Lo none)).2 = evs Lo z := by
  intro r
  induction r with
  | nil =>
    intro c0 h f hc hr
    cases z with
    | none =>
      have := ht rfl
      rw [show feed p c0 (evs [] none) t = tms p c0 (t - c0) from rfl, ys_tms hp (by omega)]
    | some w =>
      obtain ⟨v, m⟩ := w
      have hm : ckm p m < T := hz _ rfl
      rw [yt_feede, List.foldl_append, ys_tms hp (by omega), List.foldl_cons, yt_end (by decide) (by decide), rn_fold_fin _ _ (yt_finend Lo v m)]
  | cons x r ih =>
    intro c0 h f hc hr
    have hm := hr x (by simp)
    rw [yt_feedi, List.foldl_append, ys_tms hp (by omega), List.foldl_cons, ys_hear]
    exact ih _ _ _ hm (fun y hy => hr y (by simp [hy]))
section
variable {f_stages : Int32} {f_heard : Int32} {f_now : Int32} {f_calls : Int64} {f_parts : Int32} {f_start : Int64} {f_at : Int32} {f_nextX : Int32} {f_nextY : Int32} {f_x : Int32} {f_y : Int32} {a_kind : (Nat → Int32)} {a_opA : (Nat → Int32)} {a_opB : (Nat → Int32)} {a_heardBy : (Nat → Int32)} {a_what : (Nat → Int32)} {a_said : (Nat → Int32)} {a_when : (Nat → Int64)} {a_over : (Nat → Int32)} {a_part : (Nat → Int32)} {a_first : (Nat → Int32)} {a_second : (Nat → Int32)} {a_user : (Nat → Int32)} {a_goStage : (Nat → Int32)} {a_goStep : (Nat → Int32)} {a_done : (Nat → Int32)} {a_val : (Nat → Int32)} {a_mom : (Nat → Int64)} {a_cnt : (Nat → Int32)} {a_end : (Nat → Int32)} {a_endMom : (Nat → Int64)} {a_begun : (Nat → Int32)} {a_status : (Nat → Int32)} {a_stageOf : (Nat → Int32)} {a_began : (Nat → Int64)} {a_taken : (Nat → Int32)} {a_demand : (Nat → Int64)} {a_asked : (Nat → Int32)} {a_code : (Nat → Int32)} {a_waits : (Nat → Int32)} {a_waiting : (Nat → Int32)} {a_came : (Nat → Int32)} {a_given : (Nat → Int32)} {a_got : (Nat → Int64)}
theorem ys_moment {post : Int64 → Prop} {p T : Nat} (hp : p < 9) (hat : f_at = nI p) (hT : T ≤ 1000) (H : post (lN (tm T p))) : wpY_moment post (f_stages, f_heard, f_now, f_calls, f_parts, f_start, f_at, f_nextX, f_nextY, f_x, f_y, a_kind, a_opA, a_opB, a_heardBy, a_what, a_said, a_when, a_over, a_part, a_first, a_second, a_user, a_goStage, a_goStep, a_done, a_val, a_mom, a_cnt, a_end, a_endMom, a_begun, a_status, a_stageOf, a_began, a_taken, a_demand, a_asked, a_code, a_waits, a_waiting, a_came, a_given, a_got) (nI T).toInt64 0 f_at.toInt64 0 := by
  show post ((((((nI T).toInt64) <<< ((41 : Int32).toInt64 &&& 63)) ||| (0 <<< ((40 : Int32).toInt64 &&& 63))) ||| (f_at.toInt64 <<< ((8 : Int32).toInt64 &&& 63))) ||| 0)
  rw [nI_l (by omega), hat, nI_l (by omega)]
  have := ts_mo (t := T) (ph := 0) (nu := p) (by omega) (by decide) (by omega)
  rw [show lN 0 = (0 : Int64) from by decide] at this
  rw [this, ← tm_mo]
  exact H
theorem ys_in {post : SY → Prop} {J : Int32 → Int32 → Int32 → Int32 → Int32 → Int64 → Int32 → Int64 → Int32 → Int32 → Int32 → Int32 → Int32 → (Nat → Int32) → (Nat → Int32) → (Nat → Int32) → (Nat → Int32) → (Nat → Int32) → (Nat → Int32) → (Nat → Int64) → (Nat → Int32) → (Nat → Int32) → (Nat → Int32) → (Nat → Int32) → (Nat → Int32) → (Nat → Int32) → (Nat → Int32) → (Nat → Int32) → (Nat → Int32) → (Nat → Int64) → (Nat → Int32) → (Nat → Int32) → (Nat → Int64) → (Nat → Int32) → (Nat → Int32) → (Nat → Int32) → (Nat → Int64) → (Nat → Int32) → (Nat → Int64) → (Nat → Int32) → (Nat → Int32) → (Nat → Int32) → (Nat → Int32) → (Nat → Int32) → (Nat → Int32) → (Nat → Int64) → Prop} {p xq t T old : Nat} {a b : Int32} {L Lo : List (Int32 × Nat)} {z : Option (Int32 × Nat)} {RES : List Ev} {cx : Nat} {hy : Int32} {fy qx ox oy : Bool} {q : List (Int32 × Nat)} (hp : p < 9) (hxq : xq < 9) (hpx : xq ≠ p) (hat : f_at = nI p) (hfx : f_x = nI xq) (hnow : f_now = nI t) (ht : t ≤ 200) (hL250 : L.length ≤ 250) (hb : 1 ≤ cl b ∧ cl b ≤ 30 ∧ b = nI (cl b)) (hfree : FRa p L z) (hTt : T ≤ t) (hT1 : 1 ≤ T) (hz : ∀ w, z = some w → T ≤ ckm p w.2) (hold : Lo.length ≤ old)
    (hY : YA a_val a_mom a_cnt a_end a_endMom p Lo none) (hx : YA a_val a_mom a_cnt a_end a_endMom xq L z)
    (K : ∀ (i : Nat) (h : Int32) (Lo' : List (Int32 × Nat)) va mm cn, i ≤ L.length → Lo'.length ≤ i → YA va mm cn a_end a_endMom p Lo' none → YF p a_val a_mom a_cnt a_end a_endMom va mm cn a_end a_endMom → RES = ((feed p T (evs (L.drop i) z) t).foldl (stp 14 a b) ((T + cl b, cx, h, hy, false, fy, qx, q, ox, oy), evs Lo' none)).2 → J (nI i) (nI (T + cl b)) f_stages f_heard f_now f_calls f_parts f_start f_at f_nextX f_nextY f_x f_y a_kind a_opA a_opB a_heardBy a_what a_said a_when a_over a_part a_first a_second a_user a_goStage a_goStep a_done (va) (mm) (cn) a_end a_endMom a_begun a_status a_stageOf a_began a_taken a_demand a_asked a_code a_waits a_waiting a_came a_given a_got) :
    ∀ (r : List (Int32 × Nat)) (i c1 : Nat) (h : Int32) (f : Bool), L.drop i = r → i ≤ L.length → old ≤ i → c1 < T → f = decide (old < i) → (old < i → ∃ m, L[i - 1]? = some (h, m)) → RES = ((feed p c1 (evs r z) t).foldl (stp 14 a b) ((T, cx, h, hy, f, fy, qx, q, ox, oy), evs Lo none)).2 → wY_sample_71 post J b (nI T) (lN (tm T p)) (nI old) f_stages f_heard f_now f_calls f_parts f_start f_at f_nextX f_nextY f_x f_y a_kind a_opA a_opB a_heardBy a_what a_said a_when a_over a_part a_first a_second a_user a_goStage a_goStep a_done a_val a_mom a_cnt a_end a_endMom a_begun a_status a_stageOf a_began a_taken a_demand a_asked a_code a_waits a_waiting a_came a_given a_got (r.length + 1) (nI i) := by
  have hcl : f_x.toNatClampNeg = xq := by rw [hfx]; exact nI_clamp (by omega)
  have hin : vp_in f_x 9 := by rw [hfx]; exact vp_in_nI hxq (by decide)
  have hTb : nI T + b = nI (T + cl b) := by rw [← nI_add, ← hb.2.2]
  have hleave : ∀ (r : List (Int32 × Nat)) (i c1 : Nat) (h : Int32) (f : Bool), L.drop i = r → i ≤ L.length → old ≤ i → c1 < T → f = decide (old < i) → (old < i → ∃ m, L[i - 1]? = some (h, m)) → (∀ x, r.head? = some x → T ≤ ckm p x.2) → RES = ((feed p c1 (evs r z) t).foldl (stp 14 a b) ((T, cx, h, hy, f, fy, qx, q, ox, oy), evs Lo none)).2 → wY_sample_107 post J b (nI i) (nI T) (lN (tm T p)) (nI old) f_stages f_heard f_now f_calls f_parts f_start f_at f_nextX f_nextY f_x f_y a_kind a_opA a_opB a_heardBy a_what a_said a_when a_over a_part a_first a_second a_user a_goStage a_goStep a_done a_val a_mom a_cnt a_end a_endMom a_begun a_status a_stageOf a_began a_taken a_demand a_asked a_code a_waits a_waiting a_came a_given a_got := by
    intro r i c1 h f hr hi1 hi2 hc1 hf hh hhd hT
    rw [ys_fire hp hc1 hhd hz hTt, ← hr] at hT
    by_cases ho : old < i
    · have hf1 : f = true := by rw [hf]; exact decide_eq_true ho
      obtain ⟨m, hm⟩ := hh ho
      subst hf1
      refine br_f (nI_ge ho (by omega)) ?_
      rw [hfx, show (1 : Int32) = nI 1 from rfl, pk_sub (by omega)]
      refine yw_word (f_x := nI xq) hxq hx hm ?_
      rw [← hfx]
      refine yw_put hp hat hnow ht (by unfold tm; omega) hY (by omega) (fun y va mm cn k1 k2 => nm_r hTb ?_) (fun y => absurd hTt (by rw [tim_tm hp] at y; exact y))
      exact K i h _ va mm cn hi1 (by simp; omega) k1 k2 hT
    · have hf1 : f = false := by rw [hf]; exact decide_eq_false ho
      subst hf1
      refine br_t (nI_le (by omega) (by omega)) (nm_r hTb ?_)
      have e : Lo ++ sap p T false h = Lo := List.append_nil Lo
      rw [e] at hT
      exact K i h Lo a_val a_mom a_cnt hi1 (by omega) hY yb_refl hT
  intro r
  induction r with
  | nil =>
    intro i c1 h f hr hi1 hi2 hc1 hf hh hT
    have hiL2 : L.length ≤ i := List.drop_eq_nil_iff.mp hr
    exact ⟨hin, br_t (by rw [hcl, hx.1]; exact nI_le hiL2 (by omega)) (hleave [] i c1 h f hr hi1 hi2 hc1 hf hh (fun x y => by simp at y) hT)⟩
  | cons x r ih =>
    intro i c1 h f hr hi1 hi2 hc1 hf hh hT
    have hxi : L[i]? = some x := by rw [← List.head?_drop, hr]; rfl
    have hil := yb_idx hxi
    have hr' : L.drop (i + 1) = r := by rw [← List.drop_drop, hr]; rfl
    have hxmem := List.mem_of_getElem? hxi
    have hxm := (hx.2.2.1 i x hxi).2.2
    have hlt := yt_lt (p := p) (m := x.2) (T := T) hp hT1 (hfree.1 x hxmem T)
    refine ⟨hin, br_f (by rw [hcl, hx.1]; exact nI_ge hil (by omega)) ?_⟩
    rw [hfx]
    refine yw_of (f_x := nI xq) hxq hx hxi ?_
    rw [← hfx]
    by_cases hle : tm T p ≤ x.2
    · have hdk : T ≤ ckm p x.2 := hlt.mp (Nat.lt_of_le_of_ne hle (fun w => hfree.1 x hxmem T w.symm))
      exact br_t ((pk_lLE (by unfold tm; omega) (by omega)).mpr hle) (hleave (x :: r) i c1 h f hr hi1 hi2 hc1 hf hh (fun y hy0 => by cases hy0; exact hdk) hT)
    · have hdk : ¬ T ≤ ckm p x.2 := fun w => hle (Nat.le_of_lt (hlt.mpr w))
      refine br_f (fun w => hle ((pk_lLE (by unfold tm; omega) (by omega)).mp w)) (nm_r (nI_1 i) ?_)
      refine ih (i + 1) (ckm p x.2) x.1 true hr' (by omega) (by omega) (by omega) (by rw [decide_eq_true (show old < i + 1 by omega)]) (fun _ => ⟨x.2, by rw [Nat.add_sub_cancel]; exact hxi⟩) ?_
      rw [hT, yt_feedi, List.foldl_append, ys_tms hp (by omega), List.foldl_cons, ys_hear]
theorem ys_loop {post : SY → Prop} {p xq t : Nat} {a b : Int32} {L : List (Int32 × Nat)} {z : Option (Int32 × Nat)} {RES : List Ev} {cx : Nat} {hy : Int32} {fy qx ox oy : Bool} {q : List (Int32 × Nat)} (hp : p < 9) (hxq : xq < 9) (hpx : xq ≠ p) (hat : f_at = nI p) (hfx : f_x = nI xq) (hnow : f_now = nI t) (ht : t ≤ 200) (hL : ∀ x ∈ L, tim x.2 ≤ t) (hz : ∀ w, z = some w → tim w.2 ≤ t) (hL250 : L.length ≤ 250) (hb : 1 ≤ cl b ∧ cl b ≤ 30 ∧ b = nI (cl b)) (hfree : FRa p L z) (hsrt : SRT L z)
    (K : ∀ va mm cn en em L' z', YA va mm cn en em p L' z' → evs L' z' = RES → YF p a_val a_mom a_cnt a_end a_endMom va mm cn en em → L'.length ≤ L.length → post (f_stages, f_heard, f_now, f_calls, f_parts, f_start, f_at, f_nextX, f_nextY, f_x, f_y, a_kind, a_opA, a_opB, a_heardBy, a_what, a_said, a_when, a_over, a_part, a_first, a_second, a_user, a_goStage, a_goStep, a_done, va, mm, cn, en, em, a_begun, a_status, a_stageOf, a_began, a_taken, a_demand, a_asked, a_code, a_waits, a_waiting, a_came, a_given, a_got)) :
    ∀ (D i T c1 : Nat) (h : Int32) (Lo : List (Int32 × Nat)) (va : Nat → Int32) (mm : Nat → Int64) (cn : Nat → Int32), t < T + D → i ≤ L.length → Lo.length ≤ i → c1 < T → T ≤ 300 → YA va mm cn a_end a_endMom p Lo none → YA va mm cn a_end a_endMom xq L z → YF p a_val a_mom a_cnt a_end a_endMom va mm cn a_end a_endMom → RES = ((feed p c1 (evs (L.drop i) z) t).foldl (stp 14 a b) ((T, cx, h, hy, false, fy, qx, q, ox, oy), evs Lo none)).2 → wY_sample_12 post b (D + 1) (nI i) (nI T) f_stages f_heard f_now f_calls f_parts f_start f_at f_nextX f_nextY f_x f_y a_kind a_opA a_opB a_heardBy a_what a_said a_when a_over a_part a_first a_second a_user a_goStage a_goStep a_done (va) (mm) (cn) a_end a_endMom a_begun a_status a_stageOf a_began a_taken a_demand a_asked a_code a_waits a_waiting a_came a_given a_got := by
  have hcl : f_x.toNatClampNeg = xq := by rw [hfx]; exact nI_clamp (by omega)
  have hin : vp_in f_x 9 := by rw [hfx]; exact vp_in_nI hxq (by decide)
  have over : ∀ (i T c1 : Nat) (h : Int32) (Lo : List (Int32 × Nat)) (va : Nat → Int32) (mm : Nat → Int64) (cn : Nat → Int32), i ≤ L.length → Lo.length ≤ i → c1 < T → (∀ x ∈ L, ckm p x.2 < T) → (∀ w, z = some w → ckm p w.2 < T) → (z = none → t < T) → YA va mm cn a_end a_endMom p Lo none → YA va mm cn a_end a_endMom xq L z → YF p a_val a_mom a_cnt a_end a_endMom va mm cn a_end a_endMom → RES = ((feed p c1 (evs (L.drop i) z) t).foldl (stp 14 a b) ((T, cx, h, hy, false, fy, qx, q, ox, oy), evs Lo none)).2 → wY_sample_141 post f_stages f_heard f_now f_calls f_parts f_start f_at f_nextX f_nextY f_x f_y a_kind a_opA a_opB a_heardBy a_what a_said a_when a_over a_part a_first a_second a_user a_goStage a_goStep a_done (va) (mm) (cn) a_end a_endMom a_begun a_status a_stageOf a_began a_taken a_demand a_asked a_code a_waits a_waiting a_came a_given a_got := by
    intro i T c1 h Lo va mm cn hiL hLo hc1 hLk hzk htk hY hx hF hT
    rw [ys_over hp hzk htk _ _ _ _ hc1 (fun x hx0 => hLk x (List.mem_of_mem_drop hx0))] at hT
    obtain ⟨b1, b2, b3⟩ := yb_m1 hx.2.2.2.1 hx.2.2.2.2.1 (fun w hw => (hx.2.2.2.2.2 w hw).1)
    refine ⟨hin, ?_⟩
    cases z with
    | none => exact br_t (by rw [hcl]; exact b1.mpr rfl) (K va mm cn a_end a_endMom Lo none hY hT.symm hF (by omega))
    | some w =>
      obtain ⟨v, m⟩ := w
      obtain ⟨hm1, j, hj, ej⟩ := hx.2.2.2.1 (v, m) rfl
      have hev0 := hx.2.2.2.2.2 (v, m) rfl
      refine br_f (by rw [hcl]; exact fun y => by have := b1.mp y; simp at this) ⟨hin, hin, ?_⟩
      rw [show a_end f_x.toNatClampNeg = v from by rw [hcl]; exact hev0.1, show a_endMom f_x.toNatClampNeg = lN m from by rw [hcl]; exact hev0.2]
      exact yw_stop hp hat hnow ht hm1 hj ej hY (fun _ en em h1 h2 => K va mm cn en em Lo (some (v, m)) h1 hT.symm (yb_trans hF h2) (by omega)) (fun y => absurd (hz _ rfl) y)
  intro D
  induction D with
  | zero =>
    intro i T c1 h Lo va mm cn hD hiL hLo hc1 hT3 hY hx hF hT
    refine br_t (by rw [hnow]; exact nI_lt (by omega) (by omega)) (over i T c1 h Lo va mm cn hiL hLo hc1 (fun x hx0 => ?_) (fun w hw => ?_) (fun _ => by omega) hY hx hF hT)
    · have := hL x hx0
      have := yt_cktim (p := p) (m := x.2)
      omega
    · have := hz w hw
      have := yt_cktim (p := p) (m := w.2)
      omega
  | succ D ih =>
    intro i T c1 h Lo va mm cn hD hiL hLo hc1 hT3 hY hx hF hT
    by_cases hTt : t < T
    · refine br_t (by rw [hnow]; exact nI_lt hTt (by omega)) (over i T c1 h Lo va mm cn hiL hLo hc1 (fun x hx0 => ?_) (fun w hw => ?_) (fun _ => by omega) hY hx hF hT)
      · have := hL x hx0
        have := yt_cktim (p := p) (m := x.2)
        omega
      · have := hz w hw
        have := yt_cktim (p := p) (m := w.2)
        omega
    · refine br_f (by rw [hnow]; exact fun w => hTt ((nI_ltI (by omega) (by omega)).mp w)) (ys_moment hp hat (by omega) ⟨hin, ?_⟩)
      obtain ⟨b1, b2, b3⟩ := yb_m1 hx.2.2.2.1 hx.2.2.2.2.1 (fun w hw => (hx.2.2.2.2.2 w hw).1)
      have inner : (∀ w, z = some w → T ≤ ckm p w.2) → ∃ n71 : Nat, wY_sample_71 post (wY_sample_12 post b (D + 1)) b (nI T) (lN (tm T p)) (nI i) f_stages f_heard f_now f_calls f_parts f_start f_at f_nextX f_nextY f_x f_y a_kind a_opA a_opB a_heardBy a_what a_said a_when a_over a_part a_first a_second a_user a_goStage a_goStep a_done (va) (mm) (cn) a_end a_endMom a_begun a_status a_stageOf a_began a_taken a_demand a_asked a_code a_waits a_waiting a_came a_given a_got n71 (nI i) := fun hzT =>
        ⟨(L.drop i).length + 1, ys_in (a_val := va) (a_mom := mm) (a_cnt := cn) (a := a) (cx := cx) (hy := hy) (fy := fy) (qx := qx) (ox := ox) (oy := oy) (q := q) (RES := RES) hp hxq hpx hat hfx hnow ht hL250 hb hfree (by omega) (by omega) hzT hLo hY hx (fun i' h' Lo' va' mm' cn' q1 q2 q3 q4 q5 => ih i' (T + cl b) T h' Lo' va' mm' cn' (by omega) q1 q2 (by omega) (by omega) q3 (q4 xq hpx _ _ hx) (yb_trans hF q4) q5) (L.drop i) i c1 h false rfl hiL (Nat.le_refl i) hc1 (by simp) (fun y => absurd y (Nat.lt_irrefl i)) hT⟩
      cases z with
      | none => exact br_t (by rw [hcl]; exact b1.mpr rfl) (inner (fun w hw => by simp at hw))
      | some w =>
        obtain ⟨v, m⟩ := w
        obtain ⟨hm1, j, hj, ej⟩ := hx.2.2.2.1 (v, m) rfl
        have hev0 := hx.2.2.2.2.2 (v, m) rfl
        have hem : a_endMom f_x.toNatClampNeg = lN m := by rw [hcl]; exact hev0.2
        have hlt := yt_lt (p := p) (m := m) (T := T) hp (by omega) (hfree.2 _ rfl _)
        refine br_f (by rw [hcl]; exact fun y => by have := b1.mp y; simp at this) ⟨hin, ?_⟩
        by_cases hle : tm T p ≤ m
        · have hdk : T ≤ ckm p m := hlt.mp (Nat.lt_of_le_of_ne hle (fun y => hfree.2 _ rfl _ y.symm))
          exact br_t (by rw [hem]; exact (pk_lLE (by unfold tm; omega) (by omega)).mpr hle) (inner (fun w hw => by cases hw; exact hdk))
        · have hdk : ¬ T ≤ ckm p m := fun y => hle (Nat.le_of_lt (hlt.mpr y))
          refine br_f (by rw [hem]; exact fun y => hle ((pk_lLE (by unfold tm; omega) (by omega)).mp y)) (over i T c1 h Lo va mm cn hiL hLo hc1 (fun x hx0 => ?_) (fun w hw => by cases hw; exact Nat.not_le.mp hdk) (fun y => by simp at y) hY hx hF hT)
          have := yk_ck (p := p) hp (hsrt.2 _ rfl x hx0)
          have e : ckm p (v, m).2 = ckm p m := rfl
          omega
end
end
section
/-! ===== runs: what comes out, in order, and how it grows ===== -/
theorem pr_ems {m : Nat} {o : Otp} : ∀ e ∈ ems m o, e.2.2 = m := by
  intro e he
  obtain ⟨x, _, rfl⟩ := List.mem_map.mp he
  rfl
theorem pr_fold {k : Nat} {a b : Int32} : ∀ (l : List Inp) (S : PSt) (O : List Ev), ∃ ex, (l.foldl (stp k a b) (S, O)).2 = O ++ ex ∧ (∀ e ∈ ex, ∃ i ∈ l, e.2.2 = i.2.2.2) ∧ (l.Pairwise (fun x y => x.2.2.2 ≤ y.2.2.2) → ex.Pairwise (fun x y => x.2.2 ≤ y.2.2)) ∧ (fin O = true → ex = []) := by
  intro l
  induction l with
  | nil => intro S O; exact ⟨[], by simp, by simp, by simp, fun _ => rfl⟩
  | cons i l ih =>
    intro S O
    rw [List.foldl_cons]
    rcases Bool.eq_false_or_eq_true (fin O) with h | h
    · rw [rn_stp_fin (show fin (S, O).2 = true from h)]
      obtain ⟨ex, h1, h2, h3, h4⟩ := ih S O
      have := h4 h
      subst this
      exact ⟨[], h1, by simp, by simp, fun _ => rfl⟩
    · rw [rn_stp_go (show fin (S, O).2 = false from h)]
      obtain ⟨ex, h1, h2, h3, h4⟩ := ih (rsp k a b S i).1 (O ++ ems i.2.2.2 (rsp k a b S i).2)
      refine ⟨ems i.2.2.2 (rsp k a b S i).2 ++ ex, by rw [← List.append_assoc]; exact h1, fun e he => ?_, fun hp => ?_, fun hf => ?_⟩
      · rcases List.mem_append.mp he with y | y
        · exact ⟨i, by simp, pr_ems e y⟩
        · obtain ⟨j, j1, j2⟩ := h2 e y
          exact ⟨j, by simp [j1], j2⟩
      · rw [List.pairwise_cons] at hp
        rw [List.pairwise_append]
        refine ⟨?_, h3 hp.2, fun x hx y hy => ?_⟩
        · rw [List.pairwise_iff_forall_sublist]
          intro x y hs
          have hx := pr_ems x (hs.subset (by simp))
          have hy := pr_ems y (hs.subset (by simp))
          rw [hx, hy]; exact Nat.le_refl _
        · rw [pr_ems x hx]
          obtain ⟨j, j1, j2⟩ := h2 y hy
          rw [j2]
          exact hp.1 j j1
      · rw [h] at hf; exact absurd hf (by decide)
theorem pr_src {s p fr : Nat} : ∀ (lg : List Lg), (∀ e ∈ src s p fr lg, ∃ g ∈ lg, hrs fr g.2.2.2 = true ∧ e.2.2 = g.2.2.2 + p + 1) ∧ (lg.Pairwise (fun x y => x.2.2.2 ≤ y.2.2.2) → (src s p fr lg).Pairwise (fun x y => x.2.2 ≤ y.2.2)) := by
  intro lg
  induction lg with
  | nil => exact ⟨by simp [src], by simp [src]⟩
  | cons g r ih =>
    by_cases h : g.1 = s ∧ hrs fr g.2.2.2 = true
    · have e : src s p fr (g :: r) = (g.2.1 + 1, g.2.2.1, g.2.2.2 + p + 1) :: (if g.2.1 = 0 then src s p fr r else []) := by
        show (if g.1 = s ∧ hrs fr g.2.2.2 = true then _ else src s p fr r) = _
        rw [if_pos h]
      rw [e]
      have hin : ∀ e ∈ (if g.2.1 = 0 then src s p fr r else []), ∃ g ∈ r, hrs fr g.2.2.2 = true ∧ e.2.2 = g.2.2.2 + p + 1 := by
        intro e he
        by_cases h0 : g.2.1 = 0
        · rw [if_pos h0] at he; exact ih.1 e he
        · rw [if_neg h0] at he; simp at he
      refine ⟨fun e he => ?_, fun hp => ?_⟩
      · rcases List.mem_cons.mp he with y | y
        · subst y; exact ⟨g, by simp, h.2, rfl⟩
        · obtain ⟨g', g1, g2, g3⟩ := hin e y
          exact ⟨g', by simp [g1], g2, g3⟩
      · rw [List.pairwise_cons] at hp ⊢
        refine ⟨fun e he => ?_, ?_⟩
        · obtain ⟨g', g1, g2, g3⟩ := hin e he
          have := hp.1 g' g1
          show g.2.2.2 + p + 1 ≤ e.2.2
          omega
        · by_cases h0 : g.2.1 = 0
          · rw [if_pos h0]; exact ih.2 hp.2
          · rw [if_neg h0]; exact List.Pairwise.nil
    · have e : src s p fr (g :: r) = src s p fr r := by
        show (if g.1 = s ∧ hrs fr g.2.2.2 = true then _ else src s p fr r) = _
        rw [if_neg h]
      rw [e]
      refine ⟨fun e he => ?_, fun hp => ih.2 (List.pairwise_cons.mp hp).2⟩
      obtain ⟨g', g1, g2⟩ := ih.1 e he
      exact ⟨g', by simp [g1], g2⟩
theorem pr_src_ext {s p fr : Nat} {lx : List Lg} : ∀ (lg : List Lg), ∃ ex, src s p fr (lg ++ lx) = src s p fr lg ++ ex ∧ (∀ e ∈ ex, ∃ g ∈ lx, e.2.2 = g.2.2.2 + p + 1) ∧ (fin (src s p fr lg) = true → ex = []) := by
  intro lg
  induction lg with
  | nil =>
    refine ⟨src s p fr lx, rfl, fun e he => ?_, fun h => ?_⟩
    · obtain ⟨g, g1, g2, g3⟩ := (pr_src lx).1 e he
      exact ⟨g, g1, g3⟩
    · exact absurd h (by simp [src, fin])
  | cons g r ih =>
    obtain ⟨ex, h1, h2, h3⟩ := ih
    by_cases h : g.1 = s ∧ hrs fr g.2.2.2 = true
    · have e : ∀ r' : List Lg, src s p fr (g :: r') = (g.2.1 + 1, g.2.2.1, g.2.2.2 + p + 1) :: (if g.2.1 = 0 then src s p fr r' else []) := fun r' => by
        show (if g.1 = s ∧ hrs fr g.2.2.2 = true then _ else src s p fr r') = _
        rw [if_pos h]
      rw [List.cons_append, e, e]
      by_cases h0 : g.2.1 = 0
      · rw [if_pos h0, if_pos h0]
        refine ⟨ex, by rw [h1]; rfl, h2, fun hf => h3 ?_⟩
        have : fin ((g.2.1 + 1, g.2.2.1, g.2.2.2 + p + 1) :: src s p fr r) = fin (src s p fr r) := by
          rw [h0]; simp [fin]
        rw [this] at hf; exact hf
      · rw [if_neg h0, if_neg h0]
        exact ⟨[], rfl, by simp, fun _ => rfl⟩
    · have e : ∀ r' : List Lg, src s p fr (g :: r') = src s p fr r' := fun r' => by
        show (if g.1 = s ∧ hrs fr g.2.2.2 = true then _ else src s p fr r') = _
        rw [if_neg h]
      rw [List.cons_append, e, e]
      exact ⟨ex, h1, h2, h3⟩
theorem pr_tms {p c0 : Nat} : ∀ (d : Nat) (i : Inp), i ∈ tms p c0 d → ∃ T, c0 < T ∧ T ≤ c0 + d ∧ i.2.2.2 = tm T p := by
  intro d
  induction d with
  | zero => intro i hi; simp [tms] at hi
  | succ d ih =>
    intro i h
    rcases List.mem_append.mp h with y | y
    · obtain ⟨T, h1, h2, h3⟩ := ih i y
      exact ⟨T, h1, by omega, h3⟩
    · have : i = (2, 0, 0, tm (c0 + d + 1) p) := by simpa using y
      subst this
      exact ⟨c0 + d + 1, by omega, by omega, rfl⟩
theorem pr_tm {p T T' : Nat} (h : T ≤ T') : tm T p ≤ tm T' p := by unfold tm; exact Nat.add_le_add_right (Nat.mul_le_mul_right _ h) _
theorem pr_tms_srt {p c0 : Nat} : ∀ d : Nat, (tms p c0 d).Pairwise (fun x y => x.2.2.2 ≤ y.2.2.2) := by
  intro d
  induction d with
  | zero => exact List.Pairwise.nil
  | succ d ih =>
    rw [tp_tms, List.pairwise_append]
    refine ⟨ih, List.pairwise_singleton _ _, fun x hx y hy => ?_⟩
    obtain ⟨T, h1, h2, h3⟩ := pr_tms d x hx
    have : y = (2, 0, 0, tm (c0 + d + 1) p) := by simpa using hy
    subst this
    rw [h3]
    exact pr_tm (by omega)
theorem pr_feed {p c00 c : Nat} {P : Nat → Prop} : ∀ (H : List Ev) (c0 : Nat), c00 ≤ c0 → (∀ e ∈ H, P e.2.2 ∧ c00 ≤ ckm p e.2.2) → (∀ T, c00 < T → (T ≤ c ∨ ∃ e ∈ H, T ≤ ckm p e.2.2) → P (tm T p)) → ∀ i ∈ feed p c0 H c, P i.2.2.2 := by
  intro H
  induction H with
  | nil =>
    intro c0 h0 hH hT i hi
    obtain ⟨T, h1, h2, h3⟩ := pr_tms _ i hi
    rw [h3]
    exact hT T (by omega) (Or.inl (by omega))
  | cons e r ih =>
    intro c0 h0 hH hT i hi
    have he := hH e (by simp)
    rcases List.mem_append.mp (show i ∈ tms p c0 (ckm p e.2.2 - c0) ++ (0, e) :: feed p (ckm p e.2.2) r c from hi) with y | y
    · obtain ⟨T, h1, h2, h3⟩ := pr_tms _ i y
      rw [h3]
      exact hT T (by omega) (Or.inr ⟨e, by simp, by omega⟩)
    · rcases List.mem_cons.mp y with w | w
      · subst w; exact he.1
      · refine ih (ckm p e.2.2) he.2 (fun e' h' => hH e' (by simp [h'])) (fun T h1 h2 => hT T h1 ?_) i w
        rcases h2 with h2 | ⟨e', h3, h4⟩
        · exact Or.inl h2
        · exact Or.inr ⟨e', by simp [h3], h4⟩
theorem pr_feed_srt {p c : Nat} (hp : p < 9) : ∀ (H : List Ev) (c0 : Nat), H.Pairwise (fun x y => x.2.2 ≤ y.2.2) → (feed p c0 H c).Pairwise (fun x y => x.2.2.2 ≤ y.2.2.2) := by
  intro H
  induction H with
  | nil => intro c0 _; exact pr_tms_srt _
  | cons e r ih =>
    intro c0 hs
    rw [List.pairwise_cons] at hs
    show (tms p c0 (ckm p e.2.2 - c0) ++ (0, e) :: feed p (ckm p e.2.2) r c).Pairwise _
    have hlow : ∀ i ∈ feed p (ckm p e.2.2) r c, e.2.2 ≤ i.2.2.2 := pr_feed (c00 := ckm p e.2.2) (P := fun m => e.2.2 ≤ m) r (ckm p e.2.2) (Nat.le_refl _) (fun e' h' => ⟨hs.1 e' h', yk_ck hp (hs.1 e' h')⟩) (fun T h1 _ => by
      have h2 := yt_ck2 (m := e.2.2) hp
      have h3 := pr_tm (p := p) h1
      have h4 : ckm p e.2.2 + 1 = (ckm p e.2.2).succ := rfl
      rw [h4] at h2
      exact Nat.le_of_lt (Nat.lt_of_lt_of_le h2 h3))
    rw [List.pairwise_append]
    refine ⟨pr_tms_srt _, List.pairwise_cons.mpr ⟨fun i hi => hlow i hi, ih _ hs.2⟩, fun x hx y hy => ?_⟩
    obtain ⟨T, h1, h2, h3⟩ := pr_tms _ x hx
    have hle : tm T p ≤ e.2.2 := by
      rcases yt_ck (m := e.2.2) hp with w | w
      · exact Nat.le_trans (pr_tm (by omega)) w
      · exfalso
        have : ckm p e.2.2 = 0 := by unfold ckm; split <;> omega
        omega
    rw [h3]
    rcases List.mem_cons.mp hy with w | w
    · subst w; exact hle
    · exact Nat.le_trans hle (hlow y w)
theorem pr_ckm {p c m : Nat} (hp : p < 9) (h : tm c p ≤ m) : c ≤ ckm p m := by
  have h1 := yk_ck hp h
  have h2 : ckm p (tm c p) = c := by
    unfold ckm
    rw [tim_tm hp, if_neg (Nat.lt_irrefl _)]
  omega
theorem pr_feed_ext {p c T M : Nat} {ex : List Ev} (hp : p < 9) (h1 : tm c p ≤ M) (h2 : M < tm (c + 1) p) (hcT : c ≤ T) (hex : ∀ e ∈ ex, M < e.2.2) : ∀ (H : List Ev) (c0 : Nat), c0 ≤ c → (∀ e ∈ H, e.2.2 ≤ M) → ∃ more, feed p c0 (H ++ ex) T = feed p c0 H c ++ more ∧ ∀ i ∈ more, M < i.2.2.2 := by
  have htick : ∀ U, c < U → M < tm U p := fun U hU => Nat.lt_of_lt_of_le h2 (pr_tm hU)
  intro H
  induction H with
  | nil =>
    intro c0 h0 _
    cases ex with
    | nil =>
      refine ⟨tms p c (T - c), ?_, fun i hi => ?_⟩
      · show tms p c0 (T - c0) = tms p c0 (c - c0) ++ tms p c (T - c)
        have := yt_app p c0 (T - c) (c - c0)
        rw [show c - c0 + (T - c) = T - c0 from by omega, show c0 + (c - c0) = c from by omega] at this
        exact this
      · obtain ⟨U, u1, u2, u3⟩ := pr_tms _ i hi
        rw [u3]; exact htick U u1
    | cons e r =>
      have hce : c ≤ ckm p e.2.2 := pr_ckm hp (Nat.le_trans h1 (Nat.le_of_lt (hex e (by simp))))
      refine ⟨feed p c (e :: r) T, ?_, ?_⟩
      · show tms p c0 (ckm p e.2.2 - c0) ++ (0, e) :: feed p (ckm p e.2.2) r T = tms p c0 (c - c0) ++ (tms p c (ckm p e.2.2 - c) ++ (0, e) :: feed p (ckm p e.2.2) r T)
        rw [← List.append_assoc]
        congr 1
        have := yt_app p c0 (ckm p e.2.2 - c) (c - c0)
        rw [show c - c0 + (ckm p e.2.2 - c) = ckm p e.2.2 - c0 from by omega, show c0 + (c - c0) = c from by omega] at this
        exact this
      · exact pr_feed (c00 := c) (P := fun m => M < m) (e :: r) c (Nat.le_refl _) (fun e' h' => ⟨hex e' h', pr_ckm hp (Nat.le_trans h1 (Nat.le_of_lt (hex e' h')))⟩) (fun U hU _ => htick U hU)
  | cons e r ih =>
    intro c0 h0 hH
    obtain ⟨more, m1, m2⟩ := ih (ckm p e.2.2) (tk_ckle hp (hH e (by simp)) h2) (fun e' h' => hH e' (by simp [h']))
    refine ⟨more, ?_, m2⟩
    show tms p c0 (ckm p e.2.2 - c0) ++ (0, e) :: feed p (ckm p e.2.2) (r ++ ex) T = (tms p c0 (ckm p e.2.2 - c0) ++ (0, e) :: feed p (ckm p e.2.2) r c) ++ more
    rw [m1]
    simp
theorem pr_mrg_mem : ∀ (xs ys : List Inp) (i : Inp), i ∈ mrg xs ys → i ∈ xs ∨ i ∈ ys
  | [], ys, i, h => Or.inr h
  | x :: xs, [], i, h => by rw [tp_mrg_nil] at h; exact Or.inl h
  | x :: xs, y :: ys, i, h => by
    by_cases c : y.2.2.2 < x.2.2.2
    · rw [tp_mrg_y c] at h
      rcases List.mem_cons.mp h with w | w
      · exact Or.inr (by simp [w])
      · rcases pr_mrg_mem (x :: xs) ys i w with z | z
        · exact Or.inl z
        · exact Or.inr (by simp [z])
    · rw [tp_mrg_x c] at h
      rcases List.mem_cons.mp h with w | w
      · exact Or.inl (by simp [w])
      · rcases pr_mrg_mem xs (y :: ys) i w with z | z
        · exact Or.inl (by simp [z])
        · exact Or.inr z
  termination_by xs ys => xs.length + ys.length
theorem pr_mrg_srt : ∀ (xs ys : List Inp), xs.Pairwise (fun x y => x.2.2.2 ≤ y.2.2.2) → ys.Pairwise (fun x y => x.2.2.2 ≤ y.2.2.2) → (mrg xs ys).Pairwise (fun x y => x.2.2.2 ≤ y.2.2.2)
  | [], ys, _, h => h
  | x :: xs, [], h, _ => by rw [tp_mrg_nil]; exact h
  | x :: xs, y :: ys, hx, hy => by
    have hx' := List.pairwise_cons.mp hx
    have hy' := List.pairwise_cons.mp hy
    by_cases c : y.2.2.2 < x.2.2.2
    · rw [tp_mrg_y c, List.pairwise_cons]
      refine ⟨fun i hi => ?_, pr_mrg_srt (x :: xs) ys hx hy'.2⟩
      rcases pr_mrg_mem _ _ i hi with w | w
      · rcases List.mem_cons.mp w with z | z
        · subst z; omega
        · have := hx'.1 i z; omega
      · exact hy'.1 i w
    · rw [tp_mrg_x c, List.pairwise_cons]
      refine ⟨fun i hi => ?_, pr_mrg_srt xs (y :: ys) hx'.2 hy⟩
      rcases pr_mrg_mem _ _ i hi with w | w
      · exact hx'.1 i w
      · rcases List.mem_cons.mp w with z | z
        · subst z; omega
        · have := hy'.1 i z; omega
  termination_by xs ys => xs.length + ys.length
theorem pr_mrg_ext {M : Nat} {ex ey : List Inp} (hex : ∀ i ∈ ex, M < i.2.2.2) (hey : ∀ i ∈ ey, M < i.2.2.2) : ∀ (xs ys : List Inp), (∀ i ∈ xs, i.2.2.2 ≤ M) → (∀ i ∈ ys, i.2.2.2 ≤ M) → mrg (xs ++ ex) (ys ++ ey) = mrg xs ys ++ mrg ex ey
  | [], [], _, _ => rfl
  | [], y :: ys, h1, h2 => by
    have ih := pr_mrg_ext hex hey [] ys h1 (fun i hi => h2 i (by simp [hi]))
    cases ex with
    | nil => rfl
    | cons e r =>
      have := h2 y (by simp)
      have := hex e (by simp)
      show mrg (e :: r) (y :: (ys ++ ey)) = _
      rw [tp_mrg_y (by omega)]
      have ih' : mrg (e :: r) (ys ++ ey) = mrg [] ys ++ mrg (e :: r) ey := ih
      rw [ih']
      rfl
  | x :: xs, [], h1, h2 => by
    have ih := pr_mrg_ext hex hey xs [] (fun i hi => h1 i (by simp [hi])) h2
    cases ey with
    | nil => rw [List.append_nil, tp_mrg_nil, tp_mrg_nil, tp_mrg_nil]
    | cons e r =>
      have := h1 x (by simp)
      have := hey e (by simp)
      show mrg (x :: (xs ++ ex)) (e :: r) = _
      rw [tp_mrg_x (by omega)]
      have ih' : mrg (xs ++ ex) (e :: r) = mrg xs [] ++ mrg ex (e :: r) := ih
      rw [ih', tp_mrg_nil, tp_mrg_nil]
      rfl
  | x :: xs, y :: ys, h1, h2 => by
    by_cases c : y.2.2.2 < x.2.2.2
    · have ih := pr_mrg_ext hex hey (x :: xs) ys h1 (fun i hi => h2 i (by simp [hi]))
      rw [List.cons_append, List.cons_append, tp_mrg_y c, tp_mrg_y c]
      rw [List.cons_append] at ih
      rw [ih]; rfl
    · have ih := pr_mrg_ext hex hey xs (y :: ys) (fun i hi => h1 i (by simp [hi])) h2
      rw [List.cons_append, List.cons_append, tp_mrg_x c, tp_mrg_x c]
      rw [List.cons_append] at ih
      rw [ih]; rfl
  termination_by xs ys => xs.length + ys.length
theorem pr_tg {s : Nat} {H : List Ev} {i : Inp} (h : i ∈ tg s H) : ∃ e ∈ H, i = (s, e) := by
  obtain ⟨e, h1, h2⟩ := List.mem_map.mp h
  exact ⟨e, h1, h2.symm⟩
theorem pr_tg_srt {s : Nat} {H : List Ev} (h : H.Pairwise (fun x y => x.2.2 ≤ y.2.2)) : (tg s H).Pairwise (fun x y => x.2.2.2 ≤ y.2.2.2) := by
  unfold tg
  rw [List.pairwise_map]
  exact h
end
section
/-! ===== RR as a whole: where its moments come from, order, growth ===== -/
theorem pr_inp {k p c0 c : Nat} {Hx Hy : List Ev} {P : Nat → Prop} (hx : 3 ≤ k → ∀ e ∈ Hx, P e.2.2) (hy : 16 ≤ k → ∀ e ∈ Hy, P e.2.2) (hg : tmd k = true → ∀ e ∈ Hx, c0 ≤ ckm p e.2.2) (ht : tmd1 k = true → ∀ T, c0 < T → (T ≤ c ∨ (tmd k = true ∧ ∃ e ∈ Hx, T ≤ ckm p e.2.2)) → P (tm T p)) : ∀ i ∈ inp k p c0 c Hx Hy, P i.2.2.2 := by
  intro i hi
  unfold inp at hi
  by_cases h1 : k = 1
  · rw [if_pos h1] at hi
    obtain ⟨T, t1, t2, t3⟩ := pr_tms _ i hi
    rw [t3]
    exact ht (by rw [h1]; rfl) T t1 (Or.inl (by omega))
  · rw [if_neg h1] at hi
    by_cases h3 : k < 3
    · rw [if_pos h3] at hi; simp at hi
    · rw [if_neg h3] at hi
      by_cases h16 : k < 16
      · rw [if_pos h16] at hi
        by_cases htm : tmd k = true
        · rw [if_pos htm] at hi
          refine pr_feed (c00 := c0) (P := P) Hx c0 (Nat.le_refl _) (fun e he => ⟨hx (by omega) e he, hg htm e he⟩) (fun T t1 t2 => ht (by unfold tmd1; rw [htm]; simp) T t1 ?_) i hi
          rcases t2 with t2 | t2
          · exact Or.inl t2
          · exact Or.inr ⟨htm, t2⟩
        · rw [if_neg htm] at hi
          obtain ⟨e, e1, e2⟩ := pr_tg hi
          subst e2; exact hx (by omega) e e1
      · rw [if_neg h16] at hi
        have hm : i ∈ tg 0 Hx ∨ i ∈ tg 1 Hy := by
          by_cases h19 : k < 19
          · rw [if_pos h19] at hi; exact pr_mrg_mem _ _ i hi
          · rw [if_neg h19] at hi; exact List.mem_append.mp hi
        rcases hm with w | w
        · obtain ⟨e, e1, e2⟩ := pr_tg w
          subst e2; exact hx (by omega) e e1
        · obtain ⟨e, e1, e2⟩ := pr_tg w
          subst e2; exact hy (by omega) e e1
theorem pr_RR {k p fr c : Nat} {a b : Int32} {lg : List Lg} {Hx Hy : List Ev} {P : Nat → Prop} (h0 : k = 0 → ∀ g ∈ lg, hrs fr g.2.2.2 = true → P (g.2.2.2 + p + 1)) (h2 : k = 2 → P fr) (hx : 3 ≤ k → ∀ e ∈ Hx, P e.2.2) (hy : 16 ≤ k → ∀ e ∈ Hy, P e.2.2) (hg : tmd k = true → ∀ e ∈ Hx, ckm p fr ≤ ckm p e.2.2) (ht : tmd1 k = true → ∀ T, ckm p fr < T → (T ≤ c ∨ (tmd k = true ∧ ∃ e ∈ Hx, T ≤ ckm p e.2.2)) → P (tm T p)) : ∀ e ∈ (RR k a b p fr lg c Hx Hy).2, P e.2.2 := by
  intro e he
  unfold RR at he
  by_cases k0 : k = 0
  · rw [if_pos k0] at he
    obtain ⟨g, g1, g2, g3⟩ := (pr_src lg).1 e he
    rw [g3]; exact h0 k0 g g1 g2
  · rw [if_neg k0] at he
    by_cases k2 : k = 2
    · rw [if_pos k2] at he
      have : e = (1, a, fr) ∨ e = (2, 0, fr) := by simpa using he
      rcases this with w | w <;> subst w <;> exact h2 k2
    · rw [if_neg k2] at he
      obtain ⟨ex, x1, x2, x3, x4⟩ := pr_fold (k := k) (a := a) (b := b) (inp k p (ckm p fr) c Hx Hy) (ini k a b (tim fr)) []
      rw [x1, List.nil_append] at he
      obtain ⟨i, i1, i2⟩ := x2 e he
      rw [i2]
      exact pr_inp hx hy hg ht i i1
theorem pr_RRs {k p fr c : Nat} {a b : Int32} {lg : List Lg} {Hx Hy : List Ev} (hp : p < 9) (hl : lg.Pairwise (fun x y => x.2.2.2 ≤ y.2.2.2)) (hx : 3 ≤ k → Hx.Pairwise (fun x y => x.2.2 ≤ y.2.2)) (hy : 16 ≤ k → Hy.Pairwise (fun x y => x.2.2 ≤ y.2.2)) (hc : 19 ≤ k → ∀ x ∈ Hx, ∀ y ∈ Hy, x.2.2 ≤ y.2.2) : (RR k a b p fr lg c Hx Hy).2.Pairwise (fun x y => x.2.2 ≤ y.2.2) := by
  unfold RR
  by_cases k0 : k = 0
  · rw [if_pos k0]; exact (pr_src lg).2 hl
  · rw [if_neg k0]
    by_cases k2 : k = 2
    · rw [if_pos k2]
      simp
    · rw [if_neg k2]
      obtain ⟨ex, x1, x2, x3, x4⟩ := pr_fold (k := k) (a := a) (b := b) (inp k p (ckm p fr) c Hx Hy) (ini k a b (tim fr)) []
      rw [x1, List.nil_append]
      refine x3 ?_
      unfold inp
      by_cases h1 : k = 1
      · rw [if_pos h1]; exact pr_tms_srt _
      · rw [if_neg h1]
        by_cases h3 : k < 3
        · rw [if_pos h3]; exact List.Pairwise.nil
        · rw [if_neg h3]
          by_cases h16 : k < 16
          · rw [if_pos h16]
            by_cases htm : tmd k = true
            · rw [if_pos htm]; exact pr_feed_srt hp _ _ (hx (by omega))
            · rw [if_neg htm]; exact pr_tg_srt (hx (by omega))
          · rw [if_neg h16]
            by_cases h19 : k < 19
            · rw [if_pos h19]; exact pr_mrg_srt _ _ (pr_tg_srt (hx (by omega))) (pr_tg_srt (hy (by omega)))
            · rw [if_neg h19, List.pairwise_append]
              refine ⟨pr_tg_srt (hx (by omega)), pr_tg_srt (hy (by omega)), fun x hx0 y hy0 => ?_⟩
              obtain ⟨e, e1, e2⟩ := pr_tg hx0
              obtain ⟨e', e1', e2'⟩ := pr_tg hy0
              subst e2; subst e2'
              exact hc (by omega) e e1 e' e1'
theorem pr_tg_app (s : Nat) (H H' : List Ev) : tg s (H ++ H') = tg s H ++ tg s H' := by unfold tg; rw [List.map_append]
theorem pr_ext {k p fr c T M : Nat} {a b : Int32} {lg lx : List Lg} {Hx Hy ex ey : List Ev} (hp : p < 9) (h1 : tm c p ≤ M) (h2 : M < tm (c + 1) p) (hcT : c ≤ T) (hfr : fr ≤ M) (hlx : ∀ g ∈ lx, M < g.2.2.2 + (p + 1)) (hHx : ∀ e ∈ Hx, e.2.2 ≤ M) (hHy : ∀ e ∈ Hy, e.2.2 ≤ M) (hex : ∀ e ∈ ex, M < e.2.2) (hey : ∀ e ∈ ey, M < e.2.2) (hch : 19 ≤ k → Hy = [] ∨ ex = []) : ∃ ez, (RR k a b p fr (lg ++ lx) T (Hx ++ ex) (Hy ++ ey)).2 = (RR k a b p fr lg c Hx Hy).2 ++ ez ∧ (∀ e ∈ ez, M < e.2.2) ∧ (fin (RR k a b p fr lg c Hx Hy).2 = true → ez = []) := by
  unfold RR
  by_cases k0 : k = 0
  · rw [if_pos k0, if_pos k0]
    obtain ⟨ez, z1, z2, z3⟩ := pr_src_ext (s := cl a) (p := p) (fr := fr) (lx := lx) lg
    refine ⟨ez, z1, fun e he => ?_, z3⟩
    obtain ⟨g, g1, g2⟩ := z2 e he
    have := hlx g g1
    omega
  · rw [if_neg k0, if_neg k0]
    by_cases k2 : k = 2
    · rw [if_pos k2, if_pos k2]
      exact ⟨[], by simp, by simp, fun _ => rfl⟩
    · rw [if_neg k2, if_neg k2]
      have hin : ∃ more, inp k p (ckm p fr) T (Hx ++ ex) (Hy ++ ey) = inp k p (ckm p fr) c Hx Hy ++ more ∧ ∀ i ∈ more, M < i.2.2.2 := by
        have hc0 : ckm p fr ≤ c := tk_ckle hp hfr h2
        unfold inp
        by_cases k1 : k = 1
        · rw [if_pos k1, if_pos k1]
          obtain ⟨more, m1, m2⟩ := pr_feed_ext (ex := []) hp h1 h2 hcT (by simp) [] (ckm p fr) hc0 (by simp)
          exact ⟨more, m1, m2⟩
        · rw [if_neg k1, if_neg k1]
          by_cases h3 : k < 3
          · rw [if_pos h3, if_pos h3]; exact ⟨[], rfl, by simp⟩
          · rw [if_neg h3, if_neg h3]
            by_cases h16 : k < 16
            · rw [if_pos h16, if_pos h16]
              by_cases htm : tmd k = true
              · rw [if_pos htm, if_pos htm]
                exact pr_feed_ext hp h1 h2 hcT hex Hx (ckm p fr) hc0 hHx
              · rw [if_neg htm, if_neg htm, pr_tg_app]
                refine ⟨tg 0 ex, rfl, fun i hi => ?_⟩
                obtain ⟨e, e1, e2⟩ := pr_tg hi
                subst e2; exact hex e e1
            · rw [if_neg h16, if_neg h16]
              have g0 : ∀ i ∈ tg 0 ex, M < i.2.2.2 := fun i hi => by
                obtain ⟨e, e1, e2⟩ := pr_tg hi
                subst e2; exact hex e e1
              have g1 : ∀ i ∈ tg 1 ey, M < i.2.2.2 := fun i hi => by
                obtain ⟨e, e1, e2⟩ := pr_tg hi
                subst e2; exact hey e e1
              by_cases h19 : k < 19
              · rw [if_pos h19, if_pos h19, pr_tg_app, pr_tg_app, pr_mrg_ext g0 g1 _ _ (fun i hi => by
                  obtain ⟨e, e1, e2⟩ := pr_tg hi
                  subst e2; exact hHx e e1) (fun i hi => by
                  obtain ⟨e, e1, e2⟩ := pr_tg hi
                  subst e2; exact hHy e e1)]
                refine ⟨_, rfl, fun i hi => ?_⟩
                rcases pr_mrg_mem _ _ i hi with w | w
                · exact g0 i w
                · exact g1 i w
              · rw [if_neg h19, if_neg h19, pr_tg_app, pr_tg_app]
                rcases hch (by omega) with w | w
                · subst w
                  refine ⟨tg 0 ex ++ tg 1 ey, by simp [tg], fun i hi => ?_⟩
                  rcases List.mem_append.mp hi with z | z
                  · exact g0 i z
                  · exact g1 i z
                · subst w
                  exact ⟨tg 1 ey, by simp [tg], g1⟩
      obtain ⟨more, m1, m2⟩ := hin
      rw [m1, List.foldl_append]
      obtain ⟨ez, z1, z2, z3, z4⟩ := pr_fold (k := k) (a := a) (b := b) more ((inp k p (ckm p fr) c Hx Hy).foldl (stp k a b) (ini k a b (tim fr), [])).1 ((inp k p (ckm p fr) c Hx Hy).foldl (stp k a b) (ini k a b (tim fr), [])).2
      refine ⟨ez, z1, fun e he => ?_, z4⟩
      obtain ⟨i, i1, i2⟩ := z2 e he
      rw [i2]; exact m2 i i1
/-! ===== the whole tree's streams: begun where, heard what ===== -/
def cy (E : Env) (q : Nat) : Prop := 19 ≤ e_kd E (e_us E q) ∧ e_yc E (e_us E q) = q
def lastm (k : Nat) (H : List Ev) : Option Nat := (H.find? (fun e => mt k e.1)).map (fun e => e.2.2)
def BF (E : Env) (B0 : Nat) (H : Nat → List Ev) (bf : Nat → Option Nat) : Prop :=
  bf (e_n E - 1) = some B0 ∧ (∀ q, q + 1 < e_n E → cy E q → bf q = lastm (e_kd E (e_us E q)) (H (e_xc E (e_us E q)))) ∧ (∀ q, q + 1 < e_n E → ¬ cy E q → bf q = bf (e_us E q))
def spv (E : Env) (LG : List Lg) (t : Nat) (H : Nat → List Ev) (q : Nat) : Option Nat → List Ev
  | none => []
  | some fr => (RR (e_kd E q) (e_oa E q) (e_ob E q) q fr LG t (H (e_xc E q)) (H (e_yc E q))).2
def SOL (E : Env) (B0 : Nat) (LG : List Lg) (t : Nat) (H : Nat → List Ev) (bf : Nat → Option Nat) : Prop :=
  BF E B0 H bf ∧ ∀ q, q < e_n E → H q = spv E LG t H q (bf q)
theorem so_find {k : Nat} {H : List Ev} {m : Nat} (h : lastm k H = some m) : ∃ e ∈ H, mt k e.1 = true ∧ e.2.2 = m := by
  unfold lastm at h
  obtain ⟨e, h1, h2⟩ := Option.map_eq_some_iff.mp h
  exact ⟨e, List.mem_of_find?_eq_some h1, by simpa using List.find?_some h1, h2⟩
theorem so_find0 {k : Nat} {H : List Ev} (h : lastm k H = none) : ∀ e ∈ H, ¬ mt k e.1 = true := by
  unfold lastm at h
  rw [Option.map_eq_none_iff, List.find?_eq_none] at h
  intro e he
  exact h e he
/-- a component's full configuration is a solution -/
theorem so_cu {E : Env} {H : Nat → List Ev} {F : Nat → Nat} {bg : Nat → Bool} {B0 t : Nat} {LG : List Lg} (hT : TR E) (hc : ∀ q, q < e_n E → e_c E q = t) (hl : ∀ q, q < e_n E → e_lg E q = LG) (h : CU E H F bg B0) : SOL E B0 LG t H (fun q => if bg q = true then some (F q) else none) := by
  obtain ⟨c1, c2, c3, c4, c5, c6, c7, c8, c9, c10, c11⟩ := h
  obtain ⟨t1, t2, t3, t4, t5, t6, t7, t8, t9, t10, t11⟩ := hT
  refine ⟨⟨?_, fun q hq hy => ?_, fun q hq hy => ?_⟩, fun q hq => ?_⟩
  · dsimp only
    rw [if_pos c9, c10]
  · have h9 := t9 q hq
    dsimp only
    cases hl2 : lastm (e_kd E (e_us E q)) (H (e_xc E (e_us E q))) with
    | none =>
      have h0 := so_find0 hl2
      rw [if_neg]
      intro hb
      obtain ⟨e, e1, e2⟩ := c5 (e_us E q) h9.2.1 hy.1 (by rw [hy.2]; exact hb)
      exact h0 e e1 e2
    | some m =>
      obtain ⟨e, e1, e2, e3⟩ := so_find hl2
      have := c8 (e_us E q) h9.2.1 hy.1 e e1 e2
      rw [hy.2] at this
      rw [if_pos this.1, this.2, e3]
  · have h9 := t9 q hq
    dsimp only
    by_cases hb : bg (e_us E q) = true
    · have hd := c7 (e_us E q) h9.2.1 hb
      rw [if_pos hb]
      rcases h9.2.2.2 with w | w
      · have := hd.1 h9.2.2.1
        rw [w] at this
        rw [if_pos this.1, this.2]
      · have h19 : e_kd E (e_us E q) < 19 := by
          rcases Nat.lt_or_ge (e_kd E (e_us E q)) 19 with z | z
          · exact z
          · exact absurd ⟨z, w.2⟩ hy
        have := hd.2 w.1 h19
        rw [w.2] at this
        rw [if_pos this.1, this.2]
    · rw [if_neg hb, if_neg (fun y => hb (c6 q hq y))]
  · dsimp only
    by_cases hb : bg q = true
    · rw [if_pos hb]
      have := c1 q hq hb
      unfold Rn at this
      rw [hc q hq, hl q hq] at this
      exact this.symm
    · rw [if_neg hb]
      exact c2 q hq (by simpa using hb)
end
section
/-! ===== solutions: walking up, moments, cuts, existence ===== -/
theorem rr_congr {k p fr c : Nat} {a b : Int32} {lg : List Lg} {Hx Hy Hx' Hy' : List Ev} (hx : 3 ≤ k → Hx = Hx') (hy : 16 ≤ k → Hy = Hy') : RR k a b p fr lg c Hx Hy = RR k a b p fr lg c Hx' Hy' := by
  rcases Nat.lt_or_ge k 3 with h | h
  · unfold RR
    have e : inp k p (ckm p fr) c Hx Hy = inp k p (ckm p fr) c Hx' Hy' := by
      unfold inp
      by_cases k1 : k = 1
      · rw [if_pos k1, if_pos k1]
      · rw [if_neg k1, if_neg k1, if_pos h, if_pos h]
    rw [e]
  · rw [hx h]
    rcases Nat.lt_or_ge k 16 with h2 | h2
    · unfold RR
      have e : inp k p (ckm p fr) c Hx' Hy = inp k p (ckm p fr) c Hx' Hy' := by
        unfold inp
        rw [if_pos h2, if_pos h2]
      rw [e]
    · rw [hy h2]
theorem so_walk2 {E : Env} {B0 : Nat} {H H' : Nat → List Ev} {bf bf' : Nat → Option Nat} {R : Option Nat → Option Nat → Prop} {q : Nat} (hT : TR E) (h : BF E B0 H bf) (h' : BF E B0 H' bf') (hq : q < e_n E) (h0 : R (some B0) (some B0)) (hu : ∀ u, u < e_n E → 19 ≤ e_kd E u → e_xc E u < q → q < u → R (lastm (e_kd E u) (H (e_xc E u))) (lastm (e_kd E u) (H' (e_xc E u)))) : R (bf q) (bf' q) := by
  obtain ⟨t1, t2, t3, t4, t5, t6, t7, t8, t9, t10, t11⟩ := hT
  have main : ∀ d q', e_n E - 1 - q' ≤ d → q' < e_n E → e_lo E q' ≤ q → q ≤ q' → R (bf q') (bf' q') := by
    intro d
    induction d with
    | zero =>
      intro q' hd hq' hl hle
      have : q' = e_n E - 1 := by omega
      subst this
      rw [h.1, h'.1]; exact h0
    | succ d ih =>
      intro q' hd hq' hl hle
      by_cases hr : q' + 1 < e_n E
      · have h9 := t9 q' hr
        by_cases hc : cy E q'
        · rw [h.2.1 q' hr hc, h'.2.1 q' hr hc]
          have h19 : 19 ≤ e_kd E (e_us E q') := hc.1
          have h8 := t8 (e_us E q') h9.2.1 (by omega)
          rw [hc.2] at h8
          exact hu _ h9.2.1 hc.1 (by omega) (by omega)
        · rw [h.2.2 q' hr hc, h'.2.2 q' hr hc]
          refine ih _ (by omega) h9.2.1 ?_ (by omega)
          have h6 := t6 (e_us E q') h9.2.1 h9.2.2.1
          rcases h9.2.2.2 with w | w
          · rw [w] at h6; omega
          · have h8 := t8 (e_us E q') h9.2.1 w.1
            rw [w.2] at h8
            have h4 := t4 (e_xc E (e_us E q')) (by omega)
            omega
      · have : q' = e_n E - 1 := by omega
        subst this
        rw [h.1, h'.1]; exact h0
  exact main _ q (Nat.le_refl _) hq (t4 q hq) (Nat.le_refl _)
theorem so_kids {E : Env} {B0 : Nat} {H : Nat → List Ev} {bf : Nat → Option Nat} {q : Nat} (hT : TR E) (h : BF E B0 H bf) (hq : q < e_n E) : (3 ≤ e_kd E q → e_xc E q < q ∧ bf (e_xc E q) = bf q) ∧ (16 ≤ e_kd E q → e_xc E q < e_yc E q ∧ e_yc E q < q ∧ (e_kd E q < 19 → bf (e_yc E q) = bf q) ∧ (19 ≤ e_kd E q → bf (e_yc E q) = lastm (e_kd E q) (H (e_xc E q)))) := by
  obtain ⟨t1, t2, t3, t4, t5, t6, t7, t8, t9, t10, t11⟩ := hT
  refine ⟨fun h3 => ?_, fun h16 => ?_⟩
  · have h6 := t6 q hq h3
    refine ⟨h6.1, ?_⟩
    rw [h.2.2 (e_xc E q) (by omega) ?_, h6.2.1]
    intro hc
    have h19 : 19 ≤ e_kd E q := by have := hc.1; rw [h6.2.1] at this; exact this
    have h8 := t8 q hq (by omega)
    have := hc.2
    rw [h6.2.1] at this
    omega
  · have h8 := t8 q hq h16
    refine ⟨h8.2.2.2, by omega, fun h19 => ?_, fun h19 => ?_⟩
    · rw [h.2.2 (e_yc E q) (by omega) ?_, h8.2.1]
      intro hc
      have := hc.1
      rw [h8.2.1] at this
      omega
    · rw [h.2.1 (e_yc E q) (by omega) ⟨by rw [h8.2.1]; exact h19, by rw [h8.2.1]⟩, h8.2.1]
def MQf (W : List Nat) (t p m : Nat) : Prop := (∃ T r, T ≤ t ∧ r ≤ p ∧ m = tm T r) ∨ (∃ w ∈ W, ∃ r, r ≤ 9 ∧ m = w + r)
def CMs (t : Nat) (W : List Nat) : Prop := (∀ w ∈ W, ∃ t' c', w = mo t' 1 c' ∧ t' ≤ t ∧ c' < 4000000000) ∧ ∀ w ∈ W, ∀ w' ∈ W, w / 256 % 4294967296 < w' / 256 % 4294967296 → w + 256 ≤ w'
theorem mq_mono {W : List Nat} {t p p' m : Nat} (h : p ≤ p') (hm : MQf W t p m) : MQf W t p' m := by
  rcases hm with ⟨T, r, h1, h2, h3⟩ | hw
  · exact Or.inl ⟨T, r, h1, by omega, h3⟩
  · exact Or.inr hw
theorem mq_call {t' c' r : Nat} (hc : c' < 4000000000) (hr : r ≤ 9) : tim (mo t' 1 c' + r) = t' ∧ (mo t' 1 c' + r) / 1099511627776 % 2 = 1 ∧ (mo t' 1 c' + r) / 256 % 4294967296 = c' ∧ mo t' 1 c' / 256 % 4294967296 = c' := by
  refine ⟨tim_mo (by decide) (by omega) (by omega), (ts_num (t := t') (c := c') (b := r) (by omega) (by omega)).1, (ts_num (t := t') (c := c') (b := r) (by omega) (by omega)).2, ?_⟩
  have := (ts_num (t := t') (c := c') (b := 0) (by omega) (by omega)).2
  rw [Nat.add_zero] at this
  exact this
theorem mq_tim {W : List Nat} {t p m : Nat} (hW : CMs t W) (hp : p < 9) (hm : MQf W t p m) : tim m ≤ t := by
  rcases hm with ⟨T, r, h1, h2, h3⟩ | ⟨w, hw, r, hr, h3⟩
  · rw [h3, tim_tm (by omega)]; exact h1
  · obtain ⟨t', c', e, h1, h2⟩ := hW.1 w hw
    rw [h3, e, (mq_call h2 hr).1]; exact h1
theorem mq_big {m t : Nat} (ht : t ≤ 200) (h : tim m ≤ t) : m < 1000000000000000 := by unfold tim at h; omega
theorem mq_bit {T r : Nat} (hr : r < 9) : tm T r / 1099511627776 % 2 = 0 := by unfold tm; omega
theorem mq_ne {W : List Nat} {t p p' m T : Nat} (hW : CMs t W) (hpp : p < p') (hp' : p' < 9) (hm : MQf W t p m) : m ≠ tm T p' := by
  intro he
  rcases hm with ⟨T', r, h1, h2, h3⟩ | ⟨w, hw, r, hr, h3⟩
  · rw [h3] at he
    have e1 : tim (tm T' r) = T' := tim_tm (by omega)
    have e2 : tim (tm T p') = T := tim_tm hp'
    rw [he, e2] at e1
    subst e1
    unfold tm at he
    have := Nat.add_left_cancel he
    omega
  · obtain ⟨t', c', e, h1, h2⟩ := hW.1 w hw
    have h4 := (mq_call (t' := t') h2 hr).2.1
    rw [← e, ← h3, he, mq_bit hp'] at h4
    exact absurd h4 (by decide)
theorem mq_hrs {W : List Nat} {t p fr w : Nat} (hW : CMs t W) (hp : p < 9) (hm : MQf W t p fr) (hw : w ∈ W) (h : hrs fr w = true) : fr ≤ w := by
  unfold hrs at h
  rcases hm with ⟨T, r, h1, h2, h3⟩ | ⟨w0, hw0, r, hr, h3⟩
  · have hb : ¬ fr / 1099511627776 % 2 = 1 := by rw [h3, mq_bit (by omega)]; decide
    rw [if_neg hb] at h
    exact Nat.le_of_lt (of_decide_eq_true h)
  · obtain ⟨t', c', e, h1, h2⟩ := hW.1 w0 hw0
    have h4 := mq_call (t' := t') h2 hr
    rw [← e, ← h3] at h4
    rw [if_pos h4.2.1] at h
    have h5 := of_decide_eq_true h
    rw [h4.2.2.1, ← h4.2.2.2] at h5
    have := hW.2 w0 hw0 w hw h5
    omega
/-- moments of a solution, and that nothing comes before its part's beginning -/
theorem so_mom {E : Env} {B0 t : Nat} {LG : List Lg} {H : Nat → List Ev} {bf : Nat → Option Nat} (hT : TR E) (hS : SOL E B0 LG t H bf) (hW : CMs t (B0 :: LG.map (fun g => g.2.2.2))) : ∀ q, q < e_n E → (∀ e ∈ H q, MQf (B0 :: LG.map (fun g => g.2.2.2)) t q e.2.2) ∧ ∀ fr, bf q = some fr → MQf (B0 :: LG.map (fun g => g.2.2.2)) t q fr ∧ ∀ e ∈ H q, fr ≤ e.2.2 := by
  have hn9 := hT.2.2.1
  intro q
  induction q using Nat.strongRecOn with
  | ind q ih =>
    intro hq
    have hfr : ∀ fr, bf q = some fr → MQf (B0 :: LG.map (fun g => g.2.2.2)) t q fr := by
      refine so_walk2 (R := fun b _ => ∀ fr, b = some fr → MQf (B0 :: LG.map (fun g => g.2.2.2)) t q fr) hT hS.1 hS.1 hq ?_ ?_
      · intro fr hfr
        cases hfr
        exact Or.inr ⟨B0, by simp, 0, by omega, by simp⟩
      · intro u hu h19 hxq hqu fr hfr
        obtain ⟨e, e1, e2, e3⟩ := so_find hfr
        rw [← e3]
        exact mq_mono (by omega) ((ih _ hxq (by omega)).1 e e1)
    cases hb : bf q with
    | none =>
      have hH : H q = [] := by rw [hS.2 q hq, hb]; rfl
      rw [hH]
      exact ⟨by simp, fun fr h => by simp at h⟩
    | some fr =>
      have hH : H q = (RR (e_kd E q) (e_oa E q) (e_ob E q) q fr LG t (H (e_xc E q)) (H (e_yc E q))).2 := by rw [hS.2 q hq, hb]; rfl
      have hfm := hfr fr hb
      have hk := so_kids hT hS.1 hq
      have hX : 3 ≤ e_kd E q → ∀ e ∈ H (e_xc E q), MQf (B0 :: LG.map (fun g => g.2.2.2)) t (e_xc E q) e.2.2 ∧ fr ≤ e.2.2 := fun h3 e he => by
        have h1 := hk.1 h3
        have h2 := ih _ h1.1 (by omega)
        exact ⟨h2.1 e he, (h2.2 fr (h1.2.trans hb)).2 e he⟩
      have hY : 16 ≤ e_kd E q → ∀ e ∈ H (e_yc E q), MQf (B0 :: LG.map (fun g => g.2.2.2)) t (e_yc E q) e.2.2 ∧ fr ≤ e.2.2 := fun h16 e he => by
        have h1 := hk.2 h16
        have h2 := ih _ h1.2.1 (by omega)
        refine ⟨h2.1 e he, ?_⟩
        rcases Nat.lt_or_ge (e_kd E q) 19 with w | w
        · exact (h2.2 fr ((h1.2.2.1 w).trans hb)).2 e he
        · have h3 := h1.2.2.2 w
          cases hl : lastm (e_kd E q) (H (e_xc E q)) with
          | none =>
            rw [hl] at h3
            have : H (e_yc E q) = [] := by rw [hS.2 _ (by omega), h3]; rfl
            rw [this] at he; simp at he
          | some fr' =>
            rw [hl] at h3
            obtain ⟨e', f1, f2, f3⟩ := so_find hl
            have := (hX (by omega) e' f1).2
            have := (h2.2 fr' h3).2 e he
            omega
      have hge : tmd (e_kd E q) = true → ∀ e ∈ H (e_xc E q), ckm q fr ≤ ckm q e.2.2 := fun ht e he => yk_ck (by omega) (hX (by
        simp only [tmd, Bool.or_eq_true, beq_iff_eq] at ht
        omega) e he).2
      have h3t : tmd (e_kd E q) = true → 3 ≤ e_kd E q := fun ht => by
        simp only [tmd, Bool.or_eq_true, beq_iff_eq] at ht
        omega
      refine ⟨?_, fun fr' h => ?_⟩
      · rw [hH]
        refine pr_RR (P := fun m => MQf (B0 :: LG.map (fun g => g.2.2.2)) t q m) (fun _ g hg _ => Or.inr ⟨g.2.2.2, by simp; exact Or.inr ⟨_, _, _, hg⟩, q + 1, by omega, by omega⟩) (fun _ => hfm) (fun h3 e he => mq_mono (Nat.le_of_lt (hk.1 h3).1) (hX h3 e he).1) (fun h16 e he => mq_mono (Nat.le_of_lt (hk.2 h16).2.1) (hY h16 e he).1) hge (fun _ T h1 h2 => Or.inl ⟨T, q, ?_, Nat.le_refl _, rfl⟩)
        rcases h2 with h2 | ⟨h2, e, he, h4⟩
        · exact h2
        · have h5 := (hX (h3t h2) e he).1
          have h6 := mq_tim hW (by have := (hk.1 (h3t h2)).1; omega) h5
          have h7 := yt_cktim (p := q) (m := e.2.2)
          omega
      · cases h
        refine ⟨hfm, ?_⟩
        rw [hH]
        refine pr_RR (P := fun m => fr ≤ m) (fun _ g hg hh => ?_) (fun _ => Nat.le_refl _) (fun h3 e he => (hX h3 e he).2) (fun h16 e he => (hY h16 e he).2) hge (fun _ T h1 _ => ?_)
        · have := mq_hrs hW (by omega) hfm (w := g.2.2.2) (by simp; exact Or.inr ⟨_, _, _, hg⟩) hh
          omega
        · have h2 := yt_ck2 (p := q) (m := fr) (by omega)
          have h3 := pr_tm (p := q) (T := ckm q fr + 1) (T' := T) h1
          exact Nat.le_of_lt (Nat.lt_of_lt_of_le h2 h3)
theorem so_bf {E : Env} {H : Nat → List Ev} {F : Nat → Nat} {bg : Nat → Bool} {B0 : Nat} (hT : TR E) (h : CU E H F bg B0) : BF E B0 H (fun q => if bg q = true then some (F q) else none) := by
  have h2 : CU (eU E (e_t E) (e_M E) (e_c E) (fun _ => []) []) H F bg B0 → True := fun _ => trivial
  obtain ⟨c1, c2, c3, c4, c5, c6, c7, c8, c9, c10, c11⟩ := h
  obtain ⟨t1, t2, t3, t4, t5, t6, t7, t8, t9, t10, t11⟩ := hT
  refine ⟨?_, fun q hq hy => ?_, fun q hq hy => ?_⟩
  · dsimp only
    rw [if_pos c9, c10]
  · have h9 := t9 q hq
    dsimp only
    cases hl2 : lastm (e_kd E (e_us E q)) (H (e_xc E (e_us E q))) with
    | none =>
      have h0 := so_find0 hl2
      rw [if_neg]
      intro hb
      obtain ⟨e, e1, e2⟩ := c5 (e_us E q) h9.2.1 hy.1 (by rw [hy.2]; exact hb)
      exact h0 e e1 e2
    | some m =>
      obtain ⟨e, e1, e2, e3⟩ := so_find hl2
      have := c8 (e_us E q) h9.2.1 hy.1 e e1 e2
      rw [hy.2] at this
      rw [if_pos this.1, this.2, e3]
  · have h9 := t9 q hq
    dsimp only
    by_cases hb : bg (e_us E q) = true
    · have hd := c7 (e_us E q) h9.2.1 hb
      rw [if_pos hb]
      rcases h9.2.2.2 with w | w
      · have := hd.1 h9.2.2.1
        rw [w] at this
        rw [if_pos this.1, this.2]
      · have h19 : e_kd E (e_us E q) < 19 := by
          rcases Nat.lt_or_ge (e_kd E (e_us E q)) 19 with z | z
          · exact z
          · exact absurd ⟨z, w.2⟩ hy
        have := hd.2 w.1 h19
        rw [w.2] at this
        rw [if_pos this.1, this.2]
    · rw [if_neg hb, if_neg (fun y => hb (c6 q hq y))]
theorem so_lastm_app {k : Nat} {H ex : List Ev} : lastm k (H ++ ex) = match lastm k H with | none => lastm k ex | some m => some m := by
  unfold lastm
  rw [List.find?_append]
  cases H.find? (fun e => mt k e.1) <;> rfl
theorem so_fin {k : Nat} {H : List Ev} {e : Ev} (he : e ∈ H) (hm : mt k e.1 = true) : fin H = true := by
  unfold fin
  rw [List.any_eq_true]
  refine ⟨e, he, ?_⟩
  simp only [mt, Bool.or_eq_true, Bool.and_eq_true, beq_iff_eq] at hm
  simp
  omega
theorem so_cut {E : Env} {t0 M : Nat} {c : Nat → Nat} {lg : Nat → List Lg} {LG0 : List Lg} {H : Nat → List Ev} {F : Nat → Nat} {bg : Nat → Bool} {B0 T : Nat} {LG : List Lg} {H' : Nat → List Ev} {bf' : Nat → Option Nat} (hT : TR E) (hC : CU (eU E t0 M c lg LG0) H F bg B0) (hS : SOL E B0 LG T H' bf') (hcl : ∀ q, q < e_n E → c q ≤ T ∧ ∃ ex, LG = lg q ++ ex ∧ ∀ g ∈ ex, M < g.2.2.2 + (q + 1)) (hMB : ∀ q, q < e_n E → ∀ fr, bf' q = some fr → ∀ e ∈ H' q, fr ≤ e.2.2) : ∀ q, q < e_n E → ∃ ex, H' q = H q ++ ex ∧ (∀ e ∈ ex, M < e.2.2) ∧ (fin (H q) = true → ex = []) := by
  have hn9 := hT.2.2.1
  have hbf : BF E B0 H (fun q => if bg q = true then some (F q) else none) := so_bf (E := eU E t0 M c lg LG0) hT hC
  obtain ⟨c1, c2, c3, c4, c5, c6, c7, c8, c9, c10, c11⟩ := hC
  have c1' : ∀ q, q < e_n E → bg q = true → (RR (e_kd E q) (e_oa E q) (e_ob E q) q (F q) (lg q) (c q) (H (e_xc E q)) (H (e_yc E q))).2 = H q := c1
  have c3' : ∀ q, q < e_n E → ∀ e ∈ H q, e.2.2 ≤ M := c3
  have c5' : ∀ q, q < e_n E → 19 ≤ e_kd E q → bg (e_yc E q) = true → ∃ e ∈ H (e_xc E q), mt (e_kd E q) e.1 = true := c5
  have c2' : ∀ q, q < e_n E → bg q = false → H q = [] := c2
  have c11' : ∀ q, q < e_n E → tm (c q) q ≤ M ∧ M < tm (c q + 1) q := c11
  have c4' : ∀ q, q < e_n E → bg q = true → F q ≤ M := c4
  intro q
  induction q using Nat.strongRecOn with
  | ind q ih =>
    intro hq
    have hR : (if bg q = true then some (F q) else none) = bf' q ∨ ((if bg q = true then some (F q) else none) = none ∧ ∃ fr, bf' q = some fr ∧ M < fr) := by
      refine so_walk2 (R := fun x y => x = y ∨ (x = none ∧ ∃ fr, y = some fr ∧ M < fr)) (bf := fun q => if bg q = true then some (F q) else none) hT hbf hS.1 hq (Or.inl rfl) ?_
      intro u hu h19 hxq hqu
      obtain ⟨ex, e1, e2, e3⟩ := ih _ hxq (by omega)
      rw [e1, so_lastm_app]
      cases hl : lastm (e_kd E u) (H (e_xc E u)) with
      | some m => exact Or.inl rfl
      | none =>
        cases hl2 : lastm (e_kd E u) ex with
        | none => exact Or.inl rfl
        | some fr =>
          obtain ⟨e, f1, f2, f3⟩ := so_find hl2
          exact Or.inr ⟨rfl, fr, rfl, by rw [← f3]; exact e2 e f1⟩
    by_cases hb : bg q = true
    · rw [if_pos hb] at hR
      have hbf' : bf' q = some (F q) := by
        rcases hR with w | ⟨w, _⟩
        · exact w.symm
        · simp at w
      have hH' : H' q = (RR (e_kd E q) (e_oa E q) (e_ob E q) q (F q) LG T (H' (e_xc E q)) (H' (e_yc E q))).2 := by rw [hS.2 q hq, hbf']; rfl
      obtain ⟨hcT, lx, hlx, hlx2⟩ := hcl q hq
      have hcw := c11' q hq
      have hk := so_kids hT hS.1 hq
      have key : ∃ ez, (RR (e_kd E q) (e_oa E q) (e_ob E q) q (F q) LG T (H' (e_xc E q)) (H' (e_yc E q))).2 = (RR (e_kd E q) (e_oa E q) (e_ob E q) q (F q) (lg q) (c q) (H (e_xc E q)) (H (e_yc E q))).2 ++ ez ∧ (∀ e ∈ ez, M < e.2.2) ∧ (fin (RR (e_kd E q) (e_oa E q) (e_ob E q) q (F q) (lg q) (c q) (H (e_xc E q)) (H (e_yc E q))).2 = true → ez = []) := by
        rw [hlx]
        rcases Nat.lt_or_ge (e_kd E q) 3 with h3 | h3
        · rw [rr_congr (Hx := H' (e_xc E q)) (Hy := H' (e_yc E q)) (Hx' := [] ++ []) (Hy' := [] ++ []) (fun _ => by omega) (fun _ => by omega), rr_congr (Hx := H (e_xc E q)) (Hy := H (e_yc E q)) (Hx' := []) (Hy' := []) (fun _ => by omega) (fun _ => by omega)]
          exact pr_ext (by omega) hcw.1 hcw.2 hcT (c4' q hq hb) hlx2 (by simp) (by simp) (by simp) (by simp) (fun _ => by omega)
        · have hx := hk.1 h3
          obtain ⟨ex, x1, x2, x3⟩ := ih _ hx.1 (by omega)
          rw [x1]
          rcases Nat.lt_or_ge (e_kd E q) 16 with h16 | h16
          · rw [rr_congr (Hx := H (e_xc E q) ++ ex) (Hy := H' (e_yc E q)) (Hx' := H (e_xc E q) ++ ex) (Hy' := [] ++ []) (fun _ => rfl) (fun _ => by omega), rr_congr (Hx := H (e_xc E q)) (Hy := H (e_yc E q)) (Hx' := H (e_xc E q)) (Hy' := []) (fun _ => rfl) (fun _ => by omega)]
            exact pr_ext (by omega) hcw.1 hcw.2 hcT (c4' q hq hb) hlx2 (c3' _ (by omega)) (by simp) x2 (by simp) (fun _ => by omega)
          · have hy := hk.2 h16
            obtain ⟨ey, y1, y2, y3⟩ := ih _ hy.2.1 (by omega)
            rw [y1]
            refine pr_ext (by omega) hcw.1 hcw.2 hcT (c4' q hq hb) hlx2 (c3' _ (by omega)) (c3' _ (by omega)) x2 y2 (fun h19 => ?_)
            by_cases hby : bg (e_yc E q) = true
            · obtain ⟨e, f1, f2⟩ := c5' q hq h19 hby
              exact Or.inr (x3 (so_fin f1 f2))
            · exact Or.inl (c2' _ (by omega) (by simpa using hby))
      rw [← hH', c1' q hq hb] at key
      exact key
    · have hb' : bg q = false := by simpa using hb
      rw [if_neg hb] at hR
      rw [c2' q hq hb']
      refine ⟨H' q, rfl, fun e he => ?_, fun hf => absurd hf (by decide)⟩
      rcases hR with w | ⟨_, fr, w1, w2⟩
      · exfalso
        rw [hS.2 q hq, ← w] at he
        simp [spv] at he
      · have := hMB q hq fr w1 e he
        omega
def wkf (E : Env) (B0 : Nat) (H : Nat → List Ev) : Nat → Nat → Option Nat
  | 0, _ => some B0
  | f + 1, q => if q + 1 < e_n E then (if 19 ≤ e_kd E (e_us E q) ∧ e_yc E (e_us E q) = q then lastm (e_kd E (e_us E q)) (H (e_xc E (e_us E q))) else wkf E B0 H f (e_us E q)) else some B0
theorem so_wkf1 {E : Env} {B0 : Nat} {H : Nat → List Ev} (hT : TR E) : ∀ (f q : Nat), e_n E - 1 - q ≤ f → wkf E B0 H (f + 1) q = wkf E B0 H f q := by
  intro f
  induction f with
  | zero =>
    intro q h
    show (if q + 1 < e_n E then _ else some B0) = some B0
    rw [if_neg (by omega)]
  | succ f ih =>
    intro q h
    show (if q + 1 < e_n E then (if 19 ≤ e_kd E (e_us E q) ∧ e_yc E (e_us E q) = q then _ else wkf E B0 H (f + 1) (e_us E q)) else some B0) = (if q + 1 < e_n E then (if 19 ≤ e_kd E (e_us E q) ∧ e_yc E (e_us E q) = q then _ else wkf E B0 H f (e_us E q)) else some B0)
    by_cases hr : q + 1 < e_n E
    · have h9 := hT.2.2.2.2.2.2.2.2.1 q hr
      rw [ih (e_us E q) (by omega)]
    · rw [if_neg hr, if_neg hr]
theorem so_wkf {E : Env} {B0 : Nat} {H : Nat → List Ev} (hT : TR E) : BF E B0 H (wkf E B0 H 9) := by
  have h9 := hT.2.2.1
  have hu : ∀ q, wkf E B0 H 9 q = (if q + 1 < e_n E then (if 19 ≤ e_kd E (e_us E q) ∧ e_yc E (e_us E q) = q then lastm (e_kd E (e_us E q)) (H (e_xc E (e_us E q))) else wkf E B0 H 8 (e_us E q)) else some B0) := fun q => rfl
  refine ⟨?_, fun q hq hc => ?_, fun q hq hc => ?_⟩
  · rw [hu, if_neg (by omega)]
  · rw [hu, if_pos hq, if_pos (show 19 ≤ e_kd E (e_us E q) ∧ e_yc E (e_us E q) = q from hc)]
  · rw [hu, if_pos hq, if_neg (show ¬ (19 ≤ e_kd E (e_us E q) ∧ e_yc E (e_us E q) = q) from hc)]
    exact (so_wkf1 hT 8 (e_us E q) (by omega)).symm
theorem so_cong {E : Env} {B0 t : Nat} {LG : List Lg} {H H' : Nat → List Ev} {q : Nat} (hT : TR E) (hq : q < e_n E) (h : ∀ r, r < q → H r = H' r) : spv E LG t H q (wkf E B0 H 9 q) = spv E LG t H' q (wkf E B0 H' 9 q) := by
  have e : wkf E B0 H 9 q = wkf E B0 H' 9 q := so_walk2 (R := fun x y => x = y) hT (so_wkf hT) (so_wkf hT) hq rfl (fun u hu h19 hx hqu => by rw [h _ hx])
  rw [e]
  have hk := so_kids hT (so_wkf (B0 := B0) (H := H) hT) hq
  cases wkf E B0 H' 9 q with
  | none => rfl
  | some fr =>
    show (RR (e_kd E q) (e_oa E q) (e_ob E q) q fr LG t (H (e_xc E q)) (H (e_yc E q))).2 = (RR (e_kd E q) (e_oa E q) (e_ob E q) q fr LG t (H' (e_xc E q)) (H' (e_yc E q))).2
    rw [rr_congr (fun h3 => h _ (hk.1 h3).1) (fun h16 => h _ (hk.2 h16).2.1)]
theorem so_exists (E : Env) (B0 t : Nat) (LG : List Lg) (hT : TR E) : ∃ H bf, SOL E B0 LG t H bf := by
  have main : ∀ m, m ≤ e_n E → ∃ H : Nat → List Ev, ∀ q, q < m → H q = spv E LG t H q (wkf E B0 H 9 q) := by
    intro m
    induction m with
    | zero => intro _; exact ⟨fun _ => [], fun q hq => by omega⟩
    | succ m ih =>
      intro hm
      obtain ⟨H, h⟩ := ih (by omega)
      refine ⟨fup H m (spv E LG t H m (wkf E B0 H 9 m)), fun q hq => ?_⟩
      have hag : ∀ r, r < m → H r = fup H m (spv E LG t H m (wkf E B0 H 9 m)) r := fun r hr => by rw [fu_n (by omega)]
      rw [← so_cong (H := H) hT (by omega) (fun r hr => hag r (by omega))]
      by_cases e : q = m
      · subst e; rw [fu_s]
      · rw [fu_n e]; exact h q (by omega)
  obtain ⟨H, h⟩ := main _ (Nat.le_refl _)
  exact ⟨H, wkf E B0 H 9, so_wkf hT, h⟩
end
