/-! ===== the reference: list ===== -/
def uss (k : Nat) : Nat := if k < 3 then 0 else if k < 16 then 1 else 2
section
variable {f_stages : Int32} {f_heard : Int32} {f_now : Int32} {f_calls : Int64} {f_parts : Int32} {f_start : Int64} {f_at : Int32} {f_nextX : Int32} {f_nextY : Int32} {f_x : Int32} {f_y : Int32} {a_kind : (Nat → Int32)} {a_opA : (Nat → Int32)} {a_opB : (Nat → Int32)} {a_heardBy : (Nat → Int32)} {a_what : (Nat → Int32)} {a_said : (Nat → Int32)} {a_when : (Nat → Int64)} {a_over : (Nat → Int32)} {a_part : (Nat → Int32)} {a_first : (Nat → Int32)} {a_second : (Nat → Int32)} {a_user : (Nat → Int32)} {a_goStage : (Nat → Int32)} {a_goStep : (Nat → Int32)} {a_done : (Nat → Int32)} {a_val : (Nat → Int32)} {a_mom : (Nat → Int64)} {a_cnt : (Nat → Int32)} {a_end : (Nat → Int32)} {a_endMom : (Nat → Int64)} {a_begun : (Nat → Int32)} {a_status : (Nat → Int32)} {a_stageOf : (Nat → Int32)} {a_began : (Nat → Int64)} {a_taken : (Nat → Int32)} {a_demand : (Nat → Int64)} {a_asked : (Nat → Int32)} {a_code : (Nat → Int32)} {a_waits : (Nat → Int32)} {a_waiting : (Nat → Int32)} {a_came : (Nat → Int32)} {a_given : (Nat → Int32)} {a_got : (Nat → Int64)}
theorem yv_head {post : Int32 → SY → Prop} {F n s st k : Nat} {x3 : Int32} (hn : 1 ≤ n) (hn2 : n ≤ 13) (hs : s < 12) (hst : st ≤ 3) (hgs : a_goStage (n - 1) = nI s) (hgt : a_goStep (n - 1) = nI st) (hk : a_kind s = nI k) (hk20 : k ≤ 20)
    (H : wY_list_87 post (wY_list_26 post f_stages f_heard f_now f_calls f_start f_at f_nextX f_nextY f_x f_y F) (nI n) x3 (nI s) (nI st) (nI (uss k)) f_stages f_heard f_now f_calls f_parts f_start f_at f_nextX f_nextY f_x f_y a_kind a_opA a_opB a_heardBy a_what a_said a_when a_over a_part a_first a_second a_user a_goStage (upd a_goStep (n - 1) (nI (st + 1))) a_done a_val a_mom a_cnt a_end a_endMom a_begun a_status a_stageOf a_began a_taken a_demand a_asked a_code a_waits a_waiting a_came a_given a_got) : wY_list_26 post f_stages f_heard f_now f_calls f_start f_at f_nextX f_nextY f_x f_y (F + 1) (nI n) x3 f_parts a_kind a_opA a_opB a_heardBy a_what a_said a_when a_over a_part a_first a_second a_user a_goStage a_goStep a_done a_val a_mom a_cnt a_end a_endMom a_begun a_status a_stageOf a_began a_taken a_demand a_asked a_code a_waits a_waiting a_came a_given a_got := by
  have e1 : nI n - 1 = nI (n - 1) := by rw [show (1 : Int32) = nI 1 from rfl, pk_sub hn]
  have hc1 : (nI n - 1).toNatClampNeg = n - 1 := by rw [e1]; exact nI_clamp (by omega)
  have hi1 : vp_in (nI n - 1) 40 := by rw [e1]; exact vp_in_nI (by omega) (by decide)
  have hcs : (nI s).toNatClampNeg = s := nI_clamp (by omega)
  have his : vp_in (nI s) 12 := vp_in_nI hs (by decide)
  refine br_f (nI_nle hn (by omega)) ⟨hi1, nm_r (e' := nI s) (by rw [hc1, hgs]) ⟨hi1, hi1, nm_r (e' := upd a_goStep (n - 1) (nI (st + 1))) (by rw [hc1, hgt, nI_1]) (nm_r (e' := nI st) (by rw [hc1, hgt]) ⟨his, ?_⟩)⟩⟩
  unfold uss at H
  rcases Nat.lt_or_ge k 3 with h3 | h3
  · rw [if_pos h3] at H
    exact br_f (by rw [hcs, hk]; exact nI_ge (b := 3) h3 (by decide)) H
  · rw [if_neg (by omega)] at H
    refine br_t (by rw [hcs, hk]; exact nI_le (a := 3) h3 (by omega)) ⟨his, ?_⟩
    rcases Nat.lt_or_ge k 16 with h16 | h16
    · rw [if_pos h16] at H
      exact br_f (by rw [hcs, hk]; exact nI_ge (b := 16) h16 (by decide)) H
    · rw [if_neg (by omega)] at H
      exact br_t (by rw [hcs, hk]; exact nI_le (a := 16) h16 (by omega)) H
theorem yv_push0 {post : Int32 → SY → Prop} {F n s c u : Nat} {x3 : Int32} (hn : n ≤ 13) (hs : s < 12) (hu : 1 ≤ u) (hu2 : u ≤ 2) (ho : a_opA s = nI c)
    (H : wY_list_26 post f_stages f_heard f_now f_calls f_start f_at f_nextX f_nextY f_x f_y F (nI (n + 1)) x3 f_parts a_kind a_opA a_opB a_heardBy a_what a_said a_when a_over a_part a_first a_second a_user (upd a_goStage n (nI c)) (upd a_goStep n 0) a_done a_val a_mom a_cnt a_end a_endMom a_begun a_status a_stageOf a_began a_taken a_demand a_asked a_code a_waits a_waiting a_came a_given a_got) : wY_list_87 post (wY_list_26 post f_stages f_heard f_now f_calls f_start f_at f_nextX f_nextY f_x f_y F) (nI n) x3 (nI s) (nI 0) (nI u) f_stages f_heard f_now f_calls f_parts f_start f_at f_nextX f_nextY f_x f_y a_kind a_opA a_opB a_heardBy a_what a_said a_when a_over a_part a_first a_second a_user a_goStage a_goStep a_done a_val a_mom a_cnt a_end a_endMom a_begun a_status a_stageOf a_began a_taken a_demand a_asked a_code a_waits a_waiting a_came a_given a_got := by
  have hcs : (nI s).toNatClampNeg = s := nI_clamp (by omega)
  have hcn : (nI n).toNatClampNeg = n := nI_clamp (by omega)
  have hin : vp_in (nI n) 40 := vp_in_nI (by omega) (by decide)
  refine br_f (nI_nle hu (by omega)) (br_t rfl ⟨vp_in_nI hs (by decide), ?_⟩)
  rw [hcs, ho]
  exact ⟨hin, nm_r (e' := upd a_goStage n (nI c)) (by rw [hcn]) (nm_r (nI_1 n) ⟨hin, nm_r (e' := upd a_goStep n 0) (by rw [hcn]) H⟩)⟩
theorem yv_push1 {post : Int32 → SY → Prop} {F n s c : Nat} {x3 : Int32} (hn : n ≤ 13) (hs : s < 12) (ho : a_opB s = nI c)
    (H : wY_list_26 post f_stages f_heard f_now f_calls f_start f_at f_nextX f_nextY f_x f_y F (nI (n + 1)) x3 f_parts a_kind a_opA a_opB a_heardBy a_what a_said a_when a_over a_part a_first a_second a_user (upd a_goStage n (nI c)) (upd a_goStep n 0) a_done a_val a_mom a_cnt a_end a_endMom a_begun a_status a_stageOf a_began a_taken a_demand a_asked a_code a_waits a_waiting a_came a_given a_got) : wY_list_87 post (wY_list_26 post f_stages f_heard f_now f_calls f_start f_at f_nextX f_nextY f_x f_y F) (nI n) x3 (nI s) (nI 1) (nI 2) f_stages f_heard f_now f_calls f_parts f_start f_at f_nextX f_nextY f_x f_y a_kind a_opA a_opB a_heardBy a_what a_said a_when a_over a_part a_first a_second a_user a_goStage a_goStep a_done a_val a_mom a_cnt a_end a_endMom a_begun a_status a_stageOf a_began a_taken a_demand a_asked a_code a_waits a_waiting a_came a_given a_got := by
  have hcs : (nI s).toNatClampNeg = s := nI_clamp (by omega)
  have hcn : (nI n).toNatClampNeg = n := nI_clamp (by omega)
  have hin : vp_in (nI n) 40 := vp_in_nI (by omega) (by decide)
  refine br_f (by decide) (br_f (by decide) ⟨vp_in_nI hs (by decide), ?_⟩)
  rw [hcs, ho]
  exact ⟨hin, nm_r (e' := upd a_goStage n (nI c)) (by rw [hcn]) (nm_r (nI_1 n) ⟨hin, nm_r (e' := upd a_goStep n 0) (by rw [hcn]) H⟩)⟩
theorem yv_fin0 {post : Int32 → SY → Prop} {F n m s b : Nat} (hn : 1 ≤ n) (hm : m ≤ 20) (hb : b ≤ 9) (hp : f_parts = nI b) (Kf : b = 9 → post 0 (f_stages, f_heard, f_now, f_calls, f_parts, f_start, f_at, f_nextX, f_nextY, f_x, f_y, a_kind, a_opA, a_opB, a_heardBy, a_what, a_said, a_when, a_over, a_part, a_first, a_second, a_user, a_goStage, a_goStep, a_done, a_val, a_mom, a_cnt, a_end, a_endMom, a_begun, a_status, a_stageOf, a_began, a_taken, a_demand, a_asked, a_code, a_waits, a_waiting, a_came, a_given, a_got))
    (H : b < 9 → wY_list_26 post f_stages f_heard f_now f_calls f_start f_at f_nextX f_nextY f_x f_y F (nI (n - 1)) (nI (m + 1)) (nI (b + 1)) a_kind a_opA a_opB a_heardBy a_what a_said a_when a_over (upd a_part b (nI s)) (upd a_first b (-1)) (upd a_second b (-1)) (upd a_user b (-1)) a_goStage a_goStep (upd a_done m (nI b)) a_val a_mom a_cnt a_end a_endMom a_begun a_status a_stageOf a_began a_taken a_demand a_asked a_code a_waits a_waiting a_came a_given a_got) : wY_list_87 post (wY_list_26 post f_stages f_heard f_now f_calls f_start f_at f_nextX f_nextY f_x f_y F) (nI n) (nI m) (nI s) (nI 0) (nI 0) f_stages f_heard f_now f_calls f_parts f_start f_at f_nextX f_nextY f_x f_y a_kind a_opA a_opB a_heardBy a_what a_said a_when a_over a_part a_first a_second a_user a_goStage a_goStep a_done a_val a_mom a_cnt a_end a_endMom a_begun a_status a_stageOf a_began a_taken a_demand a_asked a_code a_waits a_waiting a_came a_given a_got := by
  subst hp
  have hcb : (nI b).toNatClampNeg = b := nI_clamp (by omega)
  have hcm : (nI m).toNatClampNeg = m := nI_clamp (by omega)
  have hinm : vp_in (nI m) 40 := vp_in_nI (by omega) (by decide)
  refine br_t (by decide) ?_
  by_cases h9 : b = 9
  · exact br_t (by rw [h9]; rfl) (Kf h9)
  · have hin : vp_in (nI b) 9 := vp_in_nI (by omega) (by decide)
    refine br_f (by rw [show (9 : Int32) = nI 9 from rfl, nI_eq (by omega) (by decide)]; exact h9) (nm_r (sb_m1 hn) (nm_r (nI_1 b) ⟨hin, nm_r (e' := upd a_part b (nI s)) (by rw [hcb]) (br_t (by decide) ⟨hin, nm_r (e' := upd a_second b (-1)) (by rw [hcb]) (br_t (by decide) ⟨hin, nm_r (e' := upd a_first b (-1)) (by rw [hcb]) ⟨hin, nm_r (e' := upd a_user b (-1)) (by rw [hcb]) (br_t (by decide) (br_t (by decide) (nm_r (nI_1 m) ⟨hinm, nm_r (e' := upd a_done m (nI b)) (by rw [hcm]) (H (by omega))⟩)))⟩⟩)⟩)⟩))
theorem yv_fin1 {post : Int32 → SY → Prop} {F n m s b x : Nat} (hn : 1 ≤ n) (hm : m ≤ 20) (hb : b ≤ 9) (hx : x < 9) (hp : f_parts = nI b) (hdn : a_done m = nI x) (Kf : b = 9 → post 0 (f_stages, f_heard, f_now, f_calls, f_parts, f_start, f_at, f_nextX, f_nextY, f_x, f_y, a_kind, a_opA, a_opB, a_heardBy, a_what, a_said, a_when, a_over, a_part, a_first, a_second, a_user, a_goStage, a_goStep, a_done, a_val, a_mom, a_cnt, a_end, a_endMom, a_begun, a_status, a_stageOf, a_began, a_taken, a_demand, a_asked, a_code, a_waits, a_waiting, a_came, a_given, a_got))
    (H : b < 9 → wY_list_26 post f_stages f_heard f_now f_calls f_start f_at f_nextX f_nextY f_x f_y F (nI (n - 1)) (nI (m + 1)) (nI (b + 1)) a_kind a_opA a_opB a_heardBy a_what a_said a_when a_over (upd a_part b (nI s)) (upd a_first b (nI x)) (upd a_second b (-1)) (upd (upd a_user b (-1)) x (nI b)) a_goStage a_goStep (upd a_done m (nI b)) a_val a_mom a_cnt a_end a_endMom a_begun a_status a_stageOf a_began a_taken a_demand a_asked a_code a_waits a_waiting a_came a_given a_got) : wY_list_87 post (wY_list_26 post f_stages f_heard f_now f_calls f_start f_at f_nextX f_nextY f_x f_y F) (nI n) (nI (m + 1)) (nI s) (nI 1) (nI 1) f_stages f_heard f_now f_calls f_parts f_start f_at f_nextX f_nextY f_x f_y a_kind a_opA a_opB a_heardBy a_what a_said a_when a_over a_part a_first a_second a_user a_goStage a_goStep a_done a_val a_mom a_cnt a_end a_endMom a_begun a_status a_stageOf a_began a_taken a_demand a_asked a_code a_waits a_waiting a_came a_given a_got := by
  subst hp
  have hcb : (nI b).toNatClampNeg = b := nI_clamp (by omega)
  have hcm : (nI m).toNatClampNeg = m := nI_clamp (by omega)
  have hinm : vp_in (nI m) 40 := vp_in_nI (by omega) (by decide)
  refine br_t (by decide) ?_
  by_cases h9 : b = 9
  · exact br_t (by rw [h9]; rfl) (Kf h9)
  · have hin : vp_in (nI b) 9 := vp_in_nI (by omega) (by decide)
    have hf : upd a_first b (nI x) (nI b).toNatClampNeg = nI x := by rw [hcb, pk_us]
    refine br_f (by rw [show (9 : Int32) = nI 9 from rfl, nI_eq (by omega) (by decide)]; exact h9) (nm_r (sb_m1 hn) (nm_r (nI_1 b) ⟨hin, nm_r (e' := upd a_part b (nI s)) (by rw [hcb]) (br_t (by decide) ⟨hin, nm_r (e' := upd a_second b (-1)) (by rw [hcb]) (br_f (by decide) (nm_r (pk_m1 m) ⟨hinm, hin, nm_r (e' := upd a_first b (nI x)) (by rw [hcb, hcm, hdn]) ⟨hin, nm_r (e' := upd a_user b (-1)) (by rw [hcb]) (br_f (by decide) ⟨hin, by rw [hf]; exact vp_in_nI hx (by decide), nm_r (e' := upd (upd a_user b (-1)) x (nI b)) (by rw [hf, nI_clamp (by omega)]) (br_t (by decide) (nm_r (nI_1 m) ⟨hinm, nm_r (e' := upd a_done m (nI b)) (by rw [hcm]) (H (by omega))⟩))⟩)⟩⟩))⟩)⟩))
theorem yv_fin2 {post : Int32 → SY → Prop} {F n m s b x y : Nat} (hn : 1 ≤ n) (hm : m ≤ 20) (hb : b ≤ 9) (hx : x < 9) (hy : y < 9) (hp : f_parts = nI b) (hdn : a_done m = nI x) (hdn2 : a_done (m + 1) = nI y) (Kf : b = 9 → post 0 (f_stages, f_heard, f_now, f_calls, f_parts, f_start, f_at, f_nextX, f_nextY, f_x, f_y, a_kind, a_opA, a_opB, a_heardBy, a_what, a_said, a_when, a_over, a_part, a_first, a_second, a_user, a_goStage, a_goStep, a_done, a_val, a_mom, a_cnt, a_end, a_endMom, a_begun, a_status, a_stageOf, a_began, a_taken, a_demand, a_asked, a_code, a_waits, a_waiting, a_came, a_given, a_got))
    (H : b < 9 → wY_list_26 post f_stages f_heard f_now f_calls f_start f_at f_nextX f_nextY f_x f_y F (nI (n - 1)) (nI (m + 1)) (nI (b + 1)) a_kind a_opA a_opB a_heardBy a_what a_said a_when a_over (upd a_part b (nI s)) (upd a_first b (nI x)) (upd a_second b (nI y)) (upd (upd (upd a_user b (-1)) x (nI b)) y (nI b)) a_goStage a_goStep (upd a_done m (nI b)) a_val a_mom a_cnt a_end a_endMom a_begun a_status a_stageOf a_began a_taken a_demand a_asked a_code a_waits a_waiting a_came a_given a_got) : wY_list_87 post (wY_list_26 post f_stages f_heard f_now f_calls f_start f_at f_nextX f_nextY f_x f_y F) (nI n) (nI (m + 2)) (nI s) (nI 2) (nI 2) f_stages f_heard f_now f_calls f_parts f_start f_at f_nextX f_nextY f_x f_y a_kind a_opA a_opB a_heardBy a_what a_said a_when a_over a_part a_first a_second a_user a_goStage a_goStep a_done a_val a_mom a_cnt a_end a_endMom a_begun a_status a_stageOf a_began a_taken a_demand a_asked a_code a_waits a_waiting a_came a_given a_got := by
  subst hp
  have hcb : (nI b).toNatClampNeg = b := nI_clamp (by omega)
  have hcm : (nI m).toNatClampNeg = m := nI_clamp (by omega)
  have hcm1 : (nI (m + 1)).toNatClampNeg = m + 1 := nI_clamp (by omega)
  have hinm : vp_in (nI m) 40 := vp_in_nI (by omega) (by decide)
  have hinm1 : vp_in (nI (m + 1)) 40 := vp_in_nI (by omega) (by decide)
  refine br_t (by decide) ?_
  by_cases h9 : b = 9
  · exact br_t (by rw [h9]; rfl) (Kf h9)
  · have hin : vp_in (nI b) 9 := vp_in_nI (by omega) (by decide)
    have hf : upd a_first b (nI x) (nI b).toNatClampNeg = nI x := by rw [hcb, pk_us]
    have hs2 : upd a_second b (nI y) (nI b).toNatClampNeg = nI y := by rw [hcb, pk_us]
    refine br_f (by rw [show (9 : Int32) = nI 9 from rfl, nI_eq (by omega) (by decide)]; exact h9) (nm_r (sb_m1 hn) (nm_r (nI_1 b) ⟨hin, nm_r (e' := upd a_part b (nI s)) (by rw [hcb]) (br_f (by decide) (nm_r (pk_m1 (m + 1)) ⟨hinm1, hin, nm_r (e' := upd a_second b (nI y)) (by rw [hcb, hcm1, hdn2]) (br_f (by decide) (nm_r (pk_m1 m) ⟨hinm, hin, nm_r (e' := upd a_first b (nI x)) (by rw [hcb, hcm, hdn]) ⟨hin, nm_r (e' := upd a_user b (-1)) (by rw [hcb]) (br_f (by decide) ⟨hin, by rw [hf]; exact vp_in_nI hx (by decide), nm_r (e' := upd (upd a_user b (-1)) x (nI b)) (by rw [hf, nI_clamp (by omega)]) (br_f (by decide) ⟨hin, by rw [hs2]; exact vp_in_nI hy (by decide), nm_r (e' := upd (upd (upd a_user b (-1)) x (nI b)) y (nI b)) (by rw [hs2, nI_clamp (by omega)]) (nm_r (nI_1 m) ⟨hinm, nm_r (e' := upd a_done m (nI b)) (by rw [hcm]) (H (by omega))⟩)⟩)⟩)⟩⟩))⟩))⟩))
/-- the parts b .. of stage s as the reference lists them -/
def LRes (K A B sg us : Nat → Nat) (b s : Nat) (pa fi1 se uu : Nat → Int32) : Prop :=
  ∀ p, b ≤ p → p < b + sz K A B s → pa p = nI (sg p) ∧ (3 ≤ K (sg p) → fi1 p = nI (xcf K A B sg p)) ∧ (16 ≤ K (sg p) → se p = nI (p - 1)) ∧ uu p = (if p + 1 = b + sz K A B s then -1 else nI (us p))
theorem yv_list {post : Int32 → SY → Prop} {ns : Nat} {K A B sg us : Nat → Nat} (hTB : TB K A B ns) (htab : ∀ σ, σ < ns → a_kind σ = nI (K σ) ∧ (3 ≤ K σ → a_opA σ = nI (A σ)) ∧ (16 ≤ K σ → a_opB σ = nI (B σ)))
    {N : Nat} (Kf : 9 < N → ∀ pp pa fi1 se uu gs gt dn, post 0 (f_stages, f_heard, f_now, f_calls, pp, f_start, f_at, f_nextX, f_nextY, f_x, f_y, a_kind, a_opA, a_opB, a_heardBy, a_what, a_said, a_when, a_over, pa, fi1, se, uu, gs, gt, dn, a_val, a_mom, a_cnt, a_end, a_endMom, a_begun, a_status, a_stageOf, a_began, a_taken, a_demand, a_asked, a_code, a_waits, a_waiting, a_came, a_given, a_got)) :
    ∀ (f s n m b F : Nat) (pa fi1 se uu gs gt dn : Nat → Int32), b + sz K A B s ≤ N → LYf K A B sg us f b s → s < ns → 1 ≤ n → n + s ≤ 12 → m + 1 ≤ n → b ≤ 9 → gs (n - 1) = nI s → gt (n - 1) = 0 →
      (b + sz K A B s ≤ 9 → ∀ pa' fi' se' uu' gs' gt' dn' : Nat → Int32, LRes K A B sg us b s pa' fi' se' uu' → (∀ p, p < b → pa' p = pa p ∧ fi' p = fi1 p ∧ se' p = se p ∧ uu' p = uu p) → (∀ i, i + 1 < n → gs' i = gs i ∧ gt' i = gt i) → (∀ i, i < m → dn' i = dn i) → dn' m = nI (b + sz K A B s - 1) → wY_list_26 post f_stages f_heard f_now f_calls f_start f_at f_nextX f_nextY f_x f_y F (nI (n - 1)) (nI (m + 1)) (nI (b + sz K A B s)) a_kind a_opA a_opB a_heardBy a_what a_said a_when a_over (pa') (fi') (se') (uu') (gs') (gt') (dn') a_val a_mom a_cnt a_end a_endMom a_begun a_status a_stageOf a_began a_taken a_demand a_asked a_code a_waits a_waiting a_came a_given a_got) →
      wY_list_26 post f_stages f_heard f_now f_calls f_start f_at f_nextX f_nextY f_x f_y (F + (2 * sz K A B s - 1)) (nI n) (nI m) (nI b) a_kind a_opA a_opB a_heardBy a_what a_said a_when a_over (pa) (fi1) (se) (uu) (gs) (gt) (dn) a_val a_mom a_cnt a_end a_endMom a_begun a_status a_stageOf a_began a_taken a_demand a_asked a_code a_waits a_waiting a_came a_given a_got := by
  intro f
  induction f with
  | zero => intro s n m b F pa fi1 se uu gs gt dn hN hly; exact absurd hly (by intro z; exact z)
  | succ f ih =>
    intro s n m b F pa fi1 se uu gs gt dn hN hly hs hn hns hm hb hgs hgt Kk
    obtain ⟨y1, y2, y3⟩ := hly
    obtain ⟨k1, k2, k3⟩ := htab s hs
    have hb2 := hTB.2 s hs
    have h12 := hTB.1
    have hpos := tr_pos hTB hs
    rcases Nat.lt_or_ge (K s) 3 with h3 | h3
    · have e1 := tr_sz3 hTB hs h3
      have eF : F + (2 * sz K A B s - 1) = F + 1 := by omega
      rw [eF]
      have hsg : sg b = s := by rw [e1] at y1; exact y1
      refine yv_head (f_parts := nI b) (a_part := pa) (a_first := fi1) (a_second := se) (a_user := uu) (a_goStage := gs) (a_goStep := gt) (a_done := dn) (s := s) (st := 0) (k := K s) hn (by omega) (by omega) (by decide) hgs hgt k1 hb2.1 ?_
      rw [show uss (K s) = 0 from if_pos h3]
      refine yv_fin0 (a_part := pa) (a_first := fi1) (a_second := se) (a_user := uu) (a_goStage := gs) (a_goStep := upd gt (n - 1) (nI (0 + 1))) (a_done := dn) hn (by omega) hb rfl (fun h0 => Kf (by omega) _ _ _ _ _ _ _ _) (fun h9 => ?_)
      have hK := Kk (by omega) (upd pa b (nI s)) (upd fi1 b (-1)) (upd se b (-1)) (upd uu b (-1)) gs (upd gt (n - 1) (nI (0 + 1))) (upd dn m (nI b)) (fun p p1 p2 => ?_) (fun p hp => ⟨pk_un (by omega), pk_un (by omega), pk_un (by omega), pk_un (by omega)⟩) (fun i hi => ⟨rfl, pk_un (by omega)⟩) (fun i hi => pk_un (by omega)) (by rw [pk_us, e1]; rfl)
      · rw [e1] at hK; exact hK
      · have : p = b := by omega
        subst this
        rw [hsg]
        exact ⟨pk_us, fun z => by omega, fun z => by omega, by rw [pk_us, if_pos (by omega)]⟩
    · obtain ⟨ya, yb⟩ := y2 h3
      have ha := hb2.2.1 h3
      have han : A s < ns := by omega
      have pa1 := tr_pos hTB han
      rcases Nat.lt_or_ge (K s) 16 with h16 | h16
      · have e1 := tr_sz1 hTB hs h3 h16
        have eF : F + (2 * sz K A B s - 1) = ((F + 1) + (2 * sz K A B (A s) - 1)) + 1 := by omega
        rw [eF]
        have hu1 : uss (K s) = 1 := by unfold uss; rw [if_neg (by omega), if_pos h16]
        refine yv_head (f_parts := nI b) (a_part := pa) (a_first := fi1) (a_second := se) (a_user := uu) (a_goStage := gs) (a_goStep := gt) (a_done := dn) (s := s) (st := 0) (k := K s) hn (by omega) (by omega) (by decide) hgs hgt k1 hb2.1 ?_
        rw [hu1]
        refine yv_push0 (f_parts := nI b) (a_part := pa) (a_first := fi1) (a_second := se) (a_user := uu) (a_goStage := gs) (a_goStep := upd gt (n - 1) (nI (0 + 1))) (a_done := dn) (by omega) (by omega) (by decide) (by decide) (k2 h3) ?_
        refine ih (A s) (n + 1) m b (F + 1) pa fi1 se uu _ _ dn (by omega) ya han (by omega) (by omega) (by omega) hb (by rw [Nat.add_sub_cancel, pk_us]) (by rw [Nat.add_sub_cancel, pk_us]) (fun h9a pa' fi' se' uu' gs' gt' dn' r1 r2 r3 r4 r5 => ?_)
        rw [Nat.add_sub_cancel]
        have g1 := r3 (n - 1) (by omega)
        rw [pk_un (show n - 1 ≠ n by omega), pk_un (show n - 1 ≠ n by omega), pk_us] at g1
        refine yv_head (f_parts := nI (b + sz K A B (A s))) (a_part := pa') (a_first := fi') (a_second := se') (a_user := uu') (a_goStage := gs') (a_goStep := gt') (a_done := dn') (s := s) (st := 1) (k := K s) hn (by omega) (by omega) (by decide) (g1.1.trans hgs) g1.2 k1 hb2.1 ?_
        rw [hu1]
        refine yv_fin1 (f_parts := nI (b + sz K A B (A s))) (a_part := pa') (a_first := fi') (a_second := se') (a_user := uu') (a_goStage := gs') (a_goStep := upd gt' (n - 1) (nI (1 + 1))) (a_done := dn') (x := b + sz K A B (A s) - 1) hn (by omega) h9a (by omega) rfl r5 (fun h0 => Kf (by omega) _ _ _ _ _ _ _ _) (fun h9 => ?_)
        have er : sg (b + sz K A B (A s)) = s := by
          rw [show b + sz K A B (A s) = b + sz K A B s - 1 from by omega]; exact y1
        have exr : xcf K A B sg (b + sz K A B (A s)) = b + sz K A B (A s) - 1 := by unfold xcf; rw [er, if_pos h16]
        have hK := Kk (by omega) (upd pa' (b + sz K A B (A s)) (nI s)) (upd fi' (b + sz K A B (A s)) (nI (b + sz K A B (A s) - 1))) (upd se' (b + sz K A B (A s)) (-1)) (upd (upd uu' (b + sz K A B (A s)) (-1)) (b + sz K A B (A s) - 1) (nI (b + sz K A B (A s)))) gs' (upd gt' (n - 1) (nI (1 + 1))) (upd dn' m (nI (b + sz K A B (A s)))) (fun p p1 p2 => ?_) (fun p hp => ?_) (fun i hi => ?_) (fun i hi => ?_) (by rw [pk_us]; congr 1; omega)
        · rw [show b + sz K A B s = b + sz K A B (A s) + 1 from by omega] at hK
          exact hK
        · by_cases hpr : p = b + sz K A B (A s)
          · subst hpr
            rw [er, exr]
            refine ⟨pk_us, fun _ => pk_us, fun z => by omega, ?_⟩
            rw [pk_un (by omega), pk_us, if_pos (by omega)]
          · obtain ⟨q1, q2, q3, q4⟩ := r1 p p1 (by omega)
            refine ⟨by rw [pk_un hpr]; exact q1, fun z => by rw [pk_un hpr]; exact q2 z, fun z => by rw [pk_un hpr]; exact q3 z, ?_⟩
            rw [if_neg (by omega)]
            by_cases hpx : p = b + sz K A B (A s) - 1
            · subst hpx
              rw [pk_us, yb]; congr 1; omega
            · rw [pk_un hpx, pk_un hpr, q4, if_neg (by omega)]
        · have := r2 p hp
          rw [pk_un (by omega), pk_un (by omega), pk_un (by omega), pk_un (by omega), pk_un (by omega)]
          exact this
        · have := r3 i (by omega)
          rw [pk_un (show i ≠ n by omega), pk_un (show i ≠ n by omega), pk_un (show i ≠ n - 1 by omega)] at this
          exact ⟨this.1, by rw [pk_un (by omega)]; exact this.2⟩
        · rw [pk_un (by omega)]; exact r4 i hi
      · have e1 := tr_sz2 hTB hs h16
        have hbb := hb2.2.2 h16
        have hbn : B s < ns := by omega
        have pb1 := tr_pos hTB hbn
        obtain ⟨za, zb⟩ := y3 h16
        have eF : F + (2 * sz K A B s - 1) = (((F + 1) + (2 * sz K A B (B s) - 1) + 1) + (2 * sz K A B (A s) - 1)) + 1 := by omega
        rw [eF]
        have hu1 : uss (K s) = 2 := by unfold uss; rw [if_neg (by omega), if_neg (by omega)]
        refine yv_head (f_parts := nI b) (a_part := pa) (a_first := fi1) (a_second := se) (a_user := uu) (a_goStage := gs) (a_goStep := gt) (a_done := dn) (s := s) (st := 0) (k := K s) hn (by omega) (by omega) (by decide) hgs hgt k1 hb2.1 ?_
        rw [hu1]
        refine yv_push0 (f_parts := nI b) (a_part := pa) (a_first := fi1) (a_second := se) (a_user := uu) (a_goStage := gs) (a_goStep := upd gt (n - 1) (nI (0 + 1))) (a_done := dn) (by omega) (by omega) (by decide) (by decide) (k2 h3) ?_
        refine ih (A s) (n + 1) m b _ pa fi1 se uu _ _ dn (by omega) ya han (by omega) (by omega) (by omega) hb (by rw [Nat.add_sub_cancel, pk_us]) (by rw [Nat.add_sub_cancel, pk_us]) (fun h9a pa' fi' se' uu' gs' gt' dn' r1 r2 r3 r4 r5 => ?_)
        rw [Nat.add_sub_cancel]
        have g1 := r3 (n - 1) (by omega)
        rw [pk_un (show n - 1 ≠ n by omega), pk_un (show n - 1 ≠ n by omega), pk_us] at g1
        refine yv_head (f_parts := nI (b + sz K A B (A s))) (a_part := pa') (a_first := fi') (a_second := se') (a_user := uu') (a_goStage := gs') (a_goStep := gt') (a_done := dn') (s := s) (st := 1) (k := K s) hn (by omega) (by omega) (by decide) (g1.1.trans hgs) g1.2 k1 hb2.1 ?_
        rw [hu1]
        refine yv_push1 (f_parts := nI (b + sz K A B (A s))) (a_part := pa') (a_first := fi') (a_second := se') (a_user := uu') (a_goStage := gs') (a_goStep := upd gt' (n - 1) (nI (1 + 1))) (a_done := dn') (by omega) (by omega) (k3 h16) ?_
        refine ih (B s) (n + 1) (m + 1) (b + sz K A B (A s)) (F + 1) pa' fi' se' uu' _ _ dn' (by omega) za hbn (by omega) (by omega) (by omega) h9a (by rw [Nat.add_sub_cancel, pk_us]) (by rw [Nat.add_sub_cancel, pk_us]) (fun h9b pa2 fi2 se2 uu2 gs2 gt2 dn2 w1 w2 w3 w4 w5 => ?_)
        rw [Nat.add_sub_cancel]
        have g2 := w3 (n - 1) (by omega)
        rw [pk_un (show n - 1 ≠ n by omega), pk_un (show n - 1 ≠ n by omega), pk_us] at g2
        have d1 : dn2 m = nI (b + sz K A B (A s) - 1) := (w4 m (by omega)).trans r5
        refine yv_head (f_parts := nI (b + sz K A B (A s) + sz K A B (B s))) (a_part := pa2) (a_first := fi2) (a_second := se2) (a_user := uu2) (a_goStage := gs2) (a_goStep := gt2) (a_done := dn2) (s := s) (st := 2) (k := K s) hn (by omega) (by omega) (by decide) (g2.1.trans (g1.1.trans hgs)) g2.2 k1 hb2.1 ?_
        rw [hu1]
        refine yv_fin2 (f_parts := nI (b + sz K A B (A s) + sz K A B (B s))) (a_part := pa2) (a_first := fi2) (a_second := se2) (a_user := uu2) (a_goStage := gs2) (a_goStep := upd gt2 (n - 1) (nI (2 + 1))) (a_done := dn2) (m := m) (x := b + sz K A B (A s) - 1) (y := b + sz K A B (A s) + sz K A B (B s) - 1) hn (by omega) h9b (by omega) (by omega) rfl d1 w5 (fun h0 => Kf (by omega) _ _ _ _ _ _ _ _) (fun h9 => ?_)
        have er : sg (b + sz K A B (A s) + sz K A B (B s)) = s := by
          rw [show b + sz K A B (A s) + sz K A B (B s) = b + sz K A B s - 1 from by omega]; exact y1
        have exr : xcf K A B sg (b + sz K A B (A s) + sz K A B (B s)) = b + sz K A B (A s) - 1 := by unfold xcf; rw [er, if_neg (by omega)]; omega
        have hK := Kk (by omega) (upd pa2 (b + sz K A B (A s) + sz K A B (B s)) (nI s)) (upd fi2 (b + sz K A B (A s) + sz K A B (B s)) (nI (b + sz K A B (A s) - 1))) (upd se2 (b + sz K A B (A s) + sz K A B (B s)) (nI (b + sz K A B (A s) + sz K A B (B s) - 1))) (upd (upd (upd uu2 (b + sz K A B (A s) + sz K A B (B s)) (-1)) (b + sz K A B (A s) - 1) (nI (b + sz K A B (A s) + sz K A B (B s)))) (b + sz K A B (A s) + sz K A B (B s) - 1) (nI (b + sz K A B (A s) + sz K A B (B s)))) gs2 (upd gt2 (n - 1) (nI (2 + 1))) (upd dn2 m (nI (b + sz K A B (A s) + sz K A B (B s)))) (fun p p1 p2 => ?_) (fun p hp => ?_) (fun i hi => ?_) (fun i hi => ?_) (by rw [pk_us]; congr 1; omega)
        · rw [show b + sz K A B s = b + sz K A B (A s) + sz K A B (B s) + 1 from by omega] at hK
          exact hK
        · by_cases hpr : p = b + sz K A B (A s) + sz K A B (B s)
          · subst hpr
            rw [er, exr]
            refine ⟨pk_us, fun _ => pk_us, fun _ => pk_us, ?_⟩
            rw [pk_un (by omega), pk_un (by omega), pk_us, if_pos (by omega)]
          · have hall : pa2 p = nI (sg p) ∧ (3 ≤ K (sg p) → fi2 p = nI (xcf K A B sg p)) ∧ (16 ≤ K (sg p) → se2 p = nI (p - 1)) ∧ (p ≠ b + sz K A B (A s) - 1 → p ≠ b + sz K A B (A s) + sz K A B (B s) - 1 → uu2 p = nI (us p)) := by
              rcases Nat.lt_or_ge p (b + sz K A B (A s)) with z | z
              · obtain ⟨q1, q2, q3, q4⟩ := r1 p p1 z
                obtain ⟨v1, v2, v3, v4⟩ := w2 p z
                exact ⟨v1.trans q1, fun k => v2.trans (q2 k), fun k => v3.trans (q3 k), fun k _ => by rw [v4, q4, if_neg (by omega)]⟩
              · obtain ⟨q1, q2, q3, q4⟩ := w1 p z (by omega)
                exact ⟨q1, q2, q3, fun _ k => by rw [q4, if_neg (by omega)]⟩
            obtain ⟨q1, q2, q3, q4⟩ := hall
            refine ⟨by rw [pk_un hpr]; exact q1, fun z => by rw [pk_un hpr]; exact q2 z, fun z => by rw [pk_un hpr]; exact q3 z, ?_⟩
            rw [if_neg (by omega)]
            by_cases hpy : p = b + sz K A B (A s) + sz K A B (B s) - 1
            · rw [hpy, pk_us]
              have : us (b + sz K A B (A s) + sz K A B (B s) - 1) = b + sz K A B (A s) + sz K A B (B s) := by
                rw [show b + sz K A B (A s) + sz K A B (B s) - 1 = b + sz K A B s - 2 from by omega, zb]; omega
              rw [this]
            · rw [pk_un hpy]
              by_cases hpx : p = b + sz K A B (A s) - 1
              · rw [hpx, pk_us, yb]; congr 1; omega
              · rw [pk_un hpx, pk_un hpr]; exact q4 hpx hpy
        · have h1 := r2 p hp
          have h2 := w2 p (by omega)
          rw [pk_un (by omega), pk_un (by omega), pk_un (by omega), pk_un (by omega), pk_un (by omega), pk_un (by omega)]
          exact ⟨h2.1.trans h1.1, h2.2.1.trans h1.2.1, h2.2.2.1.trans h1.2.2.1, h2.2.2.2.trans h1.2.2.2⟩
        · have h1 := r3 i (by omega)
          rw [pk_un (show i ≠ n by omega), pk_un (show i ≠ n by omega), pk_un (show i ≠ n - 1 by omega)] at h1
          have h2 := w3 i (by omega)
          rw [pk_un (show i ≠ n by omega), pk_un (show i ≠ n by omega), pk_un (show i ≠ n - 1 by omega)] at h2
          exact ⟨h2.1.trans h1.1, by rw [pk_un (by omega)]; exact h2.2.trans h1.2⟩
        · rw [pk_un (by omega)]; exact (w4 i (by omega)).trans (r4 i hi)
theorem yv_whole {post : Int32 → SY → Prop} {ns s f : Nat} {K A B sg us : Nat → Nat} (hTB : TB K A B ns) (htab : ∀ σ, σ < ns → a_kind σ = nI (K σ) ∧ (3 ≤ K σ → a_opA σ = nI (A σ)) ∧ (16 ≤ K σ → a_opB σ = nI (B σ))) (hs : s < ns) (hL : LYf K A B sg us f 0 s)
    (Kf : 9 < sz K A B s → ∀ pp pa fi1 se uu gs gt dn, post 0 (f_stages, f_heard, f_now, f_calls, pp, f_start, f_at, f_nextX, f_nextY, f_x, f_y, a_kind, a_opA, a_opB, a_heardBy, a_what, a_said, a_when, a_over, pa, fi1, se, uu, gs, gt, dn, a_val, a_mom, a_cnt, a_end, a_endMom, a_begun, a_status, a_stageOf, a_began, a_taken, a_demand, a_asked, a_code, a_waits, a_waiting, a_came, a_given, a_got))
    (Kk : sz K A B s ≤ 9 → ∀ pa' fi' se' uu' gs' gt' dn' : Nat → Int32, LRes K A B sg us 0 s pa' fi' se' uu' → post 1 (f_stages, f_heard, f_now, f_calls, nI (sz K A B s), f_start, f_at, f_nextX, f_nextY, f_x, f_y, a_kind, a_opA, a_opB, a_heardBy, a_what, a_said, a_when, a_over, pa', fi', se', uu', gs', gt', dn', a_val, a_mom, a_cnt, a_end, a_endMom, a_begun, a_status, a_stageOf, a_began, a_taken, a_demand, a_asked, a_code, a_waits, a_waiting, a_came, a_given, a_got)) : wpY_list post (f_stages, f_heard, f_now, f_calls, f_parts, f_start, f_at, f_nextX, f_nextY, f_x, f_y, a_kind, a_opA, a_opB, a_heardBy, a_what, a_said, a_when, a_over, a_part, a_first, a_second, a_user, a_goStage, a_goStep, a_done, a_val, a_mom, a_cnt, a_end, a_endMom, a_begun, a_status, a_stageOf, a_began, a_taken, a_demand, a_asked, a_code, a_waits, a_waiting, a_came, a_given, a_got) (nI s) := by
  have h12 := hTB.1
  refine nm_e (nm_e (nm_e ⟨1 + (2 * sz K A B s - 1), ?_⟩))
  have := yv_list (post := post) (f_stages := f_stages) (f_heard := f_heard) (f_now := f_now) (f_calls := f_calls) (f_start := f_start) (f_at := f_at) (f_nextX := f_nextX) (f_nextY := f_nextY) (f_x := f_x) (f_y := f_y) hTB htab (N := sz K A B s) Kf f s 1 0 0 1 a_part a_first a_second a_user (upd a_goStage 0 (nI s)) (upd a_goStep 0 0) a_done (by omega) hL hs (by decide) (by omega) (by decide) (by decide) pk_us pk_us (fun h9 pa' fi' se' uu' gs' gt' dn' r1 r2 r3 r4 r5 => ?_)
  · exact this
  · have h9' : sz K A B s ≤ 9 := by omega
    have hk := Kk h9' pa' fi' se' uu' gs' gt' dn' r1
    rw [← Nat.zero_add (sz K A B s)] at hk
    exact br_t (by decide) hk
end
