/-! ===== calls with go: advance, send ===== -/
def y_sub (v : SY) := (y_status v, y_code v, y_demand v, y_waits v, y_waiting v, y_came v, y_given v, y_got v, y_taken v, y_asked v, y_stageOf v, y_began v)
def y_tab (v : SY) := (y_stages v, y_kind v, y_opA v, y_opB v)
def y_log (v : SY) := (y_heardBy v, y_what v, y_said v, y_when v)
section
variable {f_stages : Int32} {f_heard : Int32} {f_now : Int32} {f_calls : Int64} {f_parts : Int32} {f_start : Int64} {f_at : Int32} {f_nextX : Int32} {f_nextY : Int32} {f_x : Int32} {f_y : Int32} {a_kind : (Nat → Int32)} {a_opA : (Nat → Int32)} {a_opB : (Nat → Int32)} {a_heardBy : (Nat → Int32)} {a_what : (Nat → Int32)} {a_said : (Nat → Int32)} {a_when : (Nat → Int64)} {a_over : (Nat → Int32)} {a_part : (Nat → Int32)} {a_first : (Nat → Int32)} {a_second : (Nat → Int32)} {a_user : (Nat → Int32)} {a_goStage : (Nat → Int32)} {a_goStep : (Nat → Int32)} {a_done : (Nat → Int32)} {a_val : (Nat → Int32)} {a_mom : (Nat → Int64)} {a_cnt : (Nat → Int32)} {a_end : (Nat → Int32)} {a_endMom : (Nat → Int64)} {a_begun : (Nat → Int32)} {a_status : (Nat → Int32)} {a_stageOf : (Nat → Int32)} {a_began : (Nat → Int64)} {a_taken : (Nat → Int32)} {a_demand : (Nat → Int64)} {a_asked : (Nat → Int32)} {a_code : (Nat → Int32)} {a_waits : (Nat → Int32)} {a_waiting : (Nat → Int32)} {a_came : (Nat → Int32)} {a_given : (Nat → Int32)} {a_got : (Nat → Int64)}
theorem ye_sub : y_sub (f_stages, f_heard, f_now, f_calls, f_parts, f_start, f_at, f_nextX, f_nextY, f_x, f_y, a_kind, a_opA, a_opB, a_heardBy, a_what, a_said, a_when, a_over, a_part, a_first, a_second, a_user, a_goStage, a_goStep, a_done, a_val, a_mom, a_cnt, a_end, a_endMom, a_begun, a_status, a_stageOf, a_began, a_taken, a_demand, a_asked, a_code, a_waits, a_waiting, a_came, a_given, a_got) = (a_status, a_code, a_demand, a_waits, a_waiting, a_came, a_given, a_got, a_taken, a_asked, a_stageOf, a_began) := rfl
theorem ye_tab : y_tab (f_stages, f_heard, f_now, f_calls, f_parts, f_start, f_at, f_nextX, f_nextY, f_x, f_y, a_kind, a_opA, a_opB, a_heardBy, a_what, a_said, a_when, a_over, a_part, a_first, a_second, a_user, a_goStage, a_goStep, a_done, a_val, a_mom, a_cnt, a_end, a_endMom, a_begun, a_status, a_stageOf, a_began, a_taken, a_demand, a_asked, a_code, a_waits, a_waiting, a_came, a_given, a_got) = (f_stages, a_kind, a_opA, a_opB) := rfl
theorem ye_log : y_log (f_stages, f_heard, f_now, f_calls, f_parts, f_start, f_at, f_nextX, f_nextY, f_x, f_y, a_kind, a_opA, a_opB, a_heardBy, a_what, a_said, a_when, a_over, a_part, a_first, a_second, a_user, a_goStage, a_goStep, a_done, a_val, a_mom, a_cnt, a_end, a_endMom, a_begun, a_status, a_stageOf, a_began, a_taken, a_demand, a_asked, a_code, a_waits, a_waiting, a_came, a_given, a_got) = (a_heardBy, a_what, a_said, a_when) := rfl
theorem ye_now : y_now (f_stages, f_heard, f_now, f_calls, f_parts, f_start, f_at, f_nextX, f_nextY, f_x, f_y, a_kind, a_opA, a_opB, a_heardBy, a_what, a_said, a_when, a_over, a_part, a_first, a_second, a_user, a_goStage, a_goStep, a_done, a_val, a_mom, a_cnt, a_end, a_endMom, a_begun, a_status, a_stageOf, a_began, a_taken, a_demand, a_asked, a_code, a_waits, a_waiting, a_came, a_given, a_got) = f_now := rfl
theorem ye_calls : y_calls (f_stages, f_heard, f_now, f_calls, f_parts, f_start, f_at, f_nextX, f_nextY, f_x, f_y, a_kind, a_opA, a_opB, a_heardBy, a_what, a_said, a_when, a_over, a_part, a_first, a_second, a_user, a_goStage, a_goStep, a_done, a_val, a_mom, a_cnt, a_end, a_endMom, a_begun, a_status, a_stageOf, a_began, a_taken, a_demand, a_asked, a_code, a_waits, a_waiting, a_came, a_given, a_got) = f_calls := rfl
theorem ye_heard : y_heard (f_stages, f_heard, f_now, f_calls, f_parts, f_start, f_at, f_nextX, f_nextY, f_x, f_y, a_kind, a_opA, a_opB, a_heardBy, a_what, a_said, a_when, a_over, a_part, a_first, a_second, a_user, a_goStage, a_goStep, a_done, a_val, a_mom, a_cnt, a_end, a_endMom, a_begun, a_status, a_stageOf, a_began, a_taken, a_demand, a_asked, a_code, a_waits, a_waiting, a_came, a_given, a_got) = f_heard := rfl
theorem ye_over : y_over (f_stages, f_heard, f_now, f_calls, f_parts, f_start, f_at, f_nextX, f_nextY, f_x, f_y, a_kind, a_opA, a_opB, a_heardBy, a_what, a_said, a_when, a_over, a_part, a_first, a_second, a_user, a_goStage, a_goStep, a_done, a_val, a_mom, a_cnt, a_end, a_endMom, a_begun, a_status, a_stageOf, a_began, a_taken, a_demand, a_asked, a_code, a_waits, a_waiting, a_came, a_given, a_got) = a_over := rfl
end
theorem ys_eq {v v2 : SY} (h : y_sub v2 = y_sub v) : y_status v2 = y_status v ∧ y_code v2 = y_code v ∧ y_demand v2 = y_demand v ∧ y_waits v2 = y_waits v ∧ y_waiting v2 = y_waiting v ∧ y_came v2 = y_came v ∧ y_given v2 = y_given v ∧ y_got v2 = y_got v ∧ y_taken v2 = y_taken v ∧ y_asked v2 = y_asked v ∧ y_stageOf v2 = y_stageOf v ∧ y_began v2 = y_began v := by
  unfold y_sub at h
  simp only [Prod.mk.injEq] at h
  exact h
theorem yt_eq {v v2 : SY} (h : y_tab v2 = y_tab v) : y_stages v2 = y_stages v ∧ y_kind v2 = y_kind v ∧ y_opA v2 = y_opA v ∧ y_opB v2 = y_opB v := by
  unfold y_tab at h
  simp only [Prod.mk.injEq] at h
  exact h
theorem yl_eq {v v2 : SY} (h : y_log v2 = y_log v) : y_heardBy v2 = y_heardBy v ∧ y_what v2 = y_what v ∧ y_said v2 = y_said v ∧ y_when v2 = y_when v := by
  unfold y_log at h
  simp only [Prod.mk.injEq] at h
  exact h
theorem ys_rw {v v2 : SY} {j : Nat} {s : Sb} (h : y_sub v2 = y_sub v) (hR : RepW v j s) : RepW v2 j s := by
  obtain ⟨h1, h2, h3, h4, h5, h6, h7, h8, _⟩ := ys_eq h
  unfold RepW at hR ⊢
  rw [h1, h2, h3, h4, h5, h6, h7, h8]
  exact hR
def r_D (Dd : Nat → Dt) (S : Nat → Sb) : CD := (fun j => decide ((S j).1 = 0), fun j => d_E j (Dd j) (S j), fun j => d_B0 (Dd j), S)
theorem rl_cd {ns cc t : Nat} {LG : List Lg} {u : SX} {v : SY} {S : Nat → Sb} (hJ : ∀ j, j < 3 → RJ ns cc t LG j u v (S j)) : ∃ Dd : Nat → Dt, ∀ j, j < 3 → (S j).1 = 0 → RJa ns cc t LG j u v (S j) (Dd j) := by
  refine ch3 (P := fun j d => (S j).1 = 0 → RJa ns cc t LG j u v (S j) d) (fun j hj => ?_)
  by_cases h0 : (S j).1 = 0
  · obtain ⟨d, hd⟩ := (hJ j hj).2.2.2.2 h0
    exact ⟨d, fun _ => hd⟩
  · exact ⟨(0, fun _ => 0, fun _ => 0, fun _ => 0, fun _ => 0, fun _ => 0, 0, 0, fun _ => 0, fun _ => 0, fun _ => []), fun h => absurd h h0⟩
theorem rl_ok {ns cc t : Nat} {LG : List Lg} {u : SX} {v : SY} {S : Nat → Sb} {Dd : Nat → Dt} (h : ∀ j, j < 3 → (S j).1 = 0 → RJa ns cc t LG j u v (S j) (Dd j)) : cdOK (r_D Dd S) :=
  fun j hj ha => ⟨rl_TR hj (h j hj (of_decide_eq_true ha)).1, rfl⟩
theorem rl_pb {ns cc t : Nat} {LG : List Lg} {u : SX} {v : SY} {S : Nat → Sb} {Dd : Nat → Dt} (hJ : ∀ j, j < 3 → RJ ns cc t LG j u v (S j)) (h : ∀ j, j < 3 → (S j).1 = 0 → RJa ns cc t LG j u v (S j) (Dd j)) (j : Nat) (hj : j < 3) : PB (r_D Dd S) cc t LG j u := by
  unfold PB
  by_cases h0 : (S j).1 = 0
  · rw [if_pos (show (r_D Dd S).1 j = true from decide_eq_true h0)]
    obtain ⟨_, _, ⟨M, F, bg, hM, hA⟩, _⟩ := h j hj h0
    refine ⟨M, d_H (Dd j), F, bg, hM, hA, ?_⟩
    show (((d_R (Dd j)).drop (d_R (Dd j)).length).foldl evf (S j)).1 = 0
    rw [List.drop_length]
    exact h0
  · rw [if_neg (show ¬ (r_D Dd S).1 j = true from fun y => h0 (of_decide_eq_true y))]
    exact ⟨(hJ j hj).1, h0⟩
theorem rl_pa {cc t j : Nat} {LG : List Lg} {u : SX} {S : Nat → Sb} {Dd : Nat → Dt} (h : PA (r_D Dd S) cc t LG j u) : ((S j).1 = 0 → (∃ M H F bg, M < mo t 1 (cc + 1) ∧ AR (eU (d_E j (Dd j) (S j)) t M (fun _ => t) (fun _ => LG) LG) (d_B0 (Dd j)) cc u H F bg ∧ (FS (d_E j (Dd j) (S j)) H).1 = 0) ∨ FIN (d_E j (Dd j) (S j)) (d_B0 (Dd j)) t LG u) ∧ ((S j).1 ≠ 0 → RepU u j (S j)) := by
  unfold PA at h
  constructor
  · intro h0
    rw [if_pos (show (r_D Dd S).1 j = true from decide_eq_true h0)] at h
    exact h
  · intro h0
    rw [if_neg (show ¬ (r_D Dd S).1 j = true from fun y => h0 (of_decide_eq_true y))] at h
    exact h.1
theorem xr_setT {u u' : SX} {z : Int32} (h : x_st2 u' = setT z (x_st2 u)) : x_time u' = z ∧ x_sent u' = x_sent u ∧ x_sourceEnded u' = x_sourceEnded u ∧ x_subRequests u' = x_subRequests u :=
  ⟨congrArg (fun w => w.1) h, congrArg (fun w => w.2.1) h, congrArg (fun w => w.2.2.2.1) h, congrArg (fun w => w.2.2.2.2.2.2.2.2.2.2.2.2) h⟩
theorem xr_txT {ns : Nat} {K A B : Nat → Nat} {oa ob : Nat → Int32} {z : St2} {x : Int32} (h : TXt ns K A B oa ob z) : TXt ns K A B oa ob (setT x z) := by
  obtain ⟨ti, se, sc, so, sk, sa, sb, sp, ps, pu, px, py, sr⟩ := z
  exact h
theorem xr_setS {u u' : SX} {z : Int32} {so : Nat → Int32} (h : x_st2 u' = setS z so (x_st2 u)) : x_time u' = x_time u ∧ x_sent u' = z ∧ x_sourceEnded u' = so ∧ x_subRequests u' = x_subRequests u :=
  ⟨congrArg (fun w => w.1) h, congrArg (fun w => w.2.1) h, congrArg (fun w => w.2.2.2.1) h, congrArg (fun w => w.2.2.2.2.2.2.2.2.2.2.2.2) h⟩
theorem xr_txS {ns : Nat} {K A B : Nat → Nat} {oa ob : Nat → Int32} {z : St2} {x : Int32} {so : Nat → Int32} (h : TXt ns K A B oa ob z) : TXt ns K A B oa ob (setS x so z) := by
  obtain ⟨ti, se, sc, so, sk, sa, sb, sp, ps, pu, px, py, sr⟩ := z
  exact h
theorem i_up {k : Nat} {u : SX} {v : SY} (h : i_Rel k u v) : i_Rel (k + 4) u v := by
  obtain ⟨ns, K, A, B, oa, ob, cc, t, LG, S, hck, h⟩ := h
  exact ⟨ns, K, A, B, oa, ob, cc, t, LG, S, Nat.le_trans hck (Nat.le_add_right _ _), h⟩
/-- after the component's part of advance or send: the reference's go -/
theorem ra_go {post : SY → Prop} {k ns cc t cc' t' : Nat} {K A B : Nat → Nat} {oa ob : Nat → Int32} {LG lx LG2 : List Lg} {u u' : SX} {v v2 : SY} {S : Nat → Sb} {Dd : Nat → Dt} (hk : cc' ≤ k) (hcc' : cc' < 3000000000) (htt : t ≤ t') (hL2 : LG2 = LG ++ lx) (hlx : ∀ g ∈ lx, mo t 1 (cc + 1) ≤ g.2.2.2) (hJ : ∀ j, j < 3 → RJ ns cc t LG j u v (S j)) (hDd : ∀ j, j < 3 → (S j).1 = 0 → RJa ns cc t LG j u v (S j) (Dd j))
    (hQ : ∀ j, j < 3 → (S j).1 = 0 → CQ cc' t' (d_B0 (Dd j) :: whs LG2)) (hP : ∀ j, j < 3 → PA (r_D Dd S) cc' t' LG2 j u') (hsr : x_subRequests u' = x_subRequests u) (hX : RXg ns K A B oa ob t' LG2 u') (hY : RYg ns K A B oa ob cc' t' LG2 v2) (hC : RC cc' t' LG2) (hSE : SE u' v2) (hys : y_sub v2 = y_sub v) (hyt : y_tab v2 = y_tab v)
    (KK : ∀ v', i_Rel k u' v' → y_cst v' = y_cst v2 → post v') : wpY_go post v2 := by
  obtain ⟨s1, s2, s3, s4, s5, s6, s7, s8, s9, s10, s11, s12⟩ := ys_eq hys
  obtain ⟨t1, t2, t3, t4⟩ := yt_eq hyt
  refine rl_go S hk hcc' hX hY hC hSE (fun j hj => ys_rw hys (hJ j hj).2.1) (fun j hj => ?_) (fun j hj => ⟨fun h0 => ?_, fun h0 => ?_⟩) KK
  · rw [hsr, s10]
    exact ⟨(hJ j hj).2.2.1, (hJ j hj).2.2.2.1⟩
  · exact rj_next hj (hDd j hj h0) h0 hcc' htt hL2 hlx (hQ j hj h0) ((rl_pa (hP j hj)).1 h0) ⟨t2, t3, t4, by rw [s9], by rw [s11], by rw [s12]⟩
  · exact (rl_pa (hP j hj)).2 h0
