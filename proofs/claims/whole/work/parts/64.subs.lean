/-! ===== subscribe: the new subscription ===== -/
theorem rj_new {ns cc t id s : Nat} {K A B sg us : Nat → Nat} {oa ob : Nat → Int32} {LG : List Lg} {u' : SX} {v2 : SY} {hh : Nat → Int64} {H : Nat → List Ev} {F : Nat → Nat} {bg : Nat → Bool} (hid : id < 3) (hcc : cc < 2900000000) (hT : TYt ns K A B oa ob (y_kind v2) (y_opA v2) (y_opB v2)) (hs : s < ns) (h9 : sz K A B s ≤ 9) (hL : LYf K A B sg us 13 0 s) (hQ : CQ cc t (whs LG))
    (hA : AR (eU (mkE id (sz K A B s) t (mo t 1 (cc + 1)) 0 K A B sg us oa ob (fun _ => t) (fun _ => LG) LG (0, 0, 0, 0, 0, [], hh)) t (mo t 1 (cc + 1)) (fun _ => t) (fun _ => LG) LG) (mo t 1 (cc + 1)) (cc + 1) u' H F bg)
    (htk : y_taken v2 id = nI 0) (hso : y_stageOf v2 id = nI s) (hbe : y_began v2 id = lN (mo t 1 (cc + 1))) : ∃ d ex, NXT ns (cc + 1) t LG id (0, 0, 0, 0, 0, [], hh) u' v2 d ex := by
  have hTR := ly_TR (id := id) (t := t) (M := mo t 1 (cc + 1)) (h0 := 0) (oa := oa) (ob := ob) (c := fun _ => t) (lg := fun _ => LG) (LG := LG) (s0 := (0, 0, 0, 0, 0, [], hh)) hid hT.1 hs h9 (tr_ok hT.1 13 0 s hs hL)
  have hcu := ad_cu hA.1 hA.2.1
  have hS := so_cu (E := eU (mkE id (sz K A B s) t (mo t 1 (cc + 1)) 0 K A B sg us oa ob (fun _ => t) (fun _ => LG) LG (0, 0, 0, 0, 0, [], hh)) t (mo t 1 (cc + 1)) (fun _ => t) (fun _ => LG) LG) (t := t) (LG := LG) hTR (fun _ _ => rfl) (fun _ _ => rfl) hcu
  have hru : RepU u' id ((H (sz K A B s - 1)).foldl evf (0, 0, 0, 0, 0, [], hh)) := hA.1.1.2.2.2.2.1.2
  refine ⟨(ns, K, A, B, oa, ob, s, mo t 1 (cc + 1), sg, us, H), H (sz K A B s - 1), ⟨Nat.le_refl _, hT, hs, h9, hL⟩, cq_new (by omega) hQ (fun w hw => ?_), ⟨_, sol_g hS⟩, ⟨[], none, rfl, fun _ => ⟨fun _ => rfl, fun w hw => by simp at hw⟩, htk⟩, hso, hbe, hru, fun _ => ⟨mo t 1 (cc + 1), F, bg, ?_, ?_⟩⟩
  · rcases List.mem_cons.mp hw with y | y
    · exact Or.inr y
    · exact Or.inl y
  · have := cq_le (t := t) (t' := t) (c := cc + 1) (c' := cc + 1) (Nat.le_refl _) (Nat.le_refl _)
    omega
  · refine ar_reb hA (Nat.le_refl _) ?_
    show RepU u' id (((H (sz K A B s - 1)).drop (H (sz K A B s - 1)).length).foldl evf ((H (sz K A B s - 1)).foldl evf (0, 0, 0, 0, 0, [], hh)))
    rw [List.drop_length]
    exact hru
/-- the other subscriptions, while one is made anew -/
theorem rj_keep {ns cc t j : Nat} {LG : List Lg} {u u' : SX} {v v2 : SY} {s : Sb} (hj : j < 3) (h : RJ ns cc t LG j u v s) (h0 : s.1 = 0) (hcc : cc < 2900000000) (hf : FO2 j ns u u') (hv : y_kind v2 = y_kind v ∧ y_opA v2 = y_opA v ∧ y_opB v2 = y_opB v ∧ y_taken v2 j = y_taken v j ∧ y_stageOf v2 j = y_stageOf v j ∧ y_began v2 j = y_began v j) : ∃ d ex, NXT ns (cc + 1) t LG j s u' v2 d ex := by
  obtain ⟨d, hd⟩ := h.2.2.2.2 h0
  have hact := act_fo (cc' := cc + 1) hj hd.1 hf (Nat.le_succ _) hd.2.2.1
  obtain ⟨M, F, bg, hM, hA⟩ := hact
  refine rj_next (lx := []) (u := u) hj hd h0 (by omega) (Nat.le_refl _) (List.append_nil _).symm (fun g hg => absurd hg (by simp)) (cq_mono (Nat.le_succ _) (Nat.le_refl _) hd.2.1) (Or.inl ⟨M, d_H d, F, bg, hM, hA, ?_⟩) hv
  show (((d_R d).drop (d_R d).length).foldl evf s).1 = 0
  rw [List.drop_length]
  exact h0
