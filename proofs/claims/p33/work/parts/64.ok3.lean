def I3 (_ : Nat) (σ : XS) (μ : MS) : Prop := SafeX σ ∧ SafeM μ ∧ Tie σ μ ∧ ∃ n, ((σ.1 0)) = nI n ∧ NetE n ((σ.2.2.1 1)) ((σ.1 1)) ∧ OrdT n ((σ.1 2)) ((σ.1 3)) ((μ.1 1)) ((σ.2.2.1 3)) ((μ.2.2.1 3)) ∧ BagT n ((σ.1 4)) ((μ.1 2)) ((σ.2.2.1 4)) ((σ.2.2.1 5)) ((μ.2.2.1 4)) ((μ.2.2.1 5))
theorem ord_sz {n : Nat} {os held rowed : Int32} {knots row : Nat → Int32} (T : OrdT n os held rowed knots row) : os = rowed := by
  obtain ⟨r, _, rfl, rfl, _⟩ := T
  rfl
theorem NetE_n {n : Nat} {near : Nat → Int32} {edges : Int32} (h : NetE n near edges) : n ≤ 14 := by
  obtain ⟨B, c, N, _⟩ := h
  exact N.1
theorem knot3 (a os oh bs rowed bags : Int32) {n : Nat} (hn : n ≤ 14) (w near : Nat → Int32) (hz : ∀ i : Nat, (nI n).toInt ≤ (i : Int) → near i = 0) : Rel (f_X8_knot a (nI n) w os oh bs) (f_X9_knot a (nI n) rowed bags w near) (fun r m => m.1 = r.1 ∧ ((r.2 = (nI n, w, os, oh, bs) ∧ m.2 = (nI n, rowed, bags, w, near)) ∨ (n < 14 ∧ ∃ w', r.2 = (nI (n + 1), w', 0, 0, 0) ∧ m.2 = (nI (n + 1), 0, 0, w', near)))) := by
  unfold f_X9_knot f_X8_knot
  obtain ⟨u, h, -⟩ := s_X8_isWeight a
  refine rl (cal_e h) (rr (cal_e (show f_X9_isWeight a = some u from h)) ?_)
  by_cases z : u = 0
  · exact rl (if_pos z) (rr (if_pos z) (rel_some ⟨rfl, Or.inl ⟨rfl, rfl⟩⟩))
  · refine rl (if_neg z) (rr (if_neg z) ?_)
    rcases Nat.lt_or_ge n 14 with c | c
    · have e0 : upd near n 0 = near := by
        funext i
        unfold upd
        by_cases hi : i = n
        · rw [if_pos hi]; exact (hz i (by rw [nI_toInt (by omega)]; omega)).symm
        · rw [if_neg hi]
      have ha : f_X4_addKnot a (nI n) w = some (nI n, nI (n + 1), upd w n a) := by
        unfold f_X4_addKnot
        rw [sI_ok _ (in14 c), cl14 c, bnd_s, nI_1, nI_pred]
      refine rl (if_pos (show nI n < (14 : Int32) from nI_lt (b := 14) c (by decide))) (rr (if_neg (fun e => by have := (nI_eq (by omega) (by decide)).mp (show nI n = nI 14 from e); omega)) (rr (sI_ok _ (in14 c)) (rr (sI_ok _ (in14 c)) ?_)))
      rw [cl14 c, e0]
      refine rl (cal_e (show f_X2_empty os oh = some (0, 0) from rfl)) (rl (cal_e (show f_X0_empty bs = some 0 from rfl)) (rl (cal_e ha) ?_))
      refine rr (bnd_s _ _) (rr (bnd_s _ _) (rr (bnd_s _ _) ?_))
      rw [nI_1, nI_pred]
      exact rel_some ⟨rfl, Or.inr ⟨c, _, rfl, rfl⟩⟩
    · have e : n = 14 := by omega
      subst e
      exact rl (if_neg (show ¬ nI 14 < (14 : Int32) by decide)) (rr (if_pos (show nI 14 = (14 : Int32) by decide)) (rel_some ⟨rfl, Or.inl ⟨rfl, rfl⟩⟩))
set_option maxRecDepth 10000 in
theorem xk_ways  (σ : XS) (h : SafeX σ) : Sat (sx_ways  σ) (fun p => SafeX p.2 ∧ (p.2.1 0) = (σ.1 0) ∧ (p.2.2.2.1 0) = (σ.2.2.1 0) ∧ (p.2.2.2.1 1) = (σ.2.2.1 1) ∧ (p.2.2.2.1 2) = (σ.2.2.1 2) ∧ (p.2.1 5) = (σ.1 5) ∧ (p.2.2.2.1 6) = (σ.2.2.1 6) ∧ (p.2.2.2.1 7) = (σ.2.2.1 7) ∧ (p.2.2.2.1 8) = (σ.2.2.1 8) ∧ (p.2.2.2.1 9) = (σ.2.2.1 9) ∧ (p.2.1 1) = (σ.1 1) ∧ (p.2.1 2) = (σ.1 2) ∧ (p.2.1 3) = (σ.1 3) ∧ (p.2.2.2.1 3) = (σ.2.2.1 3) ∧ (p.2.1 4) = (σ.1 4) ∧ (p.2.2.2.1 4) = (σ.2.2.1 4) ∧ (p.2.2.2.1 5) = (σ.2.2.1 5)) := by
  obtain ⟨h_t_net_size, h_t_order_size, h_t_order_knots, h_t_bags_size, h_t_law_size, h_t_going_left, h_t_plan_size, h_t_plan_knots, h_t_plan_others, h_t_plan_otherCount, h_t_plan_feeders, h_t_plan_feederCount, h_t_plan_places, h_t_plan_going_left, h_t_tally_openStates, h_t_tally_openCount, h_t_tally_picks, h_t_tally_strides, h_t_search_rest_left, h_lf⟩ := h
  unfold sx_ways
  refine sat_cal (s_X8_ways ((σ.1 0)) ((σ.2.2.1 0)) ((σ.2.2.1 1)) ((σ.2.2.1 2)) ((σ.1 4)) ((σ.2.2.1 4)) ((σ.2.2.1 5)) ((σ.1 5)) ((σ.2.2.1 6)) ((σ.2.2.1 7)) ((σ.2.2.1 8)) ((σ.2.2.1 9)) ((σ.1 8)) ((σ.2.2.1 11)) ((σ.2.2.1 12)) ((σ.2.2.1 13)) ((σ.2.2.1 14)) ((σ.2.2.1 15)) ((σ.2.2.1 16)) ((σ.2.2.1 17)) ((σ.2.2.1 18)) ((σ.2.2.1 19)) ((σ.1 9)) ((σ.1 10)) ((σ.2.2.1 20)) ((σ.1 11)) ((σ.1 12)) ((σ.1 13)) ((σ.1 14)) ((σ.1 15)) ((σ.2.2.1 21)) ((σ.2.2.1 22)) ((σ.2.2.1 23)) ((σ.2.2.1 24)) ((σ.2.2.1 25)) ((σ.2.2.1 26)) ((σ.2.2.1 27)) h_t_net_size h_t_bags_size h_t_law_size h_t_plan_size h_t_plan_knots h_t_plan_others h_t_plan_otherCount h_t_plan_feeders h_t_plan_feederCount h_t_plan_places h_t_plan_going_left h_t_tally_openStates h_t_tally_openCount h_t_tally_picks h_t_tally_strides) fun r hr => ?_
  obtain ⟨q1, q2, q3, q4, q7, q8, q9, q11, q20, q21, q22, q23, -⟩ := hr
  exact sat_some ⟨⟨h_t_net_size, h_t_order_size, h_t_order_knots, h_t_bags_size, h_t_law_size, h_t_going_left, q1, q2, q3, q4, q7, q8, q9, q11, q20, q21, q22, q23, h_t_search_rest_left, h_lf⟩, rfl, rfl, rfl, rfl, rfl, rfl, rfl, rfl, rfl, rfl, rfl, rfl, rfl, rfl, rfl, rfl⟩
set_option maxRecDepth 10000 in
theorem mk_ways  (μ : MS) (h : SafeM μ) : Sat (sm_ways  μ) (fun p => SafeM p.2 ∧ (p.2.1 0) = (μ.1 0) ∧ (p.2.2.2.1 0) = (μ.2.2.1 0) ∧ (p.2.2.2.1 1) = (μ.2.2.1 1) ∧ (p.2.2.2.1 2) = (μ.2.2.1 2) ∧ (p.2.1 3) = (μ.1 3) ∧ (p.2.2.2.1 7) = (μ.2.2.1 7) ∧ (p.2.2.2.1 8) = (μ.2.2.1 8) ∧ (p.2.2.2.1 10) = (μ.2.2.1 10) ∧ (p.2.2.2.1 9) = (μ.2.2.1 9) ∧ (p.2.1 1) = (μ.1 1) ∧ (p.2.2.2.1 3) = (μ.2.2.1 3) ∧ (p.2.1 2) = (μ.1 2) ∧ (p.2.2.2.1 4) = (μ.2.2.1 4) ∧ (p.2.2.2.1 5) = (μ.2.2.1 5)) := by
  obtain ⟨h_t_knots, h_t_rowed, h_t_bags, h_t_q, h_t_beside, h_t_row, h_t_bag, h_t_up, h_t_state, h_RW⟩ := h
  unfold sm_ways
  refine sat_cal (s_X9_ways ((μ.1 0)) ((μ.1 2)) ((μ.1 3)) ((μ.2.1 0)) ((μ.2.1 1)) ((μ.2.1 2)) ((μ.2.2.1 0)) ((μ.2.2.1 1)) ((μ.2.2.1 2)) ((μ.2.2.1 4)) ((μ.2.2.1 5)) ((μ.2.2.1 7)) ((μ.2.2.1 8)) ((μ.2.2.1 9)) ((μ.2.2.1 10)) ((μ.2.2.1 11)) ((μ.2.2.1 12)) ((μ.2.2.2 0)) ((μ.2.2.2 1)) ((μ.2.2.2 2)) h_t_knots h_t_bags h_t_q h_t_beside h_t_bag h_t_up h_t_state) fun r hr => ?_
  obtain ⟨q5, -⟩ := hr
  exact sat_some ⟨⟨h_t_knots, h_t_rowed, h_t_bags, h_t_q, h_t_beside, h_t_row, h_t_bag, h_t_up, q5, h_RW⟩, rfl, rfl, rfl, rfl, rfl, rfl, rfl, rfl, rfl, rfl, rfl, rfl, rfl, rfl⟩
set_option maxRecDepth 10000 in
theorem xk_best (a1 : Int32) (σ : XS) (h : SafeX σ) : Sat (sx_best a1 σ) (fun p => SafeX p.2 ∧ (p.2.1 0) = (σ.1 0) ∧ (p.2.2.2.1 0) = (σ.2.2.1 0) ∧ (p.2.2.2.1 1) = (σ.2.2.1 1) ∧ (p.2.2.2.1 2) = (σ.2.2.1 2) ∧ (p.2.1 5) = (σ.1 5) ∧ (p.2.2.2.1 6) = (σ.2.2.1 6) ∧ (p.2.2.2.1 7) = (σ.2.2.1 7) ∧ (p.2.2.2.1 8) = (σ.2.2.1 8) ∧ (p.2.2.2.1 9) = (σ.2.2.1 9) ∧ (p.2.1 1) = (σ.1 1) ∧ (p.2.1 2) = (σ.1 2) ∧ (p.2.1 3) = (σ.1 3) ∧ (p.2.2.2.1 3) = (σ.2.2.1 3) ∧ (p.2.1 4) = (σ.1 4) ∧ (p.2.2.2.1 4) = (σ.2.2.1 4) ∧ (p.2.2.2.1 5) = (σ.2.2.1 5)) := by
  obtain ⟨h_t_net_size, h_t_order_size, h_t_order_knots, h_t_bags_size, h_t_law_size, h_t_going_left, h_t_plan_size, h_t_plan_knots, h_t_plan_others, h_t_plan_otherCount, h_t_plan_feeders, h_t_plan_feederCount, h_t_plan_places, h_t_plan_going_left, h_t_tally_openStates, h_t_tally_openCount, h_t_tally_picks, h_t_tally_strides, h_t_search_rest_left, h_lf⟩ := h
  unfold sx_best
  refine sat_cal (s_X8_best a1 ((σ.1 0)) ((σ.2.2.1 0)) ((σ.2.2.1 1)) ((σ.2.2.1 2)) ((σ.1 4)) ((σ.2.2.1 4)) ((σ.2.2.1 5)) ((σ.1 5)) ((σ.2.2.1 6)) ((σ.2.2.1 7)) ((σ.2.2.1 8)) ((σ.2.2.1 9)) ((σ.1 8)) ((σ.2.2.1 11)) ((σ.2.2.1 12)) ((σ.2.2.1 13)) ((σ.2.2.1 14)) ((σ.2.2.1 15)) ((σ.2.2.1 16)) ((σ.2.2.1 17)) ((σ.2.2.1 18)) ((σ.2.2.1 19)) ((σ.1 9)) ((σ.1 10)) ((σ.2.2.1 20)) ((σ.1 11)) ((σ.1 12)) ((σ.1 13)) ((σ.1 14)) ((σ.1 15)) ((σ.2.2.1 21)) ((σ.2.2.1 22)) ((σ.2.2.1 23)) ((σ.2.2.1 24)) ((σ.2.2.1 25)) ((σ.2.2.1 26)) ((σ.2.2.1 27)) h_t_net_size h_t_bags_size h_t_law_size h_t_plan_size h_t_plan_knots h_t_plan_others h_t_plan_otherCount h_t_plan_feeders h_t_plan_feederCount h_t_plan_places h_t_plan_going_left h_t_tally_openStates h_t_tally_openCount h_t_tally_picks h_t_tally_strides) fun r hr => ?_
  obtain ⟨q1, q2, q3, q4, q7, q8, q9, q11, q20, q21, q22, q23, -⟩ := hr
  exact sat_some ⟨⟨h_t_net_size, h_t_order_size, h_t_order_knots, h_t_bags_size, h_t_law_size, h_t_going_left, q1, q2, q3, q4, q7, q8, q9, q11, q20, q21, q22, q23, h_t_search_rest_left, h_lf⟩, rfl, rfl, rfl, rfl, rfl, rfl, rfl, rfl, rfl, rfl, rfl, rfl, rfl, rfl, rfl, rfl⟩
set_option maxRecDepth 10000 in
theorem mk_best (a1 : Int32) (μ : MS) (h : SafeM μ) : Sat (sm_best a1 μ) (fun p => SafeM p.2 ∧ (p.2.1 0) = (μ.1 0) ∧ (p.2.2.2.1 0) = (μ.2.2.1 0) ∧ (p.2.2.2.1 1) = (μ.2.2.1 1) ∧ (p.2.2.2.1 2) = (μ.2.2.1 2) ∧ (p.2.1 3) = (μ.1 3) ∧ (p.2.2.2.1 7) = (μ.2.2.1 7) ∧ (p.2.2.2.1 8) = (μ.2.2.1 8) ∧ (p.2.2.2.1 10) = (μ.2.2.1 10) ∧ (p.2.2.2.1 9) = (μ.2.2.1 9) ∧ (p.2.1 1) = (μ.1 1) ∧ (p.2.2.2.1 3) = (μ.2.2.1 3) ∧ (p.2.1 2) = (μ.1 2) ∧ (p.2.2.2.1 4) = (μ.2.2.1 4) ∧ (p.2.2.2.1 5) = (μ.2.2.1 5)) := by
  obtain ⟨h_t_knots, h_t_rowed, h_t_bags, h_t_q, h_t_beside, h_t_row, h_t_bag, h_t_up, h_t_state, h_RW⟩ := h
  unfold sm_best
  refine sat_cal (s_X9_best a1 ((μ.1 0)) ((μ.1 2)) ((μ.1 3)) ((μ.2.1 0)) ((μ.2.1 1)) ((μ.2.1 2)) ((μ.2.2.1 0)) ((μ.2.2.1 1)) ((μ.2.2.1 2)) ((μ.2.2.1 4)) ((μ.2.2.1 5)) ((μ.2.2.1 7)) ((μ.2.2.1 8)) ((μ.2.2.1 9)) ((μ.2.2.1 10)) ((μ.2.2.1 11)) ((μ.2.2.1 12)) ((μ.2.2.2 0)) ((μ.2.2.2 1)) ((μ.2.2.2 2)) h_t_knots h_t_bags h_t_q h_t_beside h_t_bag h_t_up h_t_state) fun r hr => ?_
  obtain ⟨q5, -⟩ := hr
  exact sat_some ⟨⟨h_t_knots, h_t_rowed, h_t_bags, h_t_q, h_t_beside, h_t_row, h_t_bag, h_t_up, q5, h_RW⟩, rfl, rfl, rfl, rfl, rfl, rfl, rfl, rfl, rfl, rfl, rfl, rfl, rfl, rfl⟩
set_option maxRecDepth 10000 in
theorem xk_bests (a1 : Int32) (σ : XS) (h : SafeX σ) : Sat (sx_bests a1 σ) (fun p => SafeX p.2 ∧ (p.2.1 0) = (σ.1 0) ∧ (p.2.2.2.1 0) = (σ.2.2.1 0) ∧ (p.2.2.2.1 1) = (σ.2.2.1 1) ∧ (p.2.2.2.1 2) = (σ.2.2.1 2) ∧ (p.2.1 5) = (σ.1 5) ∧ (p.2.2.2.1 6) = (σ.2.2.1 6) ∧ (p.2.2.2.1 7) = (σ.2.2.1 7) ∧ (p.2.2.2.1 8) = (σ.2.2.1 8) ∧ (p.2.2.2.1 9) = (σ.2.2.1 9) ∧ (p.2.1 1) = (σ.1 1) ∧ (p.2.1 2) = (σ.1 2) ∧ (p.2.1 3) = (σ.1 3) ∧ (p.2.2.2.1 3) = (σ.2.2.1 3) ∧ (p.2.1 4) = (σ.1 4) ∧ (p.2.2.2.1 4) = (σ.2.2.1 4) ∧ (p.2.2.2.1 5) = (σ.2.2.1 5)) := by
  obtain ⟨h_t_net_size, h_t_order_size, h_t_order_knots, h_t_bags_size, h_t_law_size, h_t_going_left, h_t_plan_size, h_t_plan_knots, h_t_plan_others, h_t_plan_otherCount, h_t_plan_feeders, h_t_plan_feederCount, h_t_plan_places, h_t_plan_going_left, h_t_tally_openStates, h_t_tally_openCount, h_t_tally_picks, h_t_tally_strides, h_t_search_rest_left, h_lf⟩ := h
  unfold sx_bests
  refine sat_cal (s_X8_bests a1 ((σ.1 0)) ((σ.2.2.1 0)) ((σ.2.2.1 1)) ((σ.2.2.1 2)) ((σ.1 4)) ((σ.2.2.1 4)) ((σ.2.2.1 5)) ((σ.1 5)) ((σ.2.2.1 6)) ((σ.2.2.1 7)) ((σ.2.2.1 8)) ((σ.2.2.1 9)) ((σ.1 8)) ((σ.2.2.1 11)) ((σ.2.2.1 12)) ((σ.2.2.1 13)) ((σ.2.2.1 14)) ((σ.2.2.1 15)) ((σ.2.2.1 16)) ((σ.2.2.1 17)) ((σ.2.2.1 18)) ((σ.2.2.1 19)) ((σ.1 9)) ((σ.1 10)) ((σ.2.2.1 20)) ((σ.1 11)) ((σ.1 12)) ((σ.1 13)) ((σ.1 14)) ((σ.1 15)) ((σ.2.2.1 21)) ((σ.2.2.1 22)) ((σ.2.2.1 23)) ((σ.2.2.1 24)) ((σ.2.2.1 25)) ((σ.2.2.1 26)) ((σ.2.2.1 27)) h_t_net_size h_t_bags_size h_t_law_size h_t_plan_size h_t_plan_knots h_t_plan_others h_t_plan_otherCount h_t_plan_feeders h_t_plan_feederCount h_t_plan_places h_t_plan_going_left h_t_tally_openStates h_t_tally_openCount h_t_tally_picks h_t_tally_strides) fun r hr => ?_
  obtain ⟨q1, q2, q3, q4, q7, q8, q9, q11, q20, q21, q22, q23, -⟩ := hr
  exact sat_some ⟨⟨h_t_net_size, h_t_order_size, h_t_order_knots, h_t_bags_size, h_t_law_size, h_t_going_left, q1, q2, q3, q4, q7, q8, q9, q11, q20, q21, q22, q23, h_t_search_rest_left, h_lf⟩, rfl, rfl, rfl, rfl, rfl, rfl, rfl, rfl, rfl, rfl, rfl, rfl, rfl, rfl, rfl, rfl⟩
set_option maxRecDepth 10000 in
theorem mk_bests (a1 : Int32) (μ : MS) (h : SafeM μ) : Sat (sm_bests a1 μ) (fun p => SafeM p.2 ∧ (p.2.1 0) = (μ.1 0) ∧ (p.2.2.2.1 0) = (μ.2.2.1 0) ∧ (p.2.2.2.1 1) = (μ.2.2.1 1) ∧ (p.2.2.2.1 2) = (μ.2.2.1 2) ∧ (p.2.1 3) = (μ.1 3) ∧ (p.2.2.2.1 7) = (μ.2.2.1 7) ∧ (p.2.2.2.1 8) = (μ.2.2.1 8) ∧ (p.2.2.2.1 10) = (μ.2.2.1 10) ∧ (p.2.2.2.1 9) = (μ.2.2.1 9) ∧ (p.2.1 1) = (μ.1 1) ∧ (p.2.2.2.1 3) = (μ.2.2.1 3) ∧ (p.2.1 2) = (μ.1 2) ∧ (p.2.2.2.1 4) = (μ.2.2.1 4) ∧ (p.2.2.2.1 5) = (μ.2.2.1 5)) := by
  obtain ⟨h_t_knots, h_t_rowed, h_t_bags, h_t_q, h_t_beside, h_t_row, h_t_bag, h_t_up, h_t_state, h_RW⟩ := h
  unfold sm_bests
  refine sat_cal (s_X9_bests a1 ((μ.1 0)) ((μ.1 2)) ((μ.1 3)) ((μ.2.1 0)) ((μ.2.1 1)) ((μ.2.1 2)) ((μ.2.2.1 0)) ((μ.2.2.1 1)) ((μ.2.2.1 2)) ((μ.2.2.1 4)) ((μ.2.2.1 5)) ((μ.2.2.1 7)) ((μ.2.2.1 8)) ((μ.2.2.1 9)) ((μ.2.2.1 10)) ((μ.2.2.1 11)) ((μ.2.2.1 12)) ((μ.2.2.2 0)) ((μ.2.2.2 1)) ((μ.2.2.2 2)) h_t_knots h_t_bags h_t_q h_t_beside h_t_bag h_t_up h_t_state) fun r hr => ?_
  obtain ⟨q5, -⟩ := hr
  exact sat_some ⟨⟨h_t_knots, h_t_rowed, h_t_bags, h_t_q, h_t_beside, h_t_row, h_t_bag, h_t_up, q5, h_RW⟩, rfl, rfl, rfl, rfl, rfl, rfl, rfl, rfl, rfl, rfl, rfl, rfl, rfl, rfl⟩
set_option maxRecDepth 10000 in
theorem xk_choice (a1 : Int32) (a2 : Int32) (σ : XS) (h : SafeX σ) : Sat (sx_choice a1 a2 σ) (fun p => SafeX p.2 ∧ (p.2.1 0) = (σ.1 0) ∧ (p.2.2.2.1 0) = (σ.2.2.1 0) ∧ (p.2.2.2.1 1) = (σ.2.2.1 1) ∧ (p.2.2.2.1 2) = (σ.2.2.1 2) ∧ (p.2.1 5) = (σ.1 5) ∧ (p.2.2.2.1 6) = (σ.2.2.1 6) ∧ (p.2.2.2.1 7) = (σ.2.2.1 7) ∧ (p.2.2.2.1 8) = (σ.2.2.1 8) ∧ (p.2.2.2.1 9) = (σ.2.2.1 9) ∧ (p.2.1 1) = (σ.1 1) ∧ (p.2.1 2) = (σ.1 2) ∧ (p.2.1 3) = (σ.1 3) ∧ (p.2.2.2.1 3) = (σ.2.2.1 3) ∧ (p.2.1 4) = (σ.1 4) ∧ (p.2.2.2.1 4) = (σ.2.2.1 4) ∧ (p.2.2.2.1 5) = (σ.2.2.1 5)) := by
  obtain ⟨h_t_net_size, h_t_order_size, h_t_order_knots, h_t_bags_size, h_t_law_size, h_t_going_left, h_t_plan_size, h_t_plan_knots, h_t_plan_others, h_t_plan_otherCount, h_t_plan_feeders, h_t_plan_feederCount, h_t_plan_places, h_t_plan_going_left, h_t_tally_openStates, h_t_tally_openCount, h_t_tally_picks, h_t_tally_strides, h_t_search_rest_left, h_lf⟩ := h
  unfold sx_choice
  refine sat_cal (s_X8_choice a1 a2 ((σ.1 0)) ((σ.2.2.1 0)) ((σ.2.2.1 1)) ((σ.2.2.1 2)) ((σ.1 4)) ((σ.2.2.1 4)) ((σ.2.2.1 5)) ((σ.1 5)) ((σ.2.2.1 6)) ((σ.2.2.1 7)) ((σ.2.2.1 8)) ((σ.2.2.1 9)) ((σ.1 8)) ((σ.2.2.1 11)) ((σ.2.2.1 12)) ((σ.2.2.1 13)) ((σ.2.2.1 14)) ((σ.2.2.1 15)) ((σ.2.2.1 16)) ((σ.2.2.1 17)) ((σ.2.2.1 18)) ((σ.2.2.1 19)) ((σ.1 9)) ((σ.1 10)) ((σ.2.2.1 20)) ((σ.1 11)) ((σ.1 12)) ((σ.1 13)) ((σ.1 14)) ((σ.1 15)) ((σ.1 16)) ((σ.2.1 0)) ((σ.2.2.1 21)) ((σ.2.2.1 22)) ((σ.2.2.1 23)) ((σ.2.2.1 24)) ((σ.2.2.1 25)) ((σ.2.2.1 26)) ((σ.2.2.1 27)) h_t_net_size h_t_bags_size h_t_law_size h_t_plan_size h_t_plan_knots h_t_plan_others h_t_plan_otherCount h_t_plan_feeders h_t_plan_feederCount h_t_plan_places h_t_plan_going_left h_t_tally_openStates h_t_tally_openCount h_t_tally_picks h_t_tally_strides) fun r hr => ?_
  obtain ⟨q1, q2, q3, q4, q7, q8, q9, q11, q22, q23, q24, q25, -⟩ := hr
  exact sat_some ⟨⟨h_t_net_size, h_t_order_size, h_t_order_knots, h_t_bags_size, h_t_law_size, h_t_going_left, q1, q2, q3, q4, q7, q8, q9, q11, q22, q23, q24, q25, h_t_search_rest_left, h_lf⟩, rfl, rfl, rfl, rfl, rfl, rfl, rfl, rfl, rfl, rfl, rfl, rfl, rfl, rfl, rfl, rfl⟩
set_option maxRecDepth 10000 in
theorem mk_choice (a1 : Int32) (a2 : Int32) (μ : MS) (h : SafeM μ) : Sat (sm_choice a1 a2 μ) (fun p => SafeM p.2 ∧ (p.2.1 0) = (μ.1 0) ∧ (p.2.2.2.1 0) = (μ.2.2.1 0) ∧ (p.2.2.2.1 1) = (μ.2.2.1 1) ∧ (p.2.2.2.1 2) = (μ.2.2.1 2) ∧ (p.2.1 3) = (μ.1 3) ∧ (p.2.2.2.1 7) = (μ.2.2.1 7) ∧ (p.2.2.2.1 8) = (μ.2.2.1 8) ∧ (p.2.2.2.1 10) = (μ.2.2.1 10) ∧ (p.2.2.2.1 9) = (μ.2.2.1 9) ∧ (p.2.1 1) = (μ.1 1) ∧ (p.2.2.2.1 3) = (μ.2.2.1 3) ∧ (p.2.1 2) = (μ.1 2) ∧ (p.2.2.2.1 4) = (μ.2.2.1 4) ∧ (p.2.2.2.1 5) = (μ.2.2.1 5)) := by
  obtain ⟨h_t_knots, h_t_rowed, h_t_bags, h_t_q, h_t_beside, h_t_row, h_t_bag, h_t_up, h_t_state, h_RW⟩ := h
  unfold sm_choice
  refine sat_cal (s_X9_choice a1 a2 ((μ.1 0)) ((μ.1 2)) ((μ.1 3)) ((μ.2.1 0)) ((μ.2.1 1)) ((μ.2.1 2)) ((μ.2.2.1 0)) ((μ.2.2.1 1)) ((μ.2.2.1 2)) ((μ.2.2.1 4)) ((μ.2.2.1 5)) ((μ.2.2.1 7)) ((μ.2.2.1 8)) ((μ.2.2.1 9)) ((μ.2.2.1 10)) ((μ.2.2.1 11)) ((μ.2.2.1 12)) ((μ.2.2.2 0)) ((μ.2.2.2 1)) ((μ.2.2.2 2)) h_t_knots h_t_bags h_t_q h_t_beside h_t_bag h_t_up h_t_state) fun r hr => ?_
  obtain ⟨q5, -⟩ := hr
  exact sat_some ⟨⟨h_t_knots, h_t_rowed, h_t_bags, h_t_q, h_t_beside, h_t_row, h_t_bag, h_t_up, q5, h_RW⟩, rfl, rfl, rfl, rfl, rfl, rfl, rfl, rfl, rfl, rfl, rfl, rfl, rfl, rfl⟩
set_option maxRecDepth 10000 in
theorem xk_drawn (a1 : Int64) (a3 : Int32) (σ : XS) (h : SafeX σ) : Sat (sx_drawn a1 a3 σ) (fun p => SafeX p.2 ∧ (p.2.1 0) = (σ.1 0) ∧ (p.2.2.2.1 0) = (σ.2.2.1 0) ∧ (p.2.2.2.1 1) = (σ.2.2.1 1) ∧ (p.2.2.2.1 2) = (σ.2.2.1 2) ∧ (p.2.1 5) = (σ.1 5) ∧ (p.2.2.2.1 6) = (σ.2.2.1 6) ∧ (p.2.2.2.1 7) = (σ.2.2.1 7) ∧ (p.2.2.2.1 8) = (σ.2.2.1 8) ∧ (p.2.2.2.1 9) = (σ.2.2.1 9) ∧ (p.2.1 1) = (σ.1 1) ∧ (p.2.1 2) = (σ.1 2) ∧ (p.2.1 3) = (σ.1 3) ∧ (p.2.2.2.1 3) = (σ.2.2.1 3) ∧ (p.2.1 4) = (σ.1 4) ∧ (p.2.2.2.1 4) = (σ.2.2.1 4) ∧ (p.2.2.2.1 5) = (σ.2.2.1 5)) := by
  obtain ⟨h_t_net_size, h_t_order_size, h_t_order_knots, h_t_bags_size, h_t_law_size, h_t_going_left, h_t_plan_size, h_t_plan_knots, h_t_plan_others, h_t_plan_otherCount, h_t_plan_feeders, h_t_plan_feederCount, h_t_plan_places, h_t_plan_going_left, h_t_tally_openStates, h_t_tally_openCount, h_t_tally_picks, h_t_tally_strides, h_t_search_rest_left, h_lf⟩ := h
  unfold sx_drawn
  refine sat_cal (s_X8_drawn a1 a3 ((σ.1 0)) ((σ.2.2.1 0)) ((σ.2.2.1 1)) ((σ.2.2.1 2)) ((σ.1 4)) ((σ.2.2.1 4)) ((σ.2.2.1 5)) ((σ.1 5)) ((σ.2.2.1 6)) ((σ.2.2.1 7)) ((σ.2.2.1 8)) ((σ.2.2.1 9)) ((σ.1 8)) ((σ.2.2.1 11)) ((σ.2.2.1 12)) ((σ.2.2.1 13)) ((σ.2.2.1 14)) ((σ.2.2.1 15)) ((σ.2.2.1 16)) ((σ.2.2.1 17)) ((σ.2.2.1 18)) ((σ.2.2.1 19)) ((σ.1 9)) ((σ.1 10)) ((σ.2.2.1 20)) ((σ.1 11)) ((σ.1 12)) ((σ.1 13)) ((σ.1 14)) ((σ.1 15)) ((σ.1 16)) ((σ.2.1 0)) ((σ.2.2.1 21)) ((σ.2.2.1 22)) ((σ.2.2.1 23)) ((σ.2.2.1 24)) ((σ.2.2.1 25)) ((σ.2.2.1 26)) ((σ.2.2.1 27)) h_t_net_size h_t_bags_size h_t_law_size h_t_plan_size h_t_plan_knots h_t_plan_others h_t_plan_otherCount h_t_plan_feeders h_t_plan_feederCount h_t_plan_places h_t_plan_going_left h_t_tally_openStates h_t_tally_openCount h_t_tally_picks h_t_tally_strides) fun r hr => ?_
  obtain ⟨q1, q2, q3, q4, q7, q8, q9, q11, q22, q23, q24, q25, -⟩ := hr
  exact sat_some ⟨⟨h_t_net_size, h_t_order_size, h_t_order_knots, h_t_bags_size, h_t_law_size, h_t_going_left, q1, q2, q3, q4, q7, q8, q9, q11, q22, q23, q24, q25, h_t_search_rest_left, h_lf⟩, rfl, rfl, rfl, rfl, rfl, rfl, rfl, rfl, rfl, rfl, rfl, rfl, rfl, rfl, rfl, rfl⟩
set_option maxRecDepth 10000 in
theorem mk_drawn (a1 : Int64) (a3 : Int32) (μ : MS) (h : SafeM μ) : Sat (sm_drawn a1 a3 μ) (fun p => SafeM p.2 ∧ (p.2.1 0) = (μ.1 0) ∧ (p.2.2.2.1 0) = (μ.2.2.1 0) ∧ (p.2.2.2.1 1) = (μ.2.2.1 1) ∧ (p.2.2.2.1 2) = (μ.2.2.1 2) ∧ (p.2.1 3) = (μ.1 3) ∧ (p.2.2.2.1 7) = (μ.2.2.1 7) ∧ (p.2.2.2.1 8) = (μ.2.2.1 8) ∧ (p.2.2.2.1 10) = (μ.2.2.1 10) ∧ (p.2.2.2.1 9) = (μ.2.2.1 9) ∧ (p.2.1 1) = (μ.1 1) ∧ (p.2.2.2.1 3) = (μ.2.2.1 3) ∧ (p.2.1 2) = (μ.1 2) ∧ (p.2.2.2.1 4) = (μ.2.2.1 4) ∧ (p.2.2.2.1 5) = (μ.2.2.1 5)) := by
  obtain ⟨h_t_knots, h_t_rowed, h_t_bags, h_t_q, h_t_beside, h_t_row, h_t_bag, h_t_up, h_t_state, h_RW⟩ := h
  unfold sm_drawn
  refine sat_cal (s_X9_drawn a1 a3 ((μ.1 0)) ((μ.1 2)) ((μ.1 3)) ((μ.2.1 0)) ((μ.2.1 1)) ((μ.2.1 2)) ((μ.2.2.1 0)) ((μ.2.2.1 1)) ((μ.2.2.1 2)) ((μ.2.2.1 4)) ((μ.2.2.1 5)) ((μ.2.2.1 7)) ((μ.2.2.1 8)) ((μ.2.2.1 9)) ((μ.2.2.1 10)) ((μ.2.2.1 11)) ((μ.2.2.1 12)) ((μ.2.2.2 0)) ((μ.2.2.2 1)) ((μ.2.2.2 2)) h_t_knots h_t_bags h_t_q h_t_beside h_t_bag h_t_up h_t_state) fun r hr => ?_
  obtain ⟨q5, -⟩ := hr
  exact sat_some ⟨⟨h_t_knots, h_t_rowed, h_t_bags, h_t_q, h_t_beside, h_t_row, h_t_bag, h_t_up, q5, h_RW⟩, rfl, rfl, rfl, rfl, rfl, rfl, rfl, rfl, rfl, rfl, rfl, rfl, rfl, rfl⟩
set_option maxRecDepth 10000 in
theorem xk_share (a1 : Int32) (a2 : Int32) (σ : XS) (h : SafeX σ) : Sat (sx_share a1 a2 σ) (fun p => SafeX p.2 ∧ (p.2.1 0) = (σ.1 0) ∧ (p.2.2.2.1 0) = (σ.2.2.1 0) ∧ (p.2.2.2.1 1) = (σ.2.2.1 1) ∧ (p.2.2.2.1 2) = (σ.2.2.1 2) ∧ (p.2.1 5) = (σ.1 5) ∧ (p.2.2.2.1 6) = (σ.2.2.1 6) ∧ (p.2.2.2.1 7) = (σ.2.2.1 7) ∧ (p.2.2.2.1 8) = (σ.2.2.1 8) ∧ (p.2.2.2.1 9) = (σ.2.2.1 9) ∧ (p.2.1 1) = (σ.1 1) ∧ (p.2.1 2) = (σ.1 2) ∧ (p.2.1 3) = (σ.1 3) ∧ (p.2.2.2.1 3) = (σ.2.2.1 3) ∧ (p.2.1 4) = (σ.1 4) ∧ (p.2.2.2.1 4) = (σ.2.2.1 4) ∧ (p.2.2.2.1 5) = (σ.2.2.1 5)) := by
  obtain ⟨h_t_net_size, h_t_order_size, h_t_order_knots, h_t_bags_size, h_t_law_size, h_t_going_left, h_t_plan_size, h_t_plan_knots, h_t_plan_others, h_t_plan_otherCount, h_t_plan_feeders, h_t_plan_feederCount, h_t_plan_places, h_t_plan_going_left, h_t_tally_openStates, h_t_tally_openCount, h_t_tally_picks, h_t_tally_strides, h_t_search_rest_left, h_lf⟩ := h
  unfold sx_share
  refine sat_cal (s_X8_share a1 a2 ((σ.1 0)) ((σ.2.2.1 0)) ((σ.2.2.1 1)) ((σ.2.2.1 2)) ((σ.1 4)) ((σ.2.2.1 4)) ((σ.2.2.1 5)) ((σ.1 5)) ((σ.2.2.1 6)) ((σ.2.2.1 7)) ((σ.2.2.1 8)) ((σ.2.2.1 9)) ((σ.1 8)) ((σ.2.2.1 11)) ((σ.2.2.1 12)) ((σ.2.2.1 13)) ((σ.2.2.1 14)) ((σ.2.2.1 15)) ((σ.2.2.1 16)) ((σ.2.2.1 17)) ((σ.2.2.1 18)) ((σ.2.2.1 19)) ((σ.1 9)) ((σ.1 10)) ((σ.2.2.1 20)) ((σ.1 11)) ((σ.1 12)) ((σ.1 13)) ((σ.1 14)) ((σ.1 15)) ((σ.2.2.1 21)) ((σ.2.2.1 22)) ((σ.2.2.1 23)) ((σ.2.2.1 24)) ((σ.2.2.1 25)) ((σ.2.2.1 26)) ((σ.2.2.1 27)) h_t_net_size h_t_bags_size h_t_law_size h_t_plan_size h_t_plan_knots h_t_plan_others h_t_plan_otherCount h_t_plan_feeders h_t_plan_feederCount h_t_plan_places h_t_plan_going_left h_t_tally_openStates h_t_tally_openCount h_t_tally_picks h_t_tally_strides) fun r hr => ?_
  obtain ⟨q1, q2, q3, q4, q7, q8, q9, q11, q20, q21, q22, q23, -⟩ := hr
  exact sat_some ⟨⟨h_t_net_size, h_t_order_size, h_t_order_knots, h_t_bags_size, h_t_law_size, h_t_going_left, q1, q2, q3, q4, q7, q8, q9, q11, q20, q21, q22, q23, h_t_search_rest_left, h_lf⟩, rfl, rfl, rfl, rfl, rfl, rfl, rfl, rfl, rfl, rfl, rfl, rfl, rfl, rfl, rfl, rfl⟩
set_option maxRecDepth 10000 in
theorem mk_share (a1 : Int32) (a2 : Int32) (μ : MS) (h : SafeM μ) : Sat (sm_share a1 a2 μ) (fun p => SafeM p.2 ∧ (p.2.1 0) = (μ.1 0) ∧ (p.2.2.2.1 0) = (μ.2.2.1 0) ∧ (p.2.2.2.1 1) = (μ.2.2.1 1) ∧ (p.2.2.2.1 2) = (μ.2.2.1 2) ∧ (p.2.1 3) = (μ.1 3) ∧ (p.2.2.2.1 7) = (μ.2.2.1 7) ∧ (p.2.2.2.1 8) = (μ.2.2.1 8) ∧ (p.2.2.2.1 10) = (μ.2.2.1 10) ∧ (p.2.2.2.1 9) = (μ.2.2.1 9) ∧ (p.2.1 1) = (μ.1 1) ∧ (p.2.2.2.1 3) = (μ.2.2.1 3) ∧ (p.2.1 2) = (μ.1 2) ∧ (p.2.2.2.1 4) = (μ.2.2.1 4) ∧ (p.2.2.2.1 5) = (μ.2.2.1 5)) := by
  obtain ⟨h_t_knots, h_t_rowed, h_t_bags, h_t_q, h_t_beside, h_t_row, h_t_bag, h_t_up, h_t_state, h_RW⟩ := h
  unfold sm_share
  refine sat_cal (s_X9_share a1 a2 ((μ.1 0)) ((μ.1 2)) ((μ.1 3)) ((μ.2.1 0)) ((μ.2.1 1)) ((μ.2.1 2)) ((μ.2.2.1 0)) ((μ.2.2.1 1)) ((μ.2.2.1 2)) ((μ.2.2.1 4)) ((μ.2.2.1 5)) ((μ.2.2.1 7)) ((μ.2.2.1 8)) ((μ.2.2.1 9)) ((μ.2.2.1 10)) ((μ.2.2.1 11)) ((μ.2.2.1 12)) ((μ.2.2.2 0)) ((μ.2.2.2 1)) ((μ.2.2.2 2)) h_t_knots h_t_bags h_t_q h_t_beside h_t_bag h_t_up h_t_state) fun r hr => ?_
  obtain ⟨q5, -⟩ := hr
  exact sat_some ⟨⟨h_t_knots, h_t_rowed, h_t_bags, h_t_q, h_t_beside, h_t_row, h_t_bag, h_t_up, q5, h_RW⟩, rfl, rfl, rfl, rfl, rfl, rfl, rfl, rfl, rfl, rfl, rfl, rfl, rfl, rfl⟩
set_option maxRecDepth 10000 in
theorem ok3_0 (j : Nat) : Ok_0 I3 j := by
  intro a1 σ μ hI
  obtain ⟨hX, hM, ⟨t0, t1, t2, t3, t4, t5, t6, t7, t8, tz⟩, n, en, hE, hO, hB⟩ := hI
  have em : ((μ.1 0)) = nI n := t0.symm.trans en
  have hn : n ≤ 14 := NetE_n hE
  obtain ⟨r, m, hr, hm, e1, hc⟩ := knot3 a1 ((σ.1 2)) ((σ.1 3)) ((σ.1 4)) ((μ.1 1)) ((μ.1 2)) hn ((σ.2.2.1 0)) ((σ.2.2.1 1)) (fun i hi => tz i (by rw [en]; exact hi))
  have hr2 : f_X8_knot a1 ((σ.1 0)) ((σ.2.2.1 0)) ((σ.1 2)) ((σ.1 3)) ((σ.1 4)) = some r := by rw [en]; exact hr
  have hm2 : f_X9_knot a1 ((μ.1 0)) ((μ.1 1)) ((μ.1 2)) ((μ.2.2.1 0)) ((μ.2.2.1 1)) = some m := by rw [em, ← t1, ← t2]; exact hm
  obtain ⟨r1, r2⟩ := r
  obtain ⟨m1, m2⟩ := m
  dsimp only at e1 hc
  subst e1
  rcases hc with ⟨rfl, rfl⟩ | ⟨hlt, w1, rfl, rfl⟩
  · obtain ⟨⟨v, σ2⟩, hx, hX3, -⟩ := xs_knot a1 σ hX
    obtain ⟨⟨w, μ2⟩, hy, hM3, -⟩ := ms_knot a1 μ hM
    have hx0 := hx
    have hy0 := hy
    unfold sx_knot at hx
    rw [cal_e hr2] at hx
    cases hx
    unfold sm_knot at hy
    rw [cal_e hm2] at hy
    cases hy
    exact ⟨_, _, _, _, hx0, hy0, (by first | exact True.intro | exact rfl), hX3, hM3, ⟨rfl, rfl, rfl, t3, t4, t5, t6, t7, t8, fun i hi => tz i (by rw [en]; exact hi)⟩, n, rfl, hE, hO, hB⟩
  · obtain ⟨⟨v, σ2⟩, hx, hX3, -⟩ := xs_knot a1 σ hX
    obtain ⟨⟨w, μ2⟩, hy, hM3, -⟩ := ms_knot a1 μ hM
    have hx0 := hx
    have hy0 := hy
    unfold sx_knot at hx
    rw [cal_e hr2] at hx
    cases hx
    unfold sm_knot at hy
    rw [cal_e hm2] at hy
    cases hy
    exact ⟨_, _, _, _, hx0, hy0, (by first | exact True.intro | exact rfl), hX3, hM3, ⟨rfl, rfl, rfl, t3, t4, t5, t6, t7, t8, fun i hi => tz i (by rw [en, nI_toInt (by omega)]; have : (nI (n + 1)).toInt = ((n + 1 : Nat) : Int) := nI_toInt (by omega); have hi2 : (nI (n + 1)).toInt ≤ (i : Int) := hi; omega)⟩, n + 1, rfl, Net_S hE hlt, Ord_0 _ _ _, Bag_0 _ hB.2.1 hB.2.2.1⟩
set_option maxRecDepth 10000 in
theorem ok3_1 (j : Nat) : Ok_1 I3 j := by
  intro a1 a2 a3 σ μ hI
  obtain ⟨hX, hM, ⟨t0, t1, t2, t3, t4, t5, t6, t7, t8, tz⟩, n, en, hE, hO, hB⟩ := hI
  have em : ((μ.1 0)) = nI n := t0.symm.trans en
  have hn : n ≤ 14 := NetE_n hE
  have hX2 := hX
  unfold SafeX at hX2
  obtain ⟨h_t_net_size, h_t_order_size, h_t_order_knots, h_t_bags_size, h_t_law_size, h_t_going_left, h_t_plan_size, h_t_plan_knots, h_t_plan_others, h_t_plan_otherCount, h_t_plan_feeders, h_t_plan_feederCount, h_t_plan_places, h_t_plan_going_left, h_t_tally_openStates, h_t_tally_openCount, h_t_tally_picks, h_t_tally_strides, h_t_search_rest_left, h_lf⟩ := hX2
  obtain ⟨r, m, hr, hm, e, hz⟩ := edge_rel a1 a2 a3 ((σ.1 0)) ((σ.1 1)) ((σ.2.2.1 1)) ((σ.2.2.1 2)) h_t_net_size
  subst e
  rw [t0, t2, t3] at hm
  have hE2 := edge_net hE a1 a2 a3 ((σ.2.2.1 2)) (by rw [← en]; exact hr)
  obtain ⟨⟨v, σ2⟩, hx, hX3, -⟩ := xs_edge a1 a2 a3 σ hX
  obtain ⟨⟨w, μ2⟩, hy, hM3, -⟩ := ms_edge a1 a2 a3 μ hM
  have hx0 := hx
  have hy0 := hy
  unfold sx_edge at hx
  rw [cal_e hr] at hx
  cases hx
  unfold sm_edge at hy
  rw [cal_e hm] at hy
  cases hy
  exact ⟨_, _, _, _, hx0, hy0, (by first | exact True.intro | exact rfl), hX3, hM3, ⟨t0, t1, rfl, rfl, t4, t5, t6, t7, t8, fun i hi => (hz i hi).trans (tz i hi)⟩, n, en, hE2, hO, hB⟩
set_option maxRecDepth 10000 in
theorem ok3_2 (j : Nat) : Ok_2 I3 j := by
  intro a1 a2 σ μ hI
  obtain ⟨hX, hM, ⟨t0, t1, t2, t3, t4, t5, t6, t7, t8, tz⟩, n, en, hE, hO, hB⟩ := hI
  have em : ((μ.1 0)) = nI n := t0.symm.trans en
  have hn : n ≤ 14 := NetE_n hE
  have hX2 := hX
  unfold SafeX at hX2
  obtain ⟨h_t_net_size, h_t_order_size, h_t_order_knots, h_t_bags_size, h_t_law_size, h_t_going_left, h_t_plan_size, h_t_plan_knots, h_t_plan_others, h_t_plan_otherCount, h_t_plan_feeders, h_t_plan_feederCount, h_t_plan_places, h_t_plan_going_left, h_t_tally_openStates, h_t_tally_openCount, h_t_tally_picks, h_t_tally_strides, h_t_search_rest_left, h_lf⟩ := hX2
  obtain ⟨r, m, hr, hm, e, hz⟩ := cut_rel a1 a2 ((σ.1 0)) ((σ.1 1)) ((σ.2.2.1 1)) ((σ.2.2.1 2)) h_t_net_size
  subst e
  rw [t0, t2, t3] at hm
  have hE2 := cut_net hE a1 a2 ((σ.2.2.1 2)) (by rw [← en]; exact hr)
  obtain ⟨⟨v, σ2⟩, hx, hX3, -⟩ := xs_cut a1 a2 σ hX
  obtain ⟨⟨w, μ2⟩, hy, hM3, -⟩ := ms_cut a1 a2 μ hM
  have hx0 := hx
  have hy0 := hy
  unfold sx_cut at hx
  rw [cal_e hr] at hx
  cases hx
  unfold sm_cut at hy
  rw [cal_e hm] at hy
  cases hy
  exact ⟨_, _, _, _, hx0, hy0, (by first | exact True.intro | exact rfl), hX3, hM3, ⟨t0, t1, rfl, t3, t4, t5, t6, t7, t8, fun i hi => (hz i hi).trans (tz i hi)⟩, n, en, hE2, hO, hB⟩
set_option maxRecDepth 10000 in
theorem ok3_3 (j : Nat) : Ok_3 I3 j := by
  intro a1 a2 σ μ hI
  obtain ⟨hX, hM, ⟨t0, t1, t2, t3, t4, t5, t6, t7, t8, tz⟩, n, en, hE, hO, hB⟩ := hI
  have em : ((μ.1 0)) = nI n := t0.symm.trans en
  have hn : n ≤ 14 := NetE_n hE
  have hX2 := hX
  unfold SafeX at hX2
  obtain ⟨h_t_net_size, h_t_order_size, h_t_order_knots, h_t_bags_size, h_t_law_size, h_t_going_left, h_t_plan_size, h_t_plan_knots, h_t_plan_others, h_t_plan_otherCount, h_t_plan_feeders, h_t_plan_feederCount, h_t_plan_places, h_t_plan_going_left, h_t_tally_openStates, h_t_tally_openCount, h_t_tally_picks, h_t_tally_strides, h_t_search_rest_left, h_lf⟩ := hX2
  obtain ⟨r, hr, -⟩ := s_X8_weigh a1 a2 ((σ.1 0)) ((σ.2.2.1 0)) h_t_net_size
  have hm := hr
  rw [t0, t1] at hm
  rw [← weigh_eq] at hm
  obtain ⟨⟨v, σ2⟩, hx, hX3, -⟩ := xs_weigh a1 a2 σ hX
  obtain ⟨⟨w, μ2⟩, hy, hM3, -⟩ := ms_weigh a1 a2 μ hM
  have hx0 := hx
  have hy0 := hy
  unfold sx_weigh at hx
  rw [cal_e hr] at hx
  cases hx
  unfold sm_weigh at hy
  rw [cal_e hm] at hy
  cases hy
  exact ⟨_, _, _, _, hx0, hy0, (by first | exact True.intro | exact rfl), hX3, hM3, ⟨t0, rfl, t2, t3, t4, t5, t6, t7, t8, tz⟩, n, en, hE, hO, hB⟩
set_option maxRecDepth 10000 in
theorem ok3_4 (j : Nat) : Ok_4 I3 j := by
  intro a1 a2 σ μ hI
  obtain ⟨hX, hM, ⟨t0, t1, t2, t3, t4, t5, t6, t7, t8, tz⟩, n, en, hE, hO, hB⟩ := hI
  have em : ((μ.1 0)) = nI n := t0.symm.trans en
  have hn : n ≤ 14 := NetE_n hE
  have hX2 := hX
  unfold SafeX at hX2
  obtain ⟨h_t_net_size, h_t_order_size, h_t_order_knots, h_t_bags_size, h_t_law_size, h_t_going_left, h_t_plan_size, h_t_plan_knots, h_t_plan_others, h_t_plan_otherCount, h_t_plan_feeders, h_t_plan_feederCount, h_t_plan_places, h_t_plan_going_left, h_t_tally_openStates, h_t_tally_openCount, h_t_tally_picks, h_t_tally_strides, h_t_search_rest_left, h_lf⟩ := hX2
  obtain ⟨r, hr, -⟩ := s_X8_weight a1 a2 ((σ.1 0)) ((σ.2.2.1 0)) ((σ.2.2.1 1)) ((σ.2.2.1 2)) h_t_net_size
  have hm := hr
  rw [t0, t1, t2, t3] at hm
  rw [← weight_eq] at hm
  obtain ⟨⟨v, σ2⟩, hx, hX3, -⟩ := xs_weight a1 a2 σ hX
  obtain ⟨⟨w, μ2⟩, hy, hM3, -⟩ := ms_weight a1 a2 μ hM
  have hx0 := hx
  have hy0 := hy
  unfold sx_weight at hx
  rw [cal_e hr] at hx
  cases hx
  unfold sm_weight at hy
  rw [cal_e hm] at hy
  cases hy
  exact ⟨_, _, _, _, hx0, hy0, (by first | exact True.intro | exact rfl), hX3, hM3, ⟨t0, t1, t2, t3, t4, t5, t6, t7, t8, tz⟩, n, en, hE, hO, hB⟩
set_option maxRecDepth 10000 in
theorem ok3_5 (j : Nat) : Ok_5 I3 j := by
  intro a1 σ μ hI
  obtain ⟨hX, hM, ⟨t0, t1, t2, t3, t4, t5, t6, t7, t8, tz⟩, n, en, hE, hO, hB⟩ := hI
  have em : ((μ.1 0)) = nI n := t0.symm.trans en
  have hn : n ≤ 14 := NetE_n hE
  have hX2 := hX
  unfold SafeX at hX2
  obtain ⟨h_t_net_size, h_t_order_size, h_t_order_knots, h_t_bags_size, h_t_law_size, h_t_going_left, h_t_plan_size, h_t_plan_knots, h_t_plan_others, h_t_plan_otherCount, h_t_plan_feeders, h_t_plan_feederCount, h_t_plan_places, h_t_plan_going_left, h_t_tally_openStates, h_t_tally_openCount, h_t_tally_picks, h_t_tally_strides, h_t_search_rest_left, h_lf⟩ := hX2
  obtain ⟨r, hr, -⟩ := s_X8_beside a1 ((σ.1 0)) ((σ.2.2.1 1)) h_t_net_size
  have hm := hr
  rw [t0, t2] at hm
  rw [← beside_eq] at hm
  obtain ⟨⟨v, σ2⟩, hx, hX3, -⟩ := xs_beside a1 σ hX
  obtain ⟨⟨w, μ2⟩, hy, hM3, -⟩ := ms_beside a1 μ hM
  have hx0 := hx
  have hy0 := hy
  unfold sx_beside at hx
  rw [cal_e hr] at hx
  cases hx
  unfold sm_beside at hy
  rw [cal_e hm] at hy
  cases hy
  exact ⟨_, _, _, _, hx0, hy0, (by first | exact True.intro | exact rfl), hX3, hM3, ⟨t0, t1, t2, t3, t4, t5, t6, t7, t8, tz⟩, n, en, hE, hO, hB⟩
set_option maxRecDepth 10000 in
theorem ok3_6 (j : Nat) : Ok_6 I3 j := by
  intro a1 σ μ hI
  obtain ⟨hX, hM, ⟨t0, t1, t2, t3, t4, t5, t6, t7, t8, tz⟩, n, en, hE, hO, hB⟩ := hI
  have em : ((μ.1 0)) = nI n := t0.symm.trans en
  have hn : n ≤ 14 := NetE_n hE
  obtain ⟨x, m, hr, hm, e1, hO2⟩ := put_rel hn hO a1
  have hr2 : f_X8_put a1 ((σ.1 0)) ((σ.1 2)) ((σ.1 3)) ((σ.2.2.1 3)) = some x := by rw [en]; exact hr
  have hm2 : f_X9_put a1 ((μ.1 0)) ((μ.1 1)) ((μ.2.2.1 3)) = some m := by rw [em]; exact hm
  obtain ⟨⟨v, σ2⟩, hx, hX3, -⟩ := xs_put a1 σ hX
  obtain ⟨⟨w, μ2⟩, hy, hM3, -⟩ := ms_put a1 μ hM
  have hx0 := hx
  have hy0 := hy
  unfold sx_put at hx
  rw [cal_e hr2] at hx
  cases hx
  unfold sm_put at hy
  rw [cal_e hm2] at hy
  cases hy
  exact ⟨_, _, _, _, hx0, hy0, (by first | exact True.intro | exact e1.symm), hX3, hM3, ⟨t0, t1, t2, t3, t4, t5, t6, t7, t8, tz⟩, n, en, hE, hO2, hB⟩
set_option maxRecDepth 10000 in
theorem ok3_7 (j : Nat) : Ok_7 I3 j := by
  intro  σ μ hI
  obtain ⟨hX, hM, ⟨t0, t1, t2, t3, t4, t5, t6, t7, t8, tz⟩, n, en, hE, hO, hB⟩ := hI
  have em : ((μ.1 0)) = nI n := t0.symm.trans en
  have hn : n ≤ 14 := NetE_n hE
  have hr2 : f_X8_wipe ((σ.1 2)) ((σ.1 3)) = some (((σ.1 2)), 0, 0) := rfl
  have hm2 : f_X9_wipe ((μ.1 1)) = some (((μ.1 1)), 0) := rfl
  obtain ⟨⟨v, σ2⟩, hx, hX3, -⟩ := xs_wipe  σ hX
  obtain ⟨⟨w, μ2⟩, hy, hM3, -⟩ := ms_wipe  μ hM
  have hx0 := hx
  have hy0 := hy
  unfold sx_wipe at hx
  rw [cal_e hr2] at hx
  cases hx
  unfold sm_wipe at hy
  rw [cal_e hm2] at hy
  cases hy
  exact ⟨_, _, _, _, hx0, hy0, (by first | exact True.intro | exact ord_sz hO), hX3, hM3, ⟨t0, t1, t2, t3, t4, t5, t6, t7, t8, tz⟩, n, en, hE, Ord_0 _ _ _, hB⟩
set_option maxRecDepth 10000 in
theorem ok3_8 (j : Nat) : Ok_8 I3 j := by
  intro  σ μ hI
  obtain ⟨hX, hM, ⟨t0, t1, t2, t3, t4, t5, t6, t7, t8, tz⟩, n, en, hE, hO, hB⟩ := hI
  have em : ((μ.1 0)) = nI n := t0.symm.trans en
  have hn : n ≤ 14 := NetE_n hE
  obtain ⟨B, cc, N, _, _⟩ := id hE
  obtain ⟨x, m, hr, hm, e1, hB2⟩ := make_rel N hO hB ((σ.1 6)) ((σ.1 7)) ((σ.2.2.1 10))
  have hr2 : f_X8_make ((σ.1 0)) ((σ.2.2.1 1)) ((σ.1 2)) ((σ.2.2.1 3)) ((σ.1 4)) ((σ.2.2.1 4)) ((σ.2.2.1 5)) ((σ.1 6)) ((σ.1 7)) ((σ.2.2.1 10)) = some x := by rw [en]; exact hr
  have hm2 : f_X9_make ((μ.1 0)) ((μ.1 1)) ((μ.1 2)) ((μ.2.2.1 1)) ((μ.2.2.1 3)) ((μ.2.2.1 4)) ((μ.2.2.1 5)) = some m := by rw [em, ← t2]; exact hm
  obtain ⟨⟨v, σ2⟩, hx, hX3, -⟩ := xs_make  σ hX
  obtain ⟨⟨w, μ2⟩, hy, hM3, -⟩ := ms_make  μ hM
  have hx0 := hx
  have hy0 := hy
  unfold sx_make at hx
  rw [cal_e hr2] at hx
  cases hx
  unfold sm_make at hy
  rw [cal_e hm2] at hy
  cases hy
  exact ⟨_, _, _, _, hx0, hy0, (by first | exact True.intro | exact e1.symm), hX3, hM3, ⟨t0, t1, t2, t3, t4, t5, t6, t7, t8, tz⟩, n, en, hE, hO, hB2⟩
set_option maxRecDepth 10000 in
theorem ok3_9 (j : Nat) : Ok_9 I3 j := by
  intro  σ μ hI
  obtain ⟨hX, hM, ⟨t0, t1, t2, t3, t4, t5, t6, t7, t8, tz⟩, n, en, hE, hO, hB⟩ := hI
  have em : ((μ.1 0)) = nI n := t0.symm.trans en
  have hn : n ≤ 14 := NetE_n hE
  obtain ⟨B, cc, N, _, _⟩ := id hE
  obtain ⟨x, m, hr, hm, e1⟩ := fills_rel N hO ((σ.1 6)) ((σ.1 7)) ((σ.2.2.1 10))
  have hr2 : f_X8_fills ((σ.1 0)) ((σ.2.2.1 1)) ((σ.1 2)) ((σ.2.2.1 3)) ((σ.1 6)) ((σ.1 7)) ((σ.2.2.1 10)) = some x := by rw [en]; exact hr
  have hm2 : f_X9_fills ((μ.1 0)) ((μ.1 1)) ((μ.2.2.1 1)) ((μ.2.2.1 3)) = some m := by rw [em, ← t2]; exact hm
  obtain ⟨⟨v, σ2⟩, hx, hX3, -⟩ := xs_fills  σ hX
  obtain ⟨⟨w, μ2⟩, hy, hM3, -⟩ := ms_fills  μ hM
  have hx0 := hx
  have hy0 := hy
  unfold sx_fills at hx
  rw [cal_e hr2] at hx
  cases hx
  unfold sm_fills at hy
  rw [cal_e hm2] at hy
  cases hy
  exact ⟨_, _, _, _, hx0, hy0, (by first | exact True.intro | exact e1.symm), hX3, hM3, ⟨t0, t1, t2, t3, t4, t5, t6, t7, t8, tz⟩, n, en, hE, hO, hB⟩
set_option maxRecDepth 10000 in
theorem ok3_10 (j : Nat) : Ok_10 I3 j := by
  intro  σ μ hI
  obtain ⟨hX, hM, ⟨t0, t1, t2, t3, t4, t5, t6, t7, t8, tz⟩, n, en, hE, hO, hB⟩ := hI
  have em : ((μ.1 0)) = nI n := t0.symm.trans en
  have hn : n ≤ 14 := NetE_n hE
  obtain ⟨B, cc, N, _, _⟩ := id hE
  obtain ⟨w1, kn, rw1, x1, x2, x3, hr, hm, f1, f2, f3⟩ := fewest_rel N ((σ.1 2)) ((σ.1 3)) ((σ.1 6)) ((σ.1 7)) ((μ.1 1)) ((σ.2.2.1 3)) ((σ.2.2.1 10)) ((μ.2.2.1 3))
  have hr2 : f_X8_fewest ((σ.1 0)) ((σ.2.2.1 1)) ((σ.1 2)) ((σ.1 3)) ((σ.2.2.1 3)) ((σ.1 6)) ((σ.1 7)) ((σ.2.2.1 10)) = some (w1, nI n, nI (2 ^ n - 1), kn, x1, x2, x3) := by rw [en]; exact hr
  have hm2 : f_X9_fewest ((μ.1 0)) ((μ.1 1)) ((μ.2.2.1 1)) ((μ.2.2.1 3)) = some (w1, nI n, rw1) := by rw [em, ← t2]; exact hm
  obtain ⟨⟨v, σ2⟩, hx, hX3, -⟩ := xs_fewest  σ hX
  obtain ⟨⟨w, μ2⟩, hy, hM3, -⟩ := ms_fewest  μ hM
  have hx0 := hx
  have hy0 := hy
  unfold sx_fewest at hx
  rw [cal_e hr2] at hx
  cases hx
  unfold sm_fewest at hy
  rw [cal_e hm2] at hy
  cases hy
  exact ⟨_, _, _, _, hx0, hy0, (by first | exact True.intro | exact rfl), hX3, hM3, ⟨t0, t1, t2, t3, t4, t5, t6, t7, t8, tz⟩, n, en, hE, Ord_full hn f1 f2 f3, hB⟩
set_option maxRecDepth 10000 in
theorem ok3_11 (j : Nat) : Ok_11 I3 j := by
  intro  σ μ hI
  obtain ⟨hX, hM, ⟨t0, t1, t2, t3, t4, t5, t6, t7, t8, tz⟩, n, en, hE, hO, hB⟩ := hI
  have em : ((μ.1 0)) = nI n := t0.symm.trans en
  have hn : n ≤ 14 := NetE_n hE
  obtain ⟨B, cc, N, _, _⟩ := id hE
  obtain ⟨w1, kn, rw1, T1, a1, a2, a3, b1, b2, b3, b4, s1, s2, s3, hr, hm, f1, f2, f3⟩ := least_rel N ((σ.1 6)) ((σ.1 7)) ((σ.1 2)) ((σ.1 3)) ((σ.1 17)) ((σ.1 18)) ((σ.1 19)) ((μ.1 1)) ((σ.2.2.1 10)) ((σ.2.2.1 3)) ((σ.2.2.1 28)) ((μ.2.2.1 3)) ((μ.2.2.1 6)) ((σ.2.2.2.1 0)) ((σ.2.2.1 29)) ((σ.2.2.1 30)) σ.2.2.2.2
  have hr2 : f_X8_least ((σ.1 6)) ((σ.1 7)) ((σ.2.2.1 10)) ((σ.1 2)) ((σ.1 3)) ((σ.2.2.1 3)) ((σ.1 0)) ((σ.2.2.1 1)) ((σ.1 17)) ((σ.1 18)) ((σ.1 19)) ((σ.2.2.1 28)) ((σ.2.2.2.1 0)) ((σ.2.2.1 29)) ((σ.2.2.1 30)) (σ.2.2.2.2) = some (w1, a1, a2, a3, nI n, nI (2 ^ n - 1), kn, w1, b1, b2, b3, b4, s1, s2, s3) := by rw [en]; exact hr
  have hm2 : f_X9_least ((μ.1 0)) ((μ.1 1)) ((μ.2.2.1 1)) ((μ.2.2.1 3)) ((μ.2.2.1 6)) = some (w1, nI n, rw1, T1) := by rw [em, ← t2]; exact hm
  obtain ⟨⟨v, σ2⟩, hx, hX3, -⟩ := xs_least  σ hX
  obtain ⟨⟨w, μ2⟩, hy, hM3, -⟩ := ms_least  μ hM
  have hx0 := hx
  have hy0 := hy
  unfold sx_least at hx
  rw [cal_e hr2] at hx
  cases hx
  unfold sm_least at hy
  rw [cal_e hm2] at hy
  cases hy
  exact ⟨_, _, _, _, hx0, hy0, (by first | exact True.intro | exact rfl), hX3, hM3, ⟨t0, t1, t2, t3, t4, t5, t6, t7, t8, tz⟩, n, en, hE, Ord_full hn f1 f2 f3, hB⟩
set_option maxRecDepth 10000 in
theorem ok3_12 (j : Nat) : Ok_12 I3 j := by
  intro a1 σ μ hI
  obtain ⟨hX, hM, ⟨t0, t1, t2, t3, t4, t5, t6, t7, t8, tz⟩, n, en, hE, hO, hB⟩ := hI
  have em : ((μ.1 0)) = nI n := t0.symm.trans en
  have hn : n ≤ 14 := NetE_n hE
  obtain ⟨x, m, hr, hm, e1⟩ := row_rel hn hO a1
  have hr2 : f_X8_row a1 ((σ.1 2)) ((σ.2.2.1 3)) = some x := by exact hr
  have hm2 : f_X9_row a1 ((μ.1 1)) ((μ.2.2.1 3)) = some m := by exact hm
  obtain ⟨⟨v, σ2⟩, hx, hX3, -⟩ := xs_row a1 σ hX
  obtain ⟨⟨w, μ2⟩, hy, hM3, -⟩ := ms_row a1 μ hM
  have hx0 := hx
  have hy0 := hy
  unfold sx_row at hx
  rw [cal_e hr2] at hx
  cases hx
  unfold sm_row at hy
  rw [cal_e hm2] at hy
  cases hy
  exact ⟨_, _, _, _, hx0, hy0, (by first | exact True.intro | exact e1.symm), hX3, hM3, ⟨t0, t1, t2, t3, t4, t5, t6, t7, t8, tz⟩, n, en, hE, hO, hB⟩
set_option maxRecDepth 10000 in
theorem ok3_13 (j : Nat) : Ok_13 I3 j := by
  intro  σ μ hI
  obtain ⟨hX, hM, ⟨t0, t1, t2, t3, t4, t5, t6, t7, t8, tz⟩, n, en, hE, hO, hB⟩ := hI
  have em : ((μ.1 0)) = nI n := t0.symm.trans en
  have hn : n ≤ 14 := NetE_n hE
  obtain ⟨B, cc, N, _, _⟩ := id hE
  obtain ⟨w1, x1, x2, x3, hr, hm, -⟩ := below_rel N ((σ.1 6)) ((σ.1 7)) ((σ.2.2.1 10))
  have hr2 : f_X8_below ((σ.1 0)) ((σ.2.2.1 1)) ((σ.1 6)) ((σ.1 7)) ((σ.2.2.1 10)) = some (w1, x1, x2, x3) := by
    rw [en]
    unfold f_X8_below
    rw [cal_e hr]
  have hm2 : f_X9_below ((μ.1 0)) ((μ.2.2.1 1)) = some w1 := by rw [em, ← t2]; exact hm
  obtain ⟨⟨v, σ2⟩, hx, hX3, -⟩ := xs_below  σ hX
  obtain ⟨⟨w, μ2⟩, hy, hM3, -⟩ := ms_below  μ hM
  have hx0 := hx
  have hy0 := hy
  unfold sx_below at hx
  rw [cal_e hr2] at hx
  cases hx
  unfold sm_below at hy
  rw [cal_e hm2] at hy
  cases hy
  exact ⟨_, _, _, _, hx0, hy0, (by first | exact True.intro | exact rfl), hX3, hM3, ⟨t0, t1, t2, t3, t4, t5, t6, t7, t8, tz⟩, n, en, hE, hO, hB⟩
set_option maxRecDepth 10000 in
theorem ok3_14 (j : Nat) : Ok_14 I3 j := by
  intro  σ μ hI
  obtain ⟨hX, hM, ⟨t0, t1, t2, t3, t4, t5, t6, t7, t8, tz⟩, n, en, hE, hO, hB⟩ := hI
  have em : ((μ.1 0)) = nI n := t0.symm.trans en
  have hn : n ≤ 14 := NetE_n hE
  have hr2 : f_X8_clear ((σ.1 4)) = some (((σ.1 4)), 0) := rfl
  have hm2 : f_X9_clear ((μ.1 2)) = some (((μ.1 2)), 0) := rfl
  obtain ⟨⟨v, σ2⟩, hx, hX3, -⟩ := xs_clear  σ hX
  obtain ⟨⟨w, μ2⟩, hy, hM3, -⟩ := ms_clear  μ hM
  have hx0 := hx
  have hy0 := hy
  unfold sx_clear at hx
  rw [cal_e hr2] at hx
  cases hx
  unfold sm_clear at hy
  rw [cal_e hm2] at hy
  cases hy
  exact ⟨_, _, _, _, hx0, hy0, (by first | exact True.intro | exact hB.1), hX3, hM3, ⟨t0, t1, t2, t3, t4, t5, t6, t7, t8, tz⟩, n, en, hE, hO, Bag_0 _ hB.2.1 hB.2.2.1⟩
set_option maxRecDepth 10000 in
theorem ok3_15 (j : Nat) : Ok_15 I3 j := by
  intro a1 σ μ hI
  obtain ⟨hX, hM, ⟨t0, t1, t2, t3, t4, t5, t6, t7, t8, tz⟩, n, en, hE, hO, hB⟩ := hI
  have em : ((μ.1 0)) = nI n := t0.symm.trans en
  have hn : n ≤ 14 := NetE_n hE
  obtain ⟨x, m, hr, hm, e1, hB2⟩ := bag_rel hn hB a1
  have hr2 : f_X8_bag a1 ((σ.1 0)) ((σ.1 4)) ((σ.2.2.1 4)) ((σ.2.2.1 5)) = some x := by rw [en]; exact hr
  have hm2 : f_X9_bag a1 ((μ.1 0)) ((μ.1 2)) ((μ.2.2.1 4)) ((μ.2.2.1 5)) = some m := by rw [em]; exact hm
  obtain ⟨⟨v, σ2⟩, hx, hX3, -⟩ := xs_bag a1 σ hX
  obtain ⟨⟨w, μ2⟩, hy, hM3, -⟩ := ms_bag a1 μ hM
  have hx0 := hx
  have hy0 := hy
  unfold sx_bag at hx
  rw [cal_e hr2] at hx
  cases hx
  unfold sm_bag at hy
  rw [cal_e hm2] at hy
  cases hy
  exact ⟨_, _, _, _, hx0, hy0, (by first | exact True.intro | exact e1.symm), hX3, hM3, ⟨t0, t1, t2, t3, t4, t5, t6, t7, t8, tz⟩, n, en, hE, hO, hB2⟩
set_option maxRecDepth 10000 in
theorem ok3_16 (j : Nat) : Ok_16 I3 j := by
  intro a1 a2 σ μ hI
  obtain ⟨hX, hM, ⟨t0, t1, t2, t3, t4, t5, t6, t7, t8, tz⟩, n, en, hE, hO, hB⟩ := hI
  have em : ((μ.1 0)) = nI n := t0.symm.trans en
  have hn : n ≤ 14 := NetE_n hE
  obtain ⟨x, m, hr, hm, e1, hB2⟩ := hang_rel hB a1 a2
  have hr2 : f_X8_hang a1 a2 ((σ.1 4)) ((σ.2.2.1 5)) = some x := by exact hr
  have hm2 : f_X9_hang a1 a2 ((μ.1 2)) ((μ.2.2.1 5)) = some m := by exact hm
  obtain ⟨⟨v, σ2⟩, hx, hX3, -⟩ := xs_hang a1 a2 σ hX
  obtain ⟨⟨w, μ2⟩, hy, hM3, -⟩ := ms_hang a1 a2 μ hM
  have hx0 := hx
  have hy0 := hy
  unfold sx_hang at hx
  rw [cal_e hr2] at hx
  cases hx
  unfold sm_hang at hy
  rw [cal_e hm2] at hy
  cases hy
  exact ⟨_, _, _, _, hx0, hy0, (by first | exact True.intro | exact (congrArg Prod.fst e1).symm), hX3, hM3, ⟨t0, t1, t2, t3, t4, t5, t6, t7, t8, tz⟩, n, en, hE, hO, hB2⟩
set_option maxRecDepth 10000 in
theorem ok3_17 (j : Nat) : Ok_17 I3 j := by
  intro a1 a2 σ μ hI
  obtain ⟨hX, hM, ⟨t0, t1, t2, t3, t4, t5, t6, t7, t8, tz⟩, n, en, hE, hO, hB⟩ := hI
  have em : ((μ.1 0)) = nI n := t0.symm.trans en
  have hn : n ≤ 14 := NetE_n hE
  obtain ⟨x, m, hr, hm, e1⟩ := bagged_rel hB a1 a2
  have hr2 : f_X8_bagged a1 a2 ((σ.1 4)) ((σ.2.2.1 4)) ((σ.2.2.1 5)) = some x := by exact hr
  have hm2 : f_X9_bagged a1 a2 ((μ.1 2)) ((μ.2.2.1 4)) ((μ.2.2.1 5)) = some m := by exact hm
  obtain ⟨⟨v, σ2⟩, hx, hX3, -⟩ := xs_bagged a1 a2 σ hX
  obtain ⟨⟨w, μ2⟩, hy, hM3, -⟩ := ms_bagged a1 a2 μ hM
  have hx0 := hx
  have hy0 := hy
  unfold sx_bagged at hx
  rw [cal_e hr2] at hx
  cases hx
  unfold sm_bagged at hy
  rw [cal_e hm2] at hy
  cases hy
  exact ⟨_, _, _, _, hx0, hy0, (by first | exact True.intro | exact e1.symm), hX3, hM3, ⟨t0, t1, t2, t3, t4, t5, t6, t7, t8, tz⟩, n, en, hE, hO, hB⟩
set_option maxRecDepth 10000 in
theorem ok3_18 (j : Nat) : Ok_18 I3 j := by
  intro  σ μ hI
  obtain ⟨hX, hM, ⟨t0, t1, t2, t3, t4, t5, t6, t7, t8, tz⟩, n, en, hE, hO, hB⟩ := hI
  have em : ((μ.1 0)) = nI n := t0.symm.trans en
  have hn : n ≤ 14 := NetE_n hE
  obtain ⟨x, m, hr, hm, e1⟩ := sound_rel hn ((σ.2.2.1 1)) hB
  have hr2 : f_X8_sound ((σ.1 0)) ((σ.2.2.1 1)) ((σ.1 4)) ((σ.2.2.1 4)) ((σ.2.2.1 5)) = some x := by rw [en]; exact hr
  have hm2 : f_X9_sound ((μ.1 0)) ((μ.1 2)) ((μ.2.2.1 1)) ((μ.2.2.1 4)) ((μ.2.2.1 5)) = some m := by rw [em, ← t2]; exact hm
  obtain ⟨⟨v, σ2⟩, hx, hX3, -⟩ := xs_sound  σ hX
  obtain ⟨⟨w, μ2⟩, hy, hM3, -⟩ := ms_sound  μ hM
  have hx0 := hx
  have hy0 := hy
  unfold sx_sound at hx
  rw [cal_e hr2] at hx
  cases hx
  unfold sm_sound at hy
  rw [cal_e hm2] at hy
  cases hy
  exact ⟨_, _, _, _, hx0, hy0, (by first | exact True.intro | exact e1.symm), hX3, hM3, ⟨t0, t1, t2, t3, t4, t5, t6, t7, t8, tz⟩, n, en, hE, hO, hB⟩
set_option maxRecDepth 10000 in
theorem ok3_19 (j : Nat) : Ok_19 I3 j := by
  intro  σ μ hI
  obtain ⟨hX, hM, ⟨t0, t1, t2, t3, t4, t5, t6, t7, t8, tz⟩, n, en, hE, hO, hB⟩ := hI
  have em : ((μ.1 0)) = nI n := t0.symm.trans en
  have hn : n ≤ 14 := NetE_n hE
  obtain ⟨x, m, hr, hm, e1⟩ := width_rel hn hB
  have hr2 : f_X8_width ((σ.1 4)) ((σ.2.2.1 4)) = some x := by exact hr
  have hm2 : f_X9_width ((μ.1 2)) ((μ.2.2.1 4)) = some m := by exact hm
  obtain ⟨⟨v, σ2⟩, hx, hX3, -⟩ := xs_width  σ hX
  obtain ⟨⟨w, μ2⟩, hy, hM3, -⟩ := ms_width  μ hM
  have hx0 := hx
  have hy0 := hy
  unfold sx_width at hx
  rw [cal_e hr2] at hx
  cases hx
  unfold sm_width at hy
  rw [cal_e hm2] at hy
  cases hy
  exact ⟨_, _, _, _, hx0, hy0, (by first | exact True.intro | exact e1.symm), hX3, hM3, ⟨t0, t1, t2, t3, t4, t5, t6, t7, t8, tz⟩, n, en, hE, hO, hB⟩
set_option maxRecDepth 10000 in
theorem ok3_20 (j : Nat) : Ok_20 I3 j := by
  intro  σ μ hI
  obtain ⟨hX, hM, ⟨t0, t1, t2, t3, t4, t5, t6, t7, t8, tz⟩, n, en, hE, hO, hB⟩ := hI
  have em : ((μ.1 0)) = nI n := t0.symm.trans en
  have hn : n ≤ 14 := NetE_n hE
  obtain ⟨x, m, hr, hm, e1⟩ := sep_rel hE hB
  have hr2 : f_X8_separator ((σ.1 0)) ((σ.2.2.1 1)) ((σ.1 4)) ((σ.2.2.1 4)) ((σ.2.2.1 5)) = some x := by rw [en]; exact hr
  have hm2 : f_X9_separator ((μ.1 0)) ((μ.1 2)) ((μ.2.2.1 1)) ((μ.2.2.1 4)) ((μ.2.2.1 5)) = some m := by rw [em, ← t2]; exact hm
  obtain ⟨⟨v, σ2⟩, hx, hX3, -⟩ := xs_separator  σ hX
  obtain ⟨⟨w, μ2⟩, hy, hM3, -⟩ := ms_separator  μ hM
  have hx0 := hx
  have hy0 := hy
  unfold sx_separator at hx
  rw [cal_e hr2] at hx
  cases hx
  unfold sm_separator at hy
  rw [cal_e hm2] at hy
  cases hy
  exact ⟨_, _, _, _, hx0, hy0, (by first | exact True.intro | exact e1.symm), hX3, hM3, ⟨t0, t1, t2, t3, t4, t5, t6, t7, t8, tz⟩, n, en, hE, hO, hB⟩
set_option maxRecDepth 10000 in
theorem ok3_21 (j : Nat) : Ok_21 I3 j := by
  intro a1 σ μ hI
  obtain ⟨hX, hM, ⟨t0, t1, t2, t3, t4, t5, t6, t7, t8, tz⟩, n, en, hE, hO, hB⟩ := hI
  have em : ((μ.1 0)) = nI n := t0.symm.trans en
  have hn : n ≤ 14 := NetE_n hE
  have hX2 := hX
  unfold SafeX at hX2
  obtain ⟨h_t_net_size, h_t_order_size, h_t_order_knots, h_t_bags_size, h_t_law_size, h_t_going_left, h_t_plan_size, h_t_plan_knots, h_t_plan_others, h_t_plan_otherCount, h_t_plan_feeders, h_t_plan_feederCount, h_t_plan_places, h_t_plan_going_left, h_t_tally_openStates, h_t_tally_openCount, h_t_tally_picks, h_t_tally_strides, h_t_search_rest_left, h_lf⟩ := hX2
  obtain ⟨r, hr, -⟩ := s_X8_states a1 ((σ.1 5)) ((σ.2.2.1 6)) ((σ.2.2.1 7)) ((σ.2.2.1 8)) ((σ.2.2.1 9)) h_t_law_size
  have hm := states_rel a1 ((σ.1 5)) ((σ.2.2.1 6)) ((σ.2.2.1 7)) ((σ.2.2.1 8)) ((σ.2.2.1 9))
  rw [hr, t4, t5, t6, t7, t8] at hm
  obtain ⟨⟨v, σ2⟩, hx, hX3, -⟩ := xs_states a1 σ hX
  obtain ⟨⟨w, μ2⟩, hy, hM3, -⟩ := ms_states a1 μ hM
  have hx0 := hx
  have hy0 := hy
  unfold sx_states at hx
  rw [cal_e hr] at hx
  cases hx
  unfold sm_states at hy
  rw [cal_e hm] at hy
  cases hy
  exact ⟨_, _, _, _, hx0, hy0, (by first | exact True.intro | exact rfl), hX3, hM3, ⟨t0, t1, t2, t3, rfl, rfl, rfl, rfl, rfl, tz⟩, n, en, hE, hO, hB⟩
set_option maxRecDepth 10000 in
theorem ok3_22 (j : Nat) : Ok_22 I3 j := by
  intro a1 a2 σ μ hI
  obtain ⟨hX, hM, ⟨t0, t1, t2, t3, t4, t5, t6, t7, t8, tz⟩, n, en, hE, hO, hB⟩ := hI
  have em : ((μ.1 0)) = nI n := t0.symm.trans en
  have hn : n ≤ 14 := NetE_n hE
  have hX2 := hX
  unfold SafeX at hX2
  obtain ⟨h_t_net_size, h_t_order_size, h_t_order_knots, h_t_bags_size, h_t_law_size, h_t_going_left, h_t_plan_size, h_t_plan_knots, h_t_plan_others, h_t_plan_otherCount, h_t_plan_feeders, h_t_plan_feederCount, h_t_plan_places, h_t_plan_going_left, h_t_tally_openStates, h_t_tally_openCount, h_t_tally_picks, h_t_tally_strides, h_t_search_rest_left, h_lf⟩ := hX2
  obtain ⟨r, hr, -⟩ := s_X8_factor a1 a2 ((σ.1 5)) ((σ.2.2.1 6)) h_t_law_size
  have hm := hr
  rw [t4, t5] at hm
  rw [← factor_eq] at hm
  obtain ⟨⟨v, σ2⟩, hx, hX3, -⟩ := xs_factor a1 a2 σ hX
  obtain ⟨⟨w, μ2⟩, hy, hM3, -⟩ := ms_factor a1 a2 μ hM
  have hx0 := hx
  have hy0 := hy
  unfold sx_factor at hx
  rw [cal_e hr] at hx
  cases hx
  unfold sm_factor at hy
  rw [cal_e hm] at hy
  cases hy
  exact ⟨_, _, _, _, hx0, hy0, (by first | exact True.intro | exact rfl), hX3, hM3, ⟨t0, t1, t2, t3, t4, rfl, t6, t7, t8, tz⟩, n, en, hE, hO, hB⟩
set_option maxRecDepth 10000 in
theorem ok3_23 (j : Nat) : Ok_23 I3 j := by
  intro a1 a2 a3 a4 σ μ hI
  obtain ⟨hX, hM, ⟨t0, t1, t2, t3, t4, t5, t6, t7, t8, tz⟩, n, en, hE, hO, hB⟩ := hI
  have em : ((μ.1 0)) = nI n := t0.symm.trans en
  have hn : n ≤ 14 := NetE_n hE
  have hX2 := hX
  unfold SafeX at hX2
  obtain ⟨h_t_net_size, h_t_order_size, h_t_order_knots, h_t_bags_size, h_t_law_size, h_t_going_left, h_t_plan_size, h_t_plan_knots, h_t_plan_others, h_t_plan_otherCount, h_t_plan_feeders, h_t_plan_feederCount, h_t_plan_places, h_t_plan_going_left, h_t_tally_openStates, h_t_tally_openCount, h_t_tally_picks, h_t_tally_strides, h_t_search_rest_left, h_lf⟩ := hX2
  obtain ⟨r, m, hr, hm, e⟩ := pair_rel a1 a2 a3 a4 ((σ.1 5)) ((σ.2.2.1 7)) ((σ.2.2.1 8)) h_t_law_size
  subst e
  rw [t4, t6, t7] at hm
  obtain ⟨⟨v, σ2⟩, hx, hX3, -⟩ := xs_pair a1 a2 a3 a4 σ hX
  obtain ⟨⟨w, μ2⟩, hy, hM3, -⟩ := ms_pair a1 a2 a3 a4 μ hM
  have hx0 := hx
  have hy0 := hy
  unfold sx_pair at hx
  rw [cal_e hr] at hx
  cases hx
  unfold sm_pair at hy
  rw [cal_e hm] at hy
  cases hy
  exact ⟨_, _, _, _, hx0, hy0, (by first | exact True.intro | exact rfl), hX3, hM3, ⟨t0, t1, t2, t3, t4, t5, rfl, rfl, t8, tz⟩, n, en, hE, hO, hB⟩
set_option maxRecDepth 10000 in
theorem ok3_24 (j : Nat) : Ok_24 I3 j := by
  intro a1 a2 σ μ hI
  obtain ⟨hX, hM, ⟨t0, t1, t2, t3, t4, t5, t6, t7, t8, tz⟩, n, en, hE, hO, hB⟩ := hI
  have em : ((μ.1 0)) = nI n := t0.symm.trans en
  have hn : n ≤ 14 := NetE_n hE
  have hX2 := hX
  unfold SafeX at hX2
  obtain ⟨h_t_net_size, h_t_order_size, h_t_order_knots, h_t_bags_size, h_t_law_size, h_t_going_left, h_t_plan_size, h_t_plan_knots, h_t_plan_others, h_t_plan_otherCount, h_t_plan_feeders, h_t_plan_feederCount, h_t_plan_places, h_t_plan_going_left, h_t_tally_openStates, h_t_tally_openCount, h_t_tally_picks, h_t_tally_strides, h_t_search_rest_left, h_lf⟩ := hX2
  obtain ⟨r, hr, -⟩ := s_X8_forbid a1 a2 ((σ.1 0)) ((σ.2.2.1 9)) h_t_net_size
  have hm := hr
  rw [t0, t8] at hm
  rw [← forbid_eq] at hm
  obtain ⟨⟨v, σ2⟩, hx, hX3, -⟩ := xs_forbid a1 a2 σ hX
  obtain ⟨⟨w, μ2⟩, hy, hM3, -⟩ := ms_forbid a1 a2 μ hM
  have hx0 := hx
  have hy0 := hy
  unfold sx_forbid at hx
  rw [cal_e hr] at hx
  cases hx
  unfold sm_forbid at hy
  rw [cal_e hm] at hy
  cases hy
  exact ⟨_, _, _, _, hx0, hy0, (by first | exact True.intro | exact rfl), hX3, hM3, ⟨t0, t1, t2, t3, t4, t5, t6, t7, rfl, tz⟩, n, en, hE, hO, hB⟩
set_option maxRecDepth 10000 in
theorem ok3_25 (j : Nat) : Ok_25 I3 j := by
  intro  σ μ hI
  obtain ⟨hX, hM, ⟨t0, t1, t2, t3, t4, t5, t6, t7, t8, tz⟩, n, en, hE, hO, hB⟩ := hI
  have em : ((μ.1 0)) = nI n := t0.symm.trans en
  have hn : n ≤ 14 := NetE_n hE
  obtain ⟨⟨v, σ2⟩, hx, hX2, k0, k1, k2, k3, k4, k5, k6, k7, k8, k9, k10, k11, k12, k13, k14, k15⟩ := xk_ways  σ hX
  obtain ⟨⟨w, μ2⟩, hm, hM2, l0, l1, l2, l3, l4, l5, l6, l7, l8, l9, l10, l11, l12, l13⟩ := mk_ways  μ hM
  refine ⟨v, σ2, w, μ2, hx, hm, trivial, hX2, hM2, ⟨k0.trans (t0.trans l0.symm), k1.trans (t1.trans l1.symm), k2.trans (t2.trans l2.symm), k3.trans (t3.trans l3.symm), k4.trans (t4.trans l4.symm), k5.trans (t5.trans l5.symm), k6.trans (t6.trans l6.symm), k7.trans (t7.trans l7.symm), k8.trans (t8.trans l8.symm), fun i hi => (congrFun k2 i).trans (tz i (by rw [← k0]; exact hi))⟩, n, k0.trans en, ?_, ?_, ?_⟩
  · show NetE n ((σ2.2.2.1 1)) ((σ2.1 1))
    rw [show (σ2.2.2.1 1) = _ from k2, show (σ2.1 1) = _ from k9]; exact hE
  · show OrdT n ((σ2.1 2)) ((σ2.1 3)) ((μ2.1 1)) ((σ2.2.2.1 3)) ((μ2.2.2.1 3))
    rw [show (σ2.1 2) = _ from k10, show (σ2.1 3) = _ from k11, show (μ2.1 1) = _ from l9, show (σ2.2.2.1 3) = _ from k12, show (μ2.2.2.1 3) = _ from l10]; exact hO
  · show BagT n ((σ2.1 4)) ((μ2.1 2)) ((σ2.2.2.1 4)) ((σ2.2.2.1 5)) ((μ2.2.2.1 4)) ((μ2.2.2.1 5))
    rw [show (σ2.1 4) = _ from k13, show (μ2.1 2) = _ from l11, show (σ2.2.2.1 4) = _ from k14, show (σ2.2.2.1 5) = _ from k15, show (μ2.2.2.1 4) = _ from l12, show (μ2.2.2.1 5) = _ from l13]; exact hB
set_option maxRecDepth 10000 in
theorem ok3_26 (j : Nat) : Ok_26 I3 j := by
  intro a1 σ μ _ hI
  obtain ⟨hX, hM, ⟨t0, t1, t2, t3, t4, t5, t6, t7, t8, tz⟩, n, en, hE, hO, hB⟩ := hI
  have em : ((μ.1 0)) = nI n := t0.symm.trans en
  have hn : n ≤ 14 := NetE_n hE
  obtain ⟨⟨v, σ2⟩, hx, hX2, k0, k1, k2, k3, k4, k5, k6, k7, k8, k9, k10, k11, k12, k13, k14, k15⟩ := xk_best a1 σ hX
  obtain ⟨⟨w, μ2⟩, hm, hM2, l0, l1, l2, l3, l4, l5, l6, l7, l8, l9, l10, l11, l12, l13⟩ := mk_best a1 μ hM
  refine ⟨v, σ2, w, μ2, hx, hm, trivial, hX2, hM2, ⟨k0.trans (t0.trans l0.symm), k1.trans (t1.trans l1.symm), k2.trans (t2.trans l2.symm), k3.trans (t3.trans l3.symm), k4.trans (t4.trans l4.symm), k5.trans (t5.trans l5.symm), k6.trans (t6.trans l6.symm), k7.trans (t7.trans l7.symm), k8.trans (t8.trans l8.symm), fun i hi => (congrFun k2 i).trans (tz i (by rw [← k0]; exact hi))⟩, n, k0.trans en, ?_, ?_, ?_⟩
  · show NetE n ((σ2.2.2.1 1)) ((σ2.1 1))
    rw [show (σ2.2.2.1 1) = _ from k2, show (σ2.1 1) = _ from k9]; exact hE
  · show OrdT n ((σ2.1 2)) ((σ2.1 3)) ((μ2.1 1)) ((σ2.2.2.1 3)) ((μ2.2.2.1 3))
    rw [show (σ2.1 2) = _ from k10, show (σ2.1 3) = _ from k11, show (μ2.1 1) = _ from l9, show (σ2.2.2.1 3) = _ from k12, show (μ2.2.2.1 3) = _ from l10]; exact hO
  · show BagT n ((σ2.1 4)) ((μ2.1 2)) ((σ2.2.2.1 4)) ((σ2.2.2.1 5)) ((μ2.2.2.1 4)) ((μ2.2.2.1 5))
    rw [show (σ2.1 4) = _ from k13, show (μ2.1 2) = _ from l11, show (σ2.2.2.1 4) = _ from k14, show (σ2.2.2.1 5) = _ from k15, show (μ2.2.2.1 4) = _ from l12, show (μ2.2.2.1 5) = _ from l13]; exact hB
set_option maxRecDepth 10000 in
theorem ok3_27 (j : Nat) : Ok_27 I3 j := by
  intro a1 σ μ _ hI
  obtain ⟨hX, hM, ⟨t0, t1, t2, t3, t4, t5, t6, t7, t8, tz⟩, n, en, hE, hO, hB⟩ := hI
  have em : ((μ.1 0)) = nI n := t0.symm.trans en
  have hn : n ≤ 14 := NetE_n hE
  obtain ⟨⟨v, σ2⟩, hx, hX2, k0, k1, k2, k3, k4, k5, k6, k7, k8, k9, k10, k11, k12, k13, k14, k15⟩ := xk_bests a1 σ hX
  obtain ⟨⟨w, μ2⟩, hm, hM2, l0, l1, l2, l3, l4, l5, l6, l7, l8, l9, l10, l11, l12, l13⟩ := mk_bests a1 μ hM
  refine ⟨v, σ2, w, μ2, hx, hm, trivial, hX2, hM2, ⟨k0.trans (t0.trans l0.symm), k1.trans (t1.trans l1.symm), k2.trans (t2.trans l2.symm), k3.trans (t3.trans l3.symm), k4.trans (t4.trans l4.symm), k5.trans (t5.trans l5.symm), k6.trans (t6.trans l6.symm), k7.trans (t7.trans l7.symm), k8.trans (t8.trans l8.symm), fun i hi => (congrFun k2 i).trans (tz i (by rw [← k0]; exact hi))⟩, n, k0.trans en, ?_, ?_, ?_⟩
  · show NetE n ((σ2.2.2.1 1)) ((σ2.1 1))
    rw [show (σ2.2.2.1 1) = _ from k2, show (σ2.1 1) = _ from k9]; exact hE
  · show OrdT n ((σ2.1 2)) ((σ2.1 3)) ((μ2.1 1)) ((σ2.2.2.1 3)) ((μ2.2.2.1 3))
    rw [show (σ2.1 2) = _ from k10, show (σ2.1 3) = _ from k11, show (μ2.1 1) = _ from l9, show (σ2.2.2.1 3) = _ from k12, show (μ2.2.2.1 3) = _ from l10]; exact hO
  · show BagT n ((σ2.1 4)) ((μ2.1 2)) ((σ2.2.2.1 4)) ((σ2.2.2.1 5)) ((μ2.2.2.1 4)) ((μ2.2.2.1 5))
    rw [show (σ2.1 4) = _ from k13, show (μ2.1 2) = _ from l11, show (σ2.2.2.1 4) = _ from k14, show (σ2.2.2.1 5) = _ from k15, show (μ2.2.2.1 4) = _ from l12, show (μ2.2.2.1 5) = _ from l13]; exact hB
set_option maxRecDepth 10000 in
theorem ok3_28 (j : Nat) : Ok_28 I3 j := by
  intro a1 a2 σ μ _ hI
  obtain ⟨hX, hM, ⟨t0, t1, t2, t3, t4, t5, t6, t7, t8, tz⟩, n, en, hE, hO, hB⟩ := hI
  have em : ((μ.1 0)) = nI n := t0.symm.trans en
  have hn : n ≤ 14 := NetE_n hE
  obtain ⟨⟨v, σ2⟩, hx, hX2, k0, k1, k2, k3, k4, k5, k6, k7, k8, k9, k10, k11, k12, k13, k14, k15⟩ := xk_choice a1 a2 σ hX
  obtain ⟨⟨w, μ2⟩, hm, hM2, l0, l1, l2, l3, l4, l5, l6, l7, l8, l9, l10, l11, l12, l13⟩ := mk_choice a1 a2 μ hM
  refine ⟨v, σ2, w, μ2, hx, hm, trivial, hX2, hM2, ⟨k0.trans (t0.trans l0.symm), k1.trans (t1.trans l1.symm), k2.trans (t2.trans l2.symm), k3.trans (t3.trans l3.symm), k4.trans (t4.trans l4.symm), k5.trans (t5.trans l5.symm), k6.trans (t6.trans l6.symm), k7.trans (t7.trans l7.symm), k8.trans (t8.trans l8.symm), fun i hi => (congrFun k2 i).trans (tz i (by rw [← k0]; exact hi))⟩, n, k0.trans en, ?_, ?_, ?_⟩
  · show NetE n ((σ2.2.2.1 1)) ((σ2.1 1))
    rw [show (σ2.2.2.1 1) = _ from k2, show (σ2.1 1) = _ from k9]; exact hE
  · show OrdT n ((σ2.1 2)) ((σ2.1 3)) ((μ2.1 1)) ((σ2.2.2.1 3)) ((μ2.2.2.1 3))
    rw [show (σ2.1 2) = _ from k10, show (σ2.1 3) = _ from k11, show (μ2.1 1) = _ from l9, show (σ2.2.2.1 3) = _ from k12, show (μ2.2.2.1 3) = _ from l10]; exact hO
  · show BagT n ((σ2.1 4)) ((μ2.1 2)) ((σ2.2.2.1 4)) ((σ2.2.2.1 5)) ((μ2.2.2.1 4)) ((μ2.2.2.1 5))
    rw [show (σ2.1 4) = _ from k13, show (μ2.1 2) = _ from l11, show (σ2.2.2.1 4) = _ from k14, show (σ2.2.2.1 5) = _ from k15, show (μ2.2.2.1 4) = _ from l12, show (μ2.2.2.1 5) = _ from l13]; exact hB
set_option maxRecDepth 10000 in
theorem ok3_29 (j : Nat) : Ok_29 I3 j := by
  intro a1 a3 σ μ hI
  obtain ⟨hX, hM, ⟨t0, t1, t2, t3, t4, t5, t6, t7, t8, tz⟩, n, en, hE, hO, hB⟩ := hI
  have em : ((μ.1 0)) = nI n := t0.symm.trans en
  have hn : n ≤ 14 := NetE_n hE
  obtain ⟨⟨v, σ2⟩, hx, hX2, k0, k1, k2, k3, k4, k5, k6, k7, k8, k9, k10, k11, k12, k13, k14, k15⟩ := xk_drawn a1 a3 σ hX
  obtain ⟨⟨w, μ2⟩, hm, hM2, l0, l1, l2, l3, l4, l5, l6, l7, l8, l9, l10, l11, l12, l13⟩ := mk_drawn a1 a3 μ hM
  refine ⟨v, σ2, w, μ2, hx, hm, trivial, hX2, hM2, ⟨k0.trans (t0.trans l0.symm), k1.trans (t1.trans l1.symm), k2.trans (t2.trans l2.symm), k3.trans (t3.trans l3.symm), k4.trans (t4.trans l4.symm), k5.trans (t5.trans l5.symm), k6.trans (t6.trans l6.symm), k7.trans (t7.trans l7.symm), k8.trans (t8.trans l8.symm), fun i hi => (congrFun k2 i).trans (tz i (by rw [← k0]; exact hi))⟩, n, k0.trans en, ?_, ?_, ?_⟩
  · show NetE n ((σ2.2.2.1 1)) ((σ2.1 1))
    rw [show (σ2.2.2.1 1) = _ from k2, show (σ2.1 1) = _ from k9]; exact hE
  · show OrdT n ((σ2.1 2)) ((σ2.1 3)) ((μ2.1 1)) ((σ2.2.2.1 3)) ((μ2.2.2.1 3))
    rw [show (σ2.1 2) = _ from k10, show (σ2.1 3) = _ from k11, show (μ2.1 1) = _ from l9, show (σ2.2.2.1 3) = _ from k12, show (μ2.2.2.1 3) = _ from l10]; exact hO
  · show BagT n ((σ2.1 4)) ((μ2.1 2)) ((σ2.2.2.1 4)) ((σ2.2.2.1 5)) ((μ2.2.2.1 4)) ((μ2.2.2.1 5))
    rw [show (σ2.1 4) = _ from k13, show (μ2.1 2) = _ from l11, show (σ2.2.2.1 4) = _ from k14, show (σ2.2.2.1 5) = _ from k15, show (μ2.2.2.1 4) = _ from l12, show (μ2.2.2.1 5) = _ from l13]; exact hB
set_option maxRecDepth 10000 in
theorem ok3_30 (j : Nat) : Ok_30 I3 j := by
  intro a1 a2 σ μ hI
  obtain ⟨hX, hM, ⟨t0, t1, t2, t3, t4, t5, t6, t7, t8, tz⟩, n, en, hE, hO, hB⟩ := hI
  have em : ((μ.1 0)) = nI n := t0.symm.trans en
  have hn : n ≤ 14 := NetE_n hE
  obtain ⟨⟨v, σ2⟩, hx, hX2, k0, k1, k2, k3, k4, k5, k6, k7, k8, k9, k10, k11, k12, k13, k14, k15⟩ := xk_share a1 a2 σ hX
  obtain ⟨⟨w, μ2⟩, hm, hM2, l0, l1, l2, l3, l4, l5, l6, l7, l8, l9, l10, l11, l12, l13⟩ := mk_share a1 a2 μ hM
  refine ⟨v, σ2, w, μ2, hx, hm, trivial, hX2, hM2, ⟨k0.trans (t0.trans l0.symm), k1.trans (t1.trans l1.symm), k2.trans (t2.trans l2.symm), k3.trans (t3.trans l3.symm), k4.trans (t4.trans l4.symm), k5.trans (t5.trans l5.symm), k6.trans (t6.trans l6.symm), k7.trans (t7.trans l7.symm), k8.trans (t8.trans l8.symm), fun i hi => (congrFun k2 i).trans (tz i (by rw [← k0]; exact hi))⟩, n, k0.trans en, ?_, ?_, ?_⟩
  · show NetE n ((σ2.2.2.1 1)) ((σ2.1 1))
    rw [show (σ2.2.2.1 1) = _ from k2, show (σ2.1 1) = _ from k9]; exact hE
  · show OrdT n ((σ2.1 2)) ((σ2.1 3)) ((μ2.1 1)) ((σ2.2.2.1 3)) ((μ2.2.2.1 3))
    rw [show (σ2.1 2) = _ from k10, show (σ2.1 3) = _ from k11, show (μ2.1 1) = _ from l9, show (σ2.2.2.1 3) = _ from k12, show (μ2.2.2.1 3) = _ from l10]; exact hO
  · show BagT n ((σ2.1 4)) ((μ2.1 2)) ((σ2.2.2.1 4)) ((σ2.2.2.1 5)) ((μ2.2.2.1 4)) ((μ2.2.2.1 5))
    rw [show (σ2.1 4) = _ from k13, show (μ2.1 2) = _ from l11, show (σ2.2.2.1 4) = _ from k14, show (σ2.2.2.1 5) = _ from k15, show (μ2.2.2.1 4) = _ from l12, show (μ2.2.2.1 5) = _ from l13]; exact hB
set_option maxRecDepth 10000 in
theorem ok3_31 (j : Nat) : Ok_31 I3 j := by
  intro a1 σ μ hI
  obtain ⟨hX, hM, ⟨t0, t1, t2, t3, t4, t5, t6, t7, t8, tz⟩, n, en, hE, hO, hB⟩ := hI
  have em : ((μ.1 0)) = nI n := t0.symm.trans en
  have hn : n ≤ 14 := NetE_n hE
  obtain ⟨x, m, hr, hm, e1⟩ := count_rel hE hO hB ((σ.1 5)) a1
  have hr2 : f_X8_count a1 ((σ.1 0)) ((σ.1 1)) ((σ.2.2.1 1)) ((σ.1 2)) ((σ.1 4)) ((σ.2.2.1 4)) ((σ.2.2.1 5)) ((σ.1 5)) = some x := by rw [en]; exact hr
  have hm2 : f_X9_count a1 ((μ.1 0)) ((μ.1 1)) ((μ.1 2)) ((μ.1 3)) ((μ.2.2.1 1)) ((μ.2.2.1 4)) ((μ.2.2.1 5)) = some m := by rw [em, ← t2, ← t4]; exact hm
  obtain ⟨⟨v, σ2⟩, hx, hX3, -⟩ := xs_count a1 σ hX
  obtain ⟨⟨w, μ2⟩, hy, hM3, -⟩ := ms_count a1 μ hM
  have hx0 := hx
  have hy0 := hy
  unfold sx_count at hx
  rw [cal_e hr2] at hx
  cases hx
  unfold sm_count at hy
  rw [cal_e hm2] at hy
  cases hy
  exact ⟨_, _, _, _, hx0, hy0, (by first | exact True.intro | exact e1.symm), hX3, hM3, ⟨t0, t1, t2, t3, t4, t5, t6, t7, t8, tz⟩, n, en, hE, hO, hB⟩
theorem all3 (j : Nat) : OkAll I3 j := ⟨ok3_0 j, ok3_1 j, ok3_2 j, ok3_3 j, ok3_4 j, ok3_5 j, ok3_6 j, ok3_7 j, ok3_8 j, ok3_9 j, ok3_10 j, ok3_11 j, ok3_12 j, ok3_13 j, ok3_14 j, ok3_15 j, ok3_16 j, ok3_17 j, ok3_18 j, ok3_19 j, ok3_20 j, ok3_21 j, ok3_22 j, ok3_23 j, ok3_24 j, ok3_25 j, ok3_26 j, ok3_27 j, ok3_28 j, ok3_29 j, ok3_30 j, ok3_31 j⟩
theorem I3_0 : I3 0 σ0 μ0 := ⟨I2_0.1, I2_0.2.1, I2_0.2.2, 0, rfl, Net_0, Ord_0 0 _ _, Bag_0 0 rfl rfl⟩
