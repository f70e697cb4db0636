theorem plc_mono {f : Nat → Int32} {a b : Int32} (h : ∀ i, 0 ≤ (f i).toInt ∧ ((f i).toInt = 0 ∨ (f i).toInt < a.toInt)) (hab : a.toInt ≤ b.toInt) : ∀ i, 0 ≤ (f i).toInt ∧ ((f i).toInt = 0 ∨ (f i).toInt < b.toInt) := fun i => by
  have := h i
  omega
theorem rw_or {a b : Int32} {f : Nat → Int32} (h : RW a f) (hb : b = a ∨ b = 0) : RW b f := by
  rcases hb with rfl | rfl
  · exact h
  · exact RW_0 f
def SafeX (σ : XS) : Prop := (0 ≤ ((σ.1 0)).toInt ∧ ((σ.1 0)).toInt ≤ 14) ∧ (0 ≤ ((σ.1 2)).toInt ∧ ((σ.1 2)).toInt ≤ 14) ∧ (∀ i, 0 ≤ (((σ.2.2.1 3)) i).toInt ∧ (((σ.2.2.1 3)) i).toInt ≤ 13) ∧ (0 ≤ ((σ.1 4)).toInt ∧ ((σ.1 4)).toInt ≤ 14) ∧ (1 ≤ ((σ.1 5)).toInt ∧ ((σ.1 5)).toInt ≤ 4) ∧ (0 ≤ ((σ.1 6)).toInt ∧ ((σ.1 6)).toInt ≤ 16383) ∧ (0 ≤ ((σ.1 8)).toInt ∧ ((σ.1 8)).toInt ≤ 14) ∧ (∀ i, 0 ≤ (((σ.2.2.1 11)) i).toInt ∧ (((σ.2.2.1 11)) i).toInt ≤ 13) ∧ (∀ i, 0 ≤ (((σ.2.2.1 12)) i).toInt ∧ (((σ.2.2.1 12)) i).toInt ≤ 13) ∧ (∀ i, 0 ≤ (((σ.2.2.1 13)) i).toInt ∧ (((σ.2.2.1 13)) i).toInt ≤ 4) ∧ (∀ i, 0 ≤ (((σ.2.2.1 16)) i).toInt ∧ (((σ.2.2.1 16)) i).toInt ≤ 13) ∧ (∀ i, 0 ≤ (((σ.2.2.1 17)) i).toInt ∧ (((σ.2.2.1 17)) i).toInt ≤ 14) ∧ (∀ i, 0 ≤ (((σ.2.2.1 18)) i).toInt ∧ ((((σ.2.2.1 18)) i).toInt = 0 ∨ (((σ.2.2.1 18)) i).toInt < ((σ.1 0)).toInt)) ∧ (0 ≤ ((σ.1 9)).toInt ∧ ((σ.1 9)).toInt ≤ 16383) ∧ (∀ i, 0 ≤ (((σ.2.2.1 22)) i).toInt ∧ (((σ.2.2.1 22)) i).toInt ≤ 3) ∧ (∀ i, 0 ≤ (((σ.2.2.1 23)) i).toInt ∧ (((σ.2.2.1 23)) i).toInt ≤ 4) ∧ (∀ i, 0 ≤ (((σ.2.2.1 24)) i).toInt ∧ (((σ.2.2.1 24)) i).toInt ≤ 3) ∧ (ST ((σ.2.2.1 25))) ∧ (0 ≤ ((σ.1 18)).toInt ∧ ((σ.1 18)).toInt ≤ 16383) ∧ (∀ i, 0 ≤ (((σ.2.2.1 29)) i).toInt ∧ (((σ.2.2.1 29)) i).toInt ≤ 16383)
def SafeM (μ : MS) : Prop := (0 ≤ ((μ.1 0)).toInt ∧ ((μ.1 0)).toInt ≤ 14) ∧ (0 ≤ ((μ.1 1)).toInt ∧ ((μ.1 1)).toInt ≤ 14) ∧ (0 ≤ ((μ.1 2)).toInt ∧ ((μ.1 2)).toInt ≤ 14) ∧ (1 ≤ ((μ.1 3)).toInt ∧ ((μ.1 3)).toInt ≤ 4) ∧ (∀ i, 0 ≤ (((μ.2.2.1 1)) i).toInt ∧ (((μ.2.2.1 1)) i).toInt ≤ 16383) ∧ (∀ i, 0 ≤ (((μ.2.2.1 3)) i).toInt ∧ (((μ.2.2.1 3)) i).toInt ≤ 13) ∧ (∀ i, 0 ≤ (((μ.2.2.1 4)) i).toInt ∧ (((μ.2.2.1 4)) i).toInt ≤ 16383) ∧ (∀ i, -1 ≤ (((μ.2.2.1 5)) i).toInt ∧ (((μ.2.2.1 5)) i).toInt ≤ 13) ∧ (∀ i, 0 ≤ (((μ.2.2.1 12)) i).toInt ∧ (((μ.2.2.1 12)) i).toInt ≤ 3) ∧ RW ((μ.1 1)) ((μ.2.2.1 3))
set_option maxRecDepth 10000 in
theorem xs_knot (a1 : Int32) (σ : XS) (h : SafeX σ) : Sat (sx_knot a1 σ) (fun p => SafeX p.2 ∧ (p.2.2.2.1 1) = (σ.2.2.1 1) ∧ (p.2.2.2.1 2) = (σ.2.2.1 2) ∧ (p.2.1 5) = (σ.1 5) ∧ (p.2.2.2.1 6) = (σ.2.2.1 6) ∧ (p.2.2.2.1 7) = (σ.2.2.1 7) ∧ (p.2.2.2.1 8) = (σ.2.2.1 8) ∧ (p.2.2.2.1 9) = (σ.2.2.1 9)) := by
  obtain ⟨h_t_net_size, h_t_order_size, h_t_order_knots, h_t_bags_size, h_t_law_size, h_t_going_left, h_t_plan_size, h_t_plan_knots, h_t_plan_others, h_t_plan_otherCount, h_t_plan_feeders, h_t_plan_feederCount, h_t_plan_places, h_t_plan_going_left, h_t_tally_openStates, h_t_tally_openCount, h_t_tally_picks, h_t_tally_strides, h_t_search_rest_left, h_lf⟩ := h
  unfold sx_knot
  refine sat_cal (s_X8_knot a1 ((σ.1 0)) ((σ.2.2.1 0)) ((σ.1 2)) ((σ.1 3)) ((σ.1 4)) h_t_net_size h_t_order_size h_t_bags_size) fun r hr => ?_
  obtain ⟨q1, q3, q5, qx, -⟩ := hr
  exact sat_some ⟨⟨q1, q3, h_t_order_knots, q5, h_t_law_size, h_t_going_left, h_t_plan_size, h_t_plan_knots, h_t_plan_others, h_t_plan_otherCount, h_t_plan_feeders, h_t_plan_feederCount, (plc_mono h_t_plan_places qx), h_t_plan_going_left, h_t_tally_openStates, h_t_tally_openCount, h_t_tally_picks, h_t_tally_strides, h_t_search_rest_left, h_lf⟩, rfl, rfl, rfl, rfl, rfl, rfl, rfl⟩
set_option maxRecDepth 10000 in
theorem ms_knot (a1 : Int32) (μ : MS) (h : SafeM μ) : Sat (sm_knot a1 μ) (fun p => SafeM p.2 ∧ (p.2.2.2.1 2) = (μ.2.2.1 2) ∧ (p.2.1 3) = (μ.1 3) ∧ (p.2.2.2.1 7) = (μ.2.2.1 7) ∧ (p.2.2.2.1 8) = (μ.2.2.1 8) ∧ (p.2.2.2.1 10) = (μ.2.2.1 10) ∧ (p.2.2.2.1 9) = (μ.2.2.1 9)) := by
  obtain ⟨h_t_knots, h_t_rowed, h_t_bags, h_t_q, h_t_beside, h_t_row, h_t_bag, h_t_up, h_t_state, h_RW⟩ := h
  unfold sm_knot
  refine sat_cal (s_X9_knot a1 ((μ.1 0)) ((μ.1 1)) ((μ.1 2)) ((μ.2.2.1 0)) ((μ.2.2.1 1)) h_t_knots h_t_rowed h_t_bags h_t_beside) fun r hr => ?_
  obtain ⟨q1, q2, q3, q5, qx, -⟩ := hr
  exact sat_some ⟨⟨q1, q2, q3, h_t_q, q5, h_t_row, h_t_bag, h_t_up, h_t_state, (rw_or h_RW qx)⟩, rfl, rfl, rfl, rfl, rfl, rfl⟩
set_option maxRecDepth 10000 in
theorem xs_edge (a1 : Int32) (a2 : Int32) (a3 : Int32) (σ : XS) (h : SafeX σ) : Sat (sx_edge a1 a2 a3 σ) (fun p => SafeX p.2 ∧ (p.2.1 0) = (σ.1 0) ∧ (p.2.2.2.1 0) = (σ.2.2.1 0) ∧ (p.2.1 5) = (σ.1 5) ∧ (p.2.2.2.1 6) = (σ.2.2.1 6) ∧ (p.2.2.2.1 7) = (σ.2.2.1 7) ∧ (p.2.2.2.1 8) = (σ.2.2.1 8) ∧ (p.2.2.2.1 9) = (σ.2.2.1 9)) := by
  obtain ⟨h_t_net_size, h_t_order_size, h_t_order_knots, h_t_bags_size, h_t_law_size, h_t_going_left, h_t_plan_size, h_t_plan_knots, h_t_plan_others, h_t_plan_otherCount, h_t_plan_feeders, h_t_plan_feederCount, h_t_plan_places, h_t_plan_going_left, h_t_tally_openStates, h_t_tally_openCount, h_t_tally_picks, h_t_tally_strides, h_t_search_rest_left, h_lf⟩ := h
  unfold sx_edge
  refine sat_cal (s_X8_edge a1 a2 a3 ((σ.1 0)) ((σ.1 1)) ((σ.2.2.1 1)) ((σ.2.2.1 2)) h_t_net_size) fun r hr => ?_
  exact sat_some ⟨⟨h_t_net_size, h_t_order_size, h_t_order_knots, h_t_bags_size, h_t_law_size, h_t_going_left, h_t_plan_size, h_t_plan_knots, h_t_plan_others, h_t_plan_otherCount, h_t_plan_feeders, h_t_plan_feederCount, h_t_plan_places, h_t_plan_going_left, h_t_tally_openStates, h_t_tally_openCount, h_t_tally_picks, h_t_tally_strides, h_t_search_rest_left, h_lf⟩, rfl, rfl, rfl, rfl, rfl, rfl, rfl⟩
set_option maxRecDepth 10000 in
theorem ms_edge (a1 : Int32) (a2 : Int32) (a3 : Int32) (μ : MS) (h : SafeM μ) : Sat (sm_edge a1 a2 a3 μ) (fun p => SafeM p.2 ∧ (p.2.1 0) = (μ.1 0) ∧ (p.2.2.2.1 0) = (μ.2.2.1 0) ∧ (p.2.1 3) = (μ.1 3) ∧ (p.2.2.2.1 7) = (μ.2.2.1 7) ∧ (p.2.2.2.1 8) = (μ.2.2.1 8) ∧ (p.2.2.2.1 10) = (μ.2.2.1 10) ∧ (p.2.2.2.1 9) = (μ.2.2.1 9)) := by
  obtain ⟨h_t_knots, h_t_rowed, h_t_bags, h_t_q, h_t_beside, h_t_row, h_t_bag, h_t_up, h_t_state, h_RW⟩ := h
  unfold sm_edge
  refine sat_cal (s_X9_edge a1 a2 a3 ((μ.1 0)) ((μ.2.2.1 1)) ((μ.2.2.1 2)) h_t_knots h_t_beside) fun r hr => ?_
  obtain ⟨q1, -⟩ := hr
  exact sat_some ⟨⟨h_t_knots, h_t_rowed, h_t_bags, h_t_q, q1, h_t_row, h_t_bag, h_t_up, h_t_state, h_RW⟩, rfl, rfl, rfl, rfl, rfl, rfl, rfl⟩
set_option maxRecDepth 10000 in
theorem xs_cut (a1 : Int32) (a2 : Int32) (σ : XS) (h : SafeX σ) : Sat (sx_cut a1 a2 σ) (fun p => SafeX p.2 ∧ (p.2.1 0) = (σ.1 0) ∧ (p.2.2.2.1 0) = (σ.2.2.1 0) ∧ (p.2.2.2.1 2) = (σ.2.2.1 2) ∧ (p.2.1 5) = (σ.1 5) ∧ (p.2.2.2.1 6) = (σ.2.2.1 6) ∧ (p.2.2.2.1 7) = (σ.2.2.1 7) ∧ (p.2.2.2.1 8) = (σ.2.2.1 8) ∧ (p.2.2.2.1 9) = (σ.2.2.1 9)) := by
  obtain ⟨h_t_net_size, h_t_order_size, h_t_order_knots, h_t_bags_size, h_t_law_size, h_t_going_left, h_t_plan_size, h_t_plan_knots, h_t_plan_others, h_t_plan_otherCount, h_t_plan_feeders, h_t_plan_feederCount, h_t_plan_places, h_t_plan_going_left, h_t_tally_openStates, h_t_tally_openCount, h_t_tally_picks, h_t_tally_strides, h_t_search_rest_left, h_lf⟩ := h
  unfold sx_cut
  refine sat_cal (s_X8_cut a1 a2 ((σ.1 0)) ((σ.1 1)) ((σ.2.2.1 1)) ((σ.2.2.1 2)) h_t_net_size) fun r hr => ?_
  exact sat_some ⟨⟨h_t_net_size, h_t_order_size, h_t_order_knots, h_t_bags_size, h_t_law_size, h_t_going_left, h_t_plan_size, h_t_plan_knots, h_t_plan_others, h_t_plan_otherCount, h_t_plan_feeders, h_t_plan_feederCount, h_t_plan_places, h_t_plan_going_left, h_t_tally_openStates, h_t_tally_openCount, h_t_tally_picks, h_t_tally_strides, h_t_search_rest_left, h_lf⟩, rfl, rfl, rfl, rfl, rfl, rfl, rfl, rfl⟩
set_option maxRecDepth 10000 in
theorem ms_cut (a1 : Int32) (a2 : Int32) (μ : MS) (h : SafeM μ) : Sat (sm_cut a1 a2 μ) (fun p => SafeM p.2 ∧ (p.2.1 0) = (μ.1 0) ∧ (p.2.2.2.1 0) = (μ.2.2.1 0) ∧ (p.2.2.2.1 2) = (μ.2.2.1 2) ∧ (p.2.1 3) = (μ.1 3) ∧ (p.2.2.2.1 7) = (μ.2.2.1 7) ∧ (p.2.2.2.1 8) = (μ.2.2.1 8) ∧ (p.2.2.2.1 10) = (μ.2.2.1 10) ∧ (p.2.2.2.1 9) = (μ.2.2.1 9)) := by
  obtain ⟨h_t_knots, h_t_rowed, h_t_bags, h_t_q, h_t_beside, h_t_row, h_t_bag, h_t_up, h_t_state, h_RW⟩ := h
  unfold sm_cut
  refine sat_cal (s_X9_cut a1 a2 ((μ.1 0)) ((μ.2.2.1 1)) ((μ.2.2.1 2)) h_t_knots h_t_beside) fun r hr => ?_
  obtain ⟨q1, -⟩ := hr
  exact sat_some ⟨⟨h_t_knots, h_t_rowed, h_t_bags, h_t_q, q1, h_t_row, h_t_bag, h_t_up, h_t_state, h_RW⟩, rfl, rfl, rfl, rfl, rfl, rfl, rfl, rfl⟩
set_option maxRecDepth 10000 in
theorem xs_weigh (a1 : Int32) (a2 : Int32) (σ : XS) (h : SafeX σ) : Sat (sx_weigh a1 a2 σ) (fun p => SafeX p.2 ∧ (p.2.1 0) = (σ.1 0) ∧ (p.2.2.2.1 1) = (σ.2.2.1 1) ∧ (p.2.2.2.1 2) = (σ.2.2.1 2) ∧ (p.2.1 5) = (σ.1 5) ∧ (p.2.2.2.1 6) = (σ.2.2.1 6) ∧ (p.2.2.2.1 7) = (σ.2.2.1 7) ∧ (p.2.2.2.1 8) = (σ.2.2.1 8) ∧ (p.2.2.2.1 9) = (σ.2.2.1 9)) := by
  obtain ⟨h_t_net_size, h_t_order_size, h_t_order_knots, h_t_bags_size, h_t_law_size, h_t_going_left, h_t_plan_size, h_t_plan_knots, h_t_plan_others, h_t_plan_otherCount, h_t_plan_feeders, h_t_plan_feederCount, h_t_plan_places, h_t_plan_going_left, h_t_tally_openStates, h_t_tally_openCount, h_t_tally_picks, h_t_tally_strides, h_t_search_rest_left, h_lf⟩ := h
  unfold sx_weigh
  refine sat_cal (s_X8_weigh a1 a2 ((σ.1 0)) ((σ.2.2.1 0)) h_t_net_size) fun r hr => ?_
  exact sat_some ⟨⟨h_t_net_size, h_t_order_size, h_t_order_knots, h_t_bags_size, h_t_law_size, h_t_going_left, h_t_plan_size, h_t_plan_knots, h_t_plan_others, h_t_plan_otherCount, h_t_plan_feeders, h_t_plan_feederCount, h_t_plan_places, h_t_plan_going_left, h_t_tally_openStates, h_t_tally_openCount, h_t_tally_picks, h_t_tally_strides, h_t_search_rest_left, h_lf⟩, rfl, rfl, rfl, rfl, rfl, rfl, rfl, rfl⟩
set_option maxRecDepth 10000 in
theorem ms_weigh (a1 : Int32) (a2 : Int32) (μ : MS) (h : SafeM μ) : Sat (sm_weigh a1 a2 μ) (fun p => SafeM p.2 ∧ (p.2.1 0) = (μ.1 0) ∧ (p.2.2.2.1 1) = (μ.2.2.1 1) ∧ (p.2.2.2.1 2) = (μ.2.2.1 2) ∧ (p.2.1 3) = (μ.1 3) ∧ (p.2.2.2.1 7) = (μ.2.2.1 7) ∧ (p.2.2.2.1 8) = (μ.2.2.1 8) ∧ (p.2.2.2.1 10) = (μ.2.2.1 10) ∧ (p.2.2.2.1 9) = (μ.2.2.1 9)) := by
  obtain ⟨h_t_knots, h_t_rowed, h_t_bags, h_t_q, h_t_beside, h_t_row, h_t_bag, h_t_up, h_t_state, h_RW⟩ := h
  unfold sm_weigh
  refine sat_cal (s_X9_weigh a1 a2 ((μ.1 0)) ((μ.2.2.1 0)) h_t_knots) fun r hr => ?_
  exact sat_some ⟨⟨h_t_knots, h_t_rowed, h_t_bags, h_t_q, h_t_beside, h_t_row, h_t_bag, h_t_up, h_t_state, h_RW⟩, rfl, rfl, rfl, rfl, rfl, rfl, rfl, rfl⟩
set_option maxRecDepth 10000 in
theorem xs_weight (a1 : Int32) (a2 : Int32) (σ : XS) (h : SafeX σ) : Sat (sx_weight a1 a2 σ) (fun p => SafeX p.2 ∧ (p.2.1 0) = (σ.1 0) ∧ (p.2.2.2.1 0) = (σ.2.2.1 0) ∧ (p.2.2.2.1 1) = (σ.2.2.1 1) ∧ (p.2.2.2.1 2) = (σ.2.2.1 2) ∧ (p.2.1 5) = (σ.1 5) ∧ (p.2.2.2.1 6) = (σ.2.2.1 6) ∧ (p.2.2.2.1 7) = (σ.2.2.1 7) ∧ (p.2.2.2.1 8) = (σ.2.2.1 8) ∧ (p.2.2.2.1 9) = (σ.2.2.1 9)) := by
  obtain ⟨h_t_net_size, h_t_order_size, h_t_order_knots, h_t_bags_size, h_t_law_size, h_t_going_left, h_t_plan_size, h_t_plan_knots, h_t_plan_others, h_t_plan_otherCount, h_t_plan_feeders, h_t_plan_feederCount, h_t_plan_places, h_t_plan_going_left, h_t_tally_openStates, h_t_tally_openCount, h_t_tally_picks, h_t_tally_strides, h_t_search_rest_left, h_lf⟩ := h
  unfold sx_weight
  refine sat_cal (s_X8_weight a1 a2 ((σ.1 0)) ((σ.2.2.1 0)) ((σ.2.2.1 1)) ((σ.2.2.1 2)) h_t_net_size) fun r hr => ?_
  exact sat_some ⟨⟨h_t_net_size, h_t_order_size, h_t_order_knots, h_t_bags_size, h_t_law_size, h_t_going_left, h_t_plan_size, h_t_plan_knots, h_t_plan_others, h_t_plan_otherCount, h_t_plan_feeders, h_t_plan_feederCount, h_t_plan_places, h_t_plan_going_left, h_t_tally_openStates, h_t_tally_openCount, h_t_tally_picks, h_t_tally_strides, h_t_search_rest_left, h_lf⟩, rfl, rfl, rfl, rfl, rfl, rfl, rfl, rfl, rfl⟩
set_option maxRecDepth 10000 in
theorem ms_weight (a1 : Int32) (a2 : Int32) (μ : MS) (h : SafeM μ) : Sat (sm_weight a1 a2 μ) (fun p => SafeM p.2 ∧ (p.2.1 0) = (μ.1 0) ∧ (p.2.2.2.1 0) = (μ.2.2.1 0) ∧ (p.2.2.2.1 1) = (μ.2.2.1 1) ∧ (p.2.2.2.1 2) = (μ.2.2.1 2) ∧ (p.2.1 3) = (μ.1 3) ∧ (p.2.2.2.1 7) = (μ.2.2.1 7) ∧ (p.2.2.2.1 8) = (μ.2.2.1 8) ∧ (p.2.2.2.1 10) = (μ.2.2.1 10) ∧ (p.2.2.2.1 9) = (μ.2.2.1 9)) := by
  obtain ⟨h_t_knots, h_t_rowed, h_t_bags, h_t_q, h_t_beside, h_t_row, h_t_bag, h_t_up, h_t_state, h_RW⟩ := h
  unfold sm_weight
  refine sat_cal (s_X9_weight a1 a2 ((μ.1 0)) ((μ.2.2.1 0)) ((μ.2.2.1 1)) ((μ.2.2.1 2)) h_t_knots h_t_beside) fun r hr => ?_
  exact sat_some ⟨⟨h_t_knots, h_t_rowed, h_t_bags, h_t_q, h_t_beside, h_t_row, h_t_bag, h_t_up, h_t_state, h_RW⟩, rfl, rfl, rfl, rfl, rfl, rfl, rfl, rfl, rfl⟩
set_option maxRecDepth 10000 in
theorem xs_beside (a1 : Int32) (σ : XS) (h : SafeX σ) : Sat (sx_beside a1 σ) (fun p => SafeX p.2 ∧ (p.2.1 0) = (σ.1 0) ∧ (p.2.2.2.1 0) = (σ.2.2.1 0) ∧ (p.2.2.2.1 1) = (σ.2.2.1 1) ∧ (p.2.2.2.1 2) = (σ.2.2.1 2) ∧ (p.2.1 5) = (σ.1 5) ∧ (p.2.2.2.1 6) = (σ.2.2.1 6) ∧ (p.2.2.2.1 7) = (σ.2.2.1 7) ∧ (p.2.2.2.1 8) = (σ.2.2.1 8) ∧ (p.2.2.2.1 9) = (σ.2.2.1 9)) := by
  obtain ⟨h_t_net_size, h_t_order_size, h_t_order_knots, h_t_bags_size, h_t_law_size, h_t_going_left, h_t_plan_size, h_t_plan_knots, h_t_plan_others, h_t_plan_otherCount, h_t_plan_feeders, h_t_plan_feederCount, h_t_plan_places, h_t_plan_going_left, h_t_tally_openStates, h_t_tally_openCount, h_t_tally_picks, h_t_tally_strides, h_t_search_rest_left, h_lf⟩ := h
  unfold sx_beside
  refine sat_cal (s_X8_beside a1 ((σ.1 0)) ((σ.2.2.1 1)) h_t_net_size) fun r hr => ?_
  exact sat_some ⟨⟨h_t_net_size, h_t_order_size, h_t_order_knots, h_t_bags_size, h_t_law_size, h_t_going_left, h_t_plan_size, h_t_plan_knots, h_t_plan_others, h_t_plan_otherCount, h_t_plan_feeders, h_t_plan_feederCount, h_t_plan_places, h_t_plan_going_left, h_t_tally_openStates, h_t_tally_openCount, h_t_tally_picks, h_t_tally_strides, h_t_search_rest_left, h_lf⟩, rfl, rfl, rfl, rfl, rfl, rfl, rfl, rfl, rfl⟩
set_option maxRecDepth 10000 in
theorem ms_beside (a1 : Int32) (μ : MS) (h : SafeM μ) : Sat (sm_beside a1 μ) (fun p => SafeM p.2 ∧ (p.2.1 0) = (μ.1 0) ∧ (p.2.2.2.1 0) = (μ.2.2.1 0) ∧ (p.2.2.2.1 1) = (μ.2.2.1 1) ∧ (p.2.2.2.1 2) = (μ.2.2.1 2) ∧ (p.2.1 3) = (μ.1 3) ∧ (p.2.2.2.1 7) = (μ.2.2.1 7) ∧ (p.2.2.2.1 8) = (μ.2.2.1 8) ∧ (p.2.2.2.1 10) = (μ.2.2.1 10) ∧ (p.2.2.2.1 9) = (μ.2.2.1 9)) := by
  obtain ⟨h_t_knots, h_t_rowed, h_t_bags, h_t_q, h_t_beside, h_t_row, h_t_bag, h_t_up, h_t_state, h_RW⟩ := h
  unfold sm_beside
  refine sat_cal (s_X9_beside a1 ((μ.1 0)) ((μ.2.2.1 1)) h_t_knots h_t_beside) fun r hr => ?_
  exact sat_some ⟨⟨h_t_knots, h_t_rowed, h_t_bags, h_t_q, h_t_beside, h_t_row, h_t_bag, h_t_up, h_t_state, h_RW⟩, rfl, rfl, rfl, rfl, rfl, rfl, rfl, rfl, rfl⟩
set_option maxRecDepth 10000 in
theorem xs_put (a1 : Int32) (σ : XS) (h : SafeX σ) : Sat (sx_put a1 σ) (fun p => SafeX p.2 ∧ (p.2.1 0) = (σ.1 0) ∧ (p.2.2.2.1 0) = (σ.2.2.1 0) ∧ (p.2.2.2.1 1) = (σ.2.2.1 1) ∧ (p.2.2.2.1 2) = (σ.2.2.1 2) ∧ (p.2.1 5) = (σ.1 5) ∧ (p.2.2.2.1 6) = (σ.2.2.1 6) ∧ (p.2.2.2.1 7) = (σ.2.2.1 7) ∧ (p.2.2.2.1 8) = (σ.2.2.1 8) ∧ (p.2.2.2.1 9) = (σ.2.2.1 9)) := by
  obtain ⟨h_t_net_size, h_t_order_size, h_t_order_knots, h_t_bags_size, h_t_law_size, h_t_going_left, h_t_plan_size, h_t_plan_knots, h_t_plan_others, h_t_plan_otherCount, h_t_plan_feeders, h_t_plan_feederCount, h_t_plan_places, h_t_plan_going_left, h_t_tally_openStates, h_t_tally_openCount, h_t_tally_picks, h_t_tally_strides, h_t_search_rest_left, h_lf⟩ := h
  unfold sx_put
  refine sat_cal (s_X8_put a1 ((σ.1 0)) ((σ.1 2)) ((σ.1 3)) ((σ.2.2.1 3)) h_t_net_size h_t_order_size h_t_order_knots) fun r hr => ?_
  obtain ⟨q1, q3, -⟩ := hr
  exact sat_some ⟨⟨h_t_net_size, q1, q3, h_t_bags_size, h_t_law_size, h_t_going_left, h_t_plan_size, h_t_plan_knots, h_t_plan_others, h_t_plan_otherCount, h_t_plan_feeders, h_t_plan_feederCount, h_t_plan_places, h_t_plan_going_left, h_t_tally_openStates, h_t_tally_openCount, h_t_tally_picks, h_t_tally_strides, h_t_search_rest_left, h_lf⟩, rfl, rfl, rfl, rfl, rfl, rfl, rfl, rfl, rfl⟩
set_option maxRecDepth 10000 in
theorem ms_put (a1 : Int32) (μ : MS) (h : SafeM μ) : Sat (sm_put a1 μ) (fun p => SafeM p.2 ∧ (p.2.1 0) = (μ.1 0) ∧ (p.2.2.2.1 0) = (μ.2.2.1 0) ∧ (p.2.2.2.1 1) = (μ.2.2.1 1) ∧ (p.2.2.2.1 2) = (μ.2.2.1 2) ∧ (p.2.1 3) = (μ.1 3) ∧ (p.2.2.2.1 7) = (μ.2.2.1 7) ∧ (p.2.2.2.1 8) = (μ.2.2.1 8) ∧ (p.2.2.2.1 10) = (μ.2.2.1 10) ∧ (p.2.2.2.1 9) = (μ.2.2.1 9)) := by
  obtain ⟨h_t_knots, h_t_rowed, h_t_bags, h_t_q, h_t_beside, h_t_row, h_t_bag, h_t_up, h_t_state, h_RW⟩ := h
  unfold sm_put
  refine sat_cal (s_X9_put a1 ((μ.1 0)) ((μ.1 1)) ((μ.2.2.1 3)) h_t_knots h_t_rowed h_t_row h_RW) fun r hr => ?_
  obtain ⟨q1, q2, qx, -⟩ := hr
  exact sat_some ⟨⟨h_t_knots, q1, h_t_bags, h_t_q, h_t_beside, q2, h_t_bag, h_t_up, h_t_state, qx⟩, rfl, rfl, rfl, rfl, rfl, rfl, rfl, rfl, rfl⟩
set_option maxRecDepth 10000 in
theorem xs_wipe  (σ : XS) (h : SafeX σ) : Sat (sx_wipe  σ) (fun p => SafeX p.2 ∧ (p.2.1 0) = (σ.1 0) ∧ (p.2.2.2.1 0) = (σ.2.2.1 0) ∧ (p.2.2.2.1 1) = (σ.2.2.1 1) ∧ (p.2.2.2.1 2) = (σ.2.2.1 2) ∧ (p.2.1 5) = (σ.1 5) ∧ (p.2.2.2.1 6) = (σ.2.2.1 6) ∧ (p.2.2.2.1 7) = (σ.2.2.1 7) ∧ (p.2.2.2.1 8) = (σ.2.2.1 8) ∧ (p.2.2.2.1 9) = (σ.2.2.1 9)) := by
  obtain ⟨h_t_net_size, h_t_order_size, h_t_order_knots, h_t_bags_size, h_t_law_size, h_t_going_left, h_t_plan_size, h_t_plan_knots, h_t_plan_others, h_t_plan_otherCount, h_t_plan_feeders, h_t_plan_feederCount, h_t_plan_places, h_t_plan_going_left, h_t_tally_openStates, h_t_tally_openCount, h_t_tally_picks, h_t_tally_strides, h_t_search_rest_left, h_lf⟩ := h
  unfold sx_wipe
  refine sat_cal (s_X8_wipe ((σ.1 2)) ((σ.1 3)) h_t_order_size) fun r hr => ?_
  obtain ⟨q1, -⟩ := hr
  exact sat_some ⟨⟨h_t_net_size, q1, h_t_order_knots, h_t_bags_size, h_t_law_size, h_t_going_left, h_t_plan_size, h_t_plan_knots, h_t_plan_others, h_t_plan_otherCount, h_t_plan_feeders, h_t_plan_feederCount, h_t_plan_places, h_t_plan_going_left, h_t_tally_openStates, h_t_tally_openCount, h_t_tally_picks, h_t_tally_strides, h_t_search_rest_left, h_lf⟩, rfl, rfl, rfl, rfl, rfl, rfl, rfl, rfl, rfl⟩
set_option maxRecDepth 10000 in
theorem ms_wipe  (μ : MS) (h : SafeM μ) : Sat (sm_wipe  μ) (fun p => SafeM p.2 ∧ (p.2.1 0) = (μ.1 0) ∧ (p.2.2.2.1 0) = (μ.2.2.1 0) ∧ (p.2.2.2.1 1) = (μ.2.2.1 1) ∧ (p.2.2.2.1 2) = (μ.2.2.1 2) ∧ (p.2.1 3) = (μ.1 3) ∧ (p.2.2.2.1 7) = (μ.2.2.1 7) ∧ (p.2.2.2.1 8) = (μ.2.2.1 8) ∧ (p.2.2.2.1 10) = (μ.2.2.1 10) ∧ (p.2.2.2.1 9) = (μ.2.2.1 9)) := by
  obtain ⟨h_t_knots, h_t_rowed, h_t_bags, h_t_q, h_t_beside, h_t_row, h_t_bag, h_t_up, h_t_state, h_RW⟩ := h
  unfold sm_wipe
  refine sat_cal (s_X9_wipe ((μ.1 1)) h_t_rowed) fun r hr => ?_
  obtain ⟨q1, qx, -⟩ := hr
  exact sat_some ⟨⟨h_t_knots, q1, h_t_bags, h_t_q, h_t_beside, h_t_row, h_t_bag, h_t_up, h_t_state, (rw_or h_RW qx)⟩, rfl, rfl, rfl, rfl, rfl, rfl, rfl, rfl, rfl⟩
set_option maxRecDepth 10000 in
theorem xs_make  (σ : XS) (h : SafeX σ) : Sat (sx_make  σ) (fun p => SafeX p.2 ∧ (p.2.1 0) = (σ.1 0) ∧ (p.2.2.2.1 0) = (σ.2.2.1 0) ∧ (p.2.2.2.1 1) = (σ.2.2.1 1) ∧ (p.2.2.2.1 2) = (σ.2.2.1 2) ∧ (p.2.1 5) = (σ.1 5) ∧ (p.2.2.2.1 6) = (σ.2.2.1 6) ∧ (p.2.2.2.1 7) = (σ.2.2.1 7) ∧ (p.2.2.2.1 8) = (σ.2.2.1 8) ∧ (p.2.2.2.1 9) = (σ.2.2.1 9)) := by
  obtain ⟨h_t_net_size, h_t_order_size, h_t_order_knots, h_t_bags_size, h_t_law_size, h_t_going_left, h_t_plan_size, h_t_plan_knots, h_t_plan_others, h_t_plan_otherCount, h_t_plan_feeders, h_t_plan_feederCount, h_t_plan_places, h_t_plan_going_left, h_t_tally_openStates, h_t_tally_openCount, h_t_tally_picks, h_t_tally_strides, h_t_search_rest_left, h_lf⟩ := h
  unfold sx_make
  refine sat_cal (s_X8_make ((σ.1 0)) ((σ.2.2.1 1)) ((σ.1 2)) ((σ.2.2.1 3)) ((σ.1 4)) ((σ.2.2.1 4)) ((σ.2.2.1 5)) ((σ.1 6)) ((σ.1 7)) ((σ.2.2.1 10)) h_t_net_size h_t_order_size h_t_order_knots h_t_bags_size h_t_going_left) fun r hr => ?_
  obtain ⟨q1, q4, -⟩ := hr
  exact sat_some ⟨⟨h_t_net_size, h_t_order_size, h_t_order_knots, q1, h_t_law_size, q4, h_t_plan_size, h_t_plan_knots, h_t_plan_others, h_t_plan_otherCount, h_t_plan_feeders, h_t_plan_feederCount, h_t_plan_places, h_t_plan_going_left, h_t_tally_openStates, h_t_tally_openCount, h_t_tally_picks, h_t_tally_strides, h_t_search_rest_left, h_lf⟩, rfl, rfl, rfl, rfl, rfl, rfl, rfl, rfl, rfl⟩
set_option maxRecDepth 10000 in
theorem ms_make  (μ : MS) (h : SafeM μ) : Sat (sm_make  μ) (fun p => SafeM p.2 ∧ (p.2.1 0) = (μ.1 0) ∧ (p.2.2.2.1 0) = (μ.2.2.1 0) ∧ (p.2.2.2.1 1) = (μ.2.2.1 1) ∧ (p.2.2.2.1 2) = (μ.2.2.1 2) ∧ (p.2.1 3) = (μ.1 3) ∧ (p.2.2.2.1 7) = (μ.2.2.1 7) ∧ (p.2.2.2.1 8) = (μ.2.2.1 8) ∧ (p.2.2.2.1 10) = (μ.2.2.1 10) ∧ (p.2.2.2.1 9) = (μ.2.2.1 9)) := by
  obtain ⟨h_t_knots, h_t_rowed, h_t_bags, h_t_q, h_t_beside, h_t_row, h_t_bag, h_t_up, h_t_state, h_RW⟩ := h
  unfold sm_make
  refine sat_cal (s_X9_make ((μ.1 0)) ((μ.1 1)) ((μ.1 2)) ((μ.2.2.1 1)) ((μ.2.2.1 3)) ((μ.2.2.1 4)) ((μ.2.2.1 5)) h_t_knots h_t_rowed h_t_bags h_t_beside h_t_row h_t_bag h_t_up) fun r hr => ?_
  obtain ⟨q1, q2, q3, -⟩ := hr
  exact sat_some ⟨⟨h_t_knots, h_t_rowed, q1, h_t_q, h_t_beside, h_t_row, q2, q3, h_t_state, h_RW⟩, rfl, rfl, rfl, rfl, rfl, rfl, rfl, rfl, rfl⟩
set_option maxRecDepth 10000 in
theorem xs_fills  (σ : XS) (h : SafeX σ) : Sat (sx_fills  σ) (fun p => SafeX p.2 ∧ (p.2.1 0) = (σ.1 0) ∧ (p.2.2.2.1 0) = (σ.2.2.1 0) ∧ (p.2.2.2.1 1) = (σ.2.2.1 1) ∧ (p.2.2.2.1 2) = (σ.2.2.1 2) ∧ (p.2.1 5) = (σ.1 5) ∧ (p.2.2.2.1 6) = (σ.2.2.1 6) ∧ (p.2.2.2.1 7) = (σ.2.2.1 7) ∧ (p.2.2.2.1 8) = (σ.2.2.1 8) ∧ (p.2.2.2.1 9) = (σ.2.2.1 9)) := by
  obtain ⟨h_t_net_size, h_t_order_size, h_t_order_knots, h_t_bags_size, h_t_law_size, h_t_going_left, h_t_plan_size, h_t_plan_knots, h_t_plan_others, h_t_plan_otherCount, h_t_plan_feeders, h_t_plan_feederCount, h_t_plan_places, h_t_plan_going_left, h_t_tally_openStates, h_t_tally_openCount, h_t_tally_picks, h_t_tally_strides, h_t_search_rest_left, h_lf⟩ := h
  unfold sx_fills
  refine sat_cal (s_X8_fills ((σ.1 0)) ((σ.2.2.1 1)) ((σ.1 2)) ((σ.2.2.1 3)) ((σ.1 6)) ((σ.1 7)) ((σ.2.2.1 10)) h_t_net_size h_t_order_size h_t_order_knots h_t_going_left) fun r hr => ?_
  obtain ⟨q1, -⟩ := hr
  exact sat_some ⟨⟨h_t_net_size, h_t_order_size, h_t_order_knots, h_t_bags_size, h_t_law_size, q1, h_t_plan_size, h_t_plan_knots, h_t_plan_others, h_t_plan_otherCount, h_t_plan_feeders, h_t_plan_feederCount, h_t_plan_places, h_t_plan_going_left, h_t_tally_openStates, h_t_tally_openCount, h_t_tally_picks, h_t_tally_strides, h_t_search_rest_left, h_lf⟩, rfl, rfl, rfl, rfl, rfl, rfl, rfl, rfl, rfl⟩
set_option maxRecDepth 10000 in
theorem ms_fills  (μ : MS) (h : SafeM μ) : Sat (sm_fills  μ) (fun p => SafeM p.2 ∧ (p.2.1 0) = (μ.1 0) ∧ (p.2.2.2.1 0) = (μ.2.2.1 0) ∧ (p.2.2.2.1 1) = (μ.2.2.1 1) ∧ (p.2.2.2.1 2) = (μ.2.2.1 2) ∧ (p.2.1 3) = (μ.1 3) ∧ (p.2.2.2.1 7) = (μ.2.2.1 7) ∧ (p.2.2.2.1 8) = (μ.2.2.1 8) ∧ (p.2.2.2.1 10) = (μ.2.2.1 10) ∧ (p.2.2.2.1 9) = (μ.2.2.1 9)) := by
  obtain ⟨h_t_knots, h_t_rowed, h_t_bags, h_t_q, h_t_beside, h_t_row, h_t_bag, h_t_up, h_t_state, h_RW⟩ := h
  unfold sm_fills
  refine sat_cal (s_X9_fills ((μ.1 0)) ((μ.1 1)) ((μ.2.2.1 1)) ((μ.2.2.1 3)) h_t_knots h_t_rowed h_t_beside h_t_row) fun r hr => ?_
  exact sat_some ⟨⟨h_t_knots, h_t_rowed, h_t_bags, h_t_q, h_t_beside, h_t_row, h_t_bag, h_t_up, h_t_state, h_RW⟩, rfl, rfl, rfl, rfl, rfl, rfl, rfl, rfl, rfl⟩
set_option maxRecDepth 10000 in
theorem xs_fewest  (σ : XS) (h : SafeX σ) : Sat (sx_fewest  σ) (fun p => SafeX p.2 ∧ (p.2.1 0) = (σ.1 0) ∧ (p.2.2.2.1 0) = (σ.2.2.1 0) ∧ (p.2.2.2.1 1) = (σ.2.2.1 1) ∧ (p.2.2.2.1 2) = (σ.2.2.1 2) ∧ (p.2.1 5) = (σ.1 5) ∧ (p.2.2.2.1 6) = (σ.2.2.1 6) ∧ (p.2.2.2.1 7) = (σ.2.2.1 7) ∧ (p.2.2.2.1 8) = (σ.2.2.1 8) ∧ (p.2.2.2.1 9) = (σ.2.2.1 9)) := by
  obtain ⟨h_t_net_size, h_t_order_size, h_t_order_knots, h_t_bags_size, h_t_law_size, h_t_going_left, h_t_plan_size, h_t_plan_knots, h_t_plan_others, h_t_plan_otherCount, h_t_plan_feeders, h_t_plan_feederCount, h_t_plan_places, h_t_plan_going_left, h_t_tally_openStates, h_t_tally_openCount, h_t_tally_picks, h_t_tally_strides, h_t_search_rest_left, h_lf⟩ := h
  unfold sx_fewest
  refine sat_cal (s_X8_fewest ((σ.1 0)) ((σ.2.2.1 1)) ((σ.1 2)) ((σ.1 3)) ((σ.2.2.1 3)) ((σ.1 6)) ((σ.1 7)) ((σ.2.2.1 10)) h_t_net_size h_t_order_size h_t_order_knots h_t_going_left) fun r hr => ?_
  obtain ⟨q1, q3, q4, -⟩ := hr
  exact sat_some ⟨⟨h_t_net_size, q1, q3, h_t_bags_size, h_t_law_size, q4, h_t_plan_size, h_t_plan_knots, h_t_plan_others, h_t_plan_otherCount, h_t_plan_feeders, h_t_plan_feederCount, h_t_plan_places, h_t_plan_going_left, h_t_tally_openStates, h_t_tally_openCount, h_t_tally_picks, h_t_tally_strides, h_t_search_rest_left, h_lf⟩, rfl, rfl, rfl, rfl, rfl, rfl, rfl, rfl, rfl⟩
set_option maxRecDepth 10000 in
theorem ms_fewest  (μ : MS) (h : SafeM μ) : Sat (sm_fewest  μ) (fun p => SafeM p.2 ∧ (p.2.1 0) = (μ.1 0) ∧ (p.2.2.2.1 0) = (μ.2.2.1 0) ∧ (p.2.2.2.1 1) = (μ.2.2.1 1) ∧ (p.2.2.2.1 2) = (μ.2.2.1 2) ∧ (p.2.1 3) = (μ.1 3) ∧ (p.2.2.2.1 7) = (μ.2.2.1 7) ∧ (p.2.2.2.1 8) = (μ.2.2.1 8) ∧ (p.2.2.2.1 10) = (μ.2.2.1 10) ∧ (p.2.2.2.1 9) = (μ.2.2.1 9)) := by
  obtain ⟨h_t_knots, h_t_rowed, h_t_bags, h_t_q, h_t_beside, h_t_row, h_t_bag, h_t_up, h_t_state, h_RW⟩ := h
  unfold sm_fewest
  refine sat_cal (s_X9_fewest ((μ.1 0)) ((μ.1 1)) ((μ.2.2.1 1)) ((μ.2.2.1 3)) h_t_knots h_t_rowed h_t_beside h_t_row) fun r hr => ?_
  obtain ⟨q1, q2, qx, -⟩ := hr
  exact sat_some ⟨⟨h_t_knots, q1, h_t_bags, h_t_q, h_t_beside, q2, h_t_bag, h_t_up, h_t_state, qx⟩, rfl, rfl, rfl, rfl, rfl, rfl, rfl, rfl, rfl⟩
set_option maxRecDepth 10000 in
theorem xs_least  (σ : XS) (h : SafeX σ) : Sat (sx_least  σ) (fun p => SafeX p.2 ∧ (p.2.1 0) = (σ.1 0) ∧ (p.2.2.2.1 0) = (σ.2.2.1 0) ∧ (p.2.2.2.1 1) = (σ.2.2.1 1) ∧ (p.2.2.2.1 2) = (σ.2.2.1 2) ∧ (p.2.1 5) = (σ.1 5) ∧ (p.2.2.2.1 6) = (σ.2.2.1 6) ∧ (p.2.2.2.1 7) = (σ.2.2.1 7) ∧ (p.2.2.2.1 8) = (σ.2.2.1 8) ∧ (p.2.2.2.1 9) = (σ.2.2.1 9)) := by
  obtain ⟨h_t_net_size, h_t_order_size, h_t_order_knots, h_t_bags_size, h_t_law_size, h_t_going_left, h_t_plan_size, h_t_plan_knots, h_t_plan_others, h_t_plan_otherCount, h_t_plan_feeders, h_t_plan_feederCount, h_t_plan_places, h_t_plan_going_left, h_t_tally_openStates, h_t_tally_openCount, h_t_tally_picks, h_t_tally_strides, h_t_search_rest_left, h_lf⟩ := h
  unfold sx_least
  refine sat_cal (s_X8_least ((σ.1 6)) ((σ.1 7)) ((σ.2.2.1 10)) ((σ.1 2)) ((σ.1 3)) ((σ.2.2.1 3)) ((σ.1 0)) ((σ.2.2.1 1)) ((σ.1 17)) ((σ.1 18)) ((σ.1 19)) ((σ.2.2.1 28)) ((σ.2.2.2.1 0)) ((σ.2.2.1 29)) ((σ.2.2.1 30)) (σ.2.2.2.2) h_t_going_left h_t_order_size h_t_order_knots h_t_net_size h_t_search_rest_left h_lf) fun r hr => ?_
  obtain ⟨q1, q4, q6, q8, q12, -⟩ := hr
  exact sat_some ⟨⟨h_t_net_size, q4, q6, h_t_bags_size, h_t_law_size, q1, h_t_plan_size, h_t_plan_knots, h_t_plan_others, h_t_plan_otherCount, h_t_plan_feeders, h_t_plan_feederCount, h_t_plan_places, h_t_plan_going_left, h_t_tally_openStates, h_t_tally_openCount, h_t_tally_picks, h_t_tally_strides, q8, q12⟩, rfl, rfl, rfl, rfl, rfl, rfl, rfl, rfl, rfl⟩
set_option maxRecDepth 10000 in
theorem ms_least  (μ : MS) (h : SafeM μ) : Sat (sm_least  μ) (fun p => SafeM p.2 ∧ (p.2.1 0) = (μ.1 0) ∧ (p.2.2.2.1 0) = (μ.2.2.1 0) ∧ (p.2.2.2.1 1) = (μ.2.2.1 1) ∧ (p.2.2.2.1 2) = (μ.2.2.1 2) ∧ (p.2.1 3) = (μ.1 3) ∧ (p.2.2.2.1 7) = (μ.2.2.1 7) ∧ (p.2.2.2.1 8) = (μ.2.2.1 8) ∧ (p.2.2.2.1 10) = (μ.2.2.1 10) ∧ (p.2.2.2.1 9) = (μ.2.2.1 9)) := by
  obtain ⟨h_t_knots, h_t_rowed, h_t_bags, h_t_q, h_t_beside, h_t_row, h_t_bag, h_t_up, h_t_state, h_RW⟩ := h
  unfold sm_least
  refine sat_cal (s_X9_least ((μ.1 0)) ((μ.1 1)) ((μ.2.2.1 1)) ((μ.2.2.1 3)) ((μ.2.2.1 6)) h_t_knots h_t_rowed h_t_beside h_t_row) fun r hr => ?_
  obtain ⟨q1, q2, qx, -⟩ := hr
  exact sat_some ⟨⟨h_t_knots, q1, h_t_bags, h_t_q, h_t_beside, q2, h_t_bag, h_t_up, h_t_state, qx⟩, rfl, rfl, rfl, rfl, rfl, rfl, rfl, rfl, rfl⟩
set_option maxRecDepth 10000 in
theorem xs_row (a1 : Int32) (σ : XS) (h : SafeX σ) : Sat (sx_row a1 σ) (fun p => SafeX p.2 ∧ (p.2.1 0) = (σ.1 0) ∧ (p.2.2.2.1 0) = (σ.2.2.1 0) ∧ (p.2.2.2.1 1) = (σ.2.2.1 1) ∧ (p.2.2.2.1 2) = (σ.2.2.1 2) ∧ (p.2.1 5) = (σ.1 5) ∧ (p.2.2.2.1 6) = (σ.2.2.1 6) ∧ (p.2.2.2.1 7) = (σ.2.2.1 7) ∧ (p.2.2.2.1 8) = (σ.2.2.1 8) ∧ (p.2.2.2.1 9) = (σ.2.2.1 9)) := by
  obtain ⟨h_t_net_size, h_t_order_size, h_t_order_knots, h_t_bags_size, h_t_law_size, h_t_going_left, h_t_plan_size, h_t_plan_knots, h_t_plan_others, h_t_plan_otherCount, h_t_plan_feeders, h_t_plan_feederCount, h_t_plan_places, h_t_plan_going_left, h_t_tally_openStates, h_t_tally_openCount, h_t_tally_picks, h_t_tally_strides, h_t_search_rest_left, h_lf⟩ := h
  unfold sx_row
  refine sat_cal (s_X8_row a1 ((σ.1 2)) ((σ.2.2.1 3)) h_t_order_size h_t_order_knots) fun r hr => ?_
  exact sat_some ⟨⟨h_t_net_size, h_t_order_size, h_t_order_knots, h_t_bags_size, h_t_law_size, h_t_going_left, h_t_plan_size, h_t_plan_knots, h_t_plan_others, h_t_plan_otherCount, h_t_plan_feeders, h_t_plan_feederCount, h_t_plan_places, h_t_plan_going_left, h_t_tally_openStates, h_t_tally_openCount, h_t_tally_picks, h_t_tally_strides, h_t_search_rest_left, h_lf⟩, rfl, rfl, rfl, rfl, rfl, rfl, rfl, rfl, rfl⟩
set_option maxRecDepth 10000 in
theorem ms_row (a1 : Int32) (μ : MS) (h : SafeM μ) : Sat (sm_row a1 μ) (fun p => SafeM p.2 ∧ (p.2.1 0) = (μ.1 0) ∧ (p.2.2.2.1 0) = (μ.2.2.1 0) ∧ (p.2.2.2.1 1) = (μ.2.2.1 1) ∧ (p.2.2.2.1 2) = (μ.2.2.1 2) ∧ (p.2.1 3) = (μ.1 3) ∧ (p.2.2.2.1 7) = (μ.2.2.1 7) ∧ (p.2.2.2.1 8) = (μ.2.2.1 8) ∧ (p.2.2.2.1 10) = (μ.2.2.1 10) ∧ (p.2.2.2.1 9) = (μ.2.2.1 9)) := by
  obtain ⟨h_t_knots, h_t_rowed, h_t_bags, h_t_q, h_t_beside, h_t_row, h_t_bag, h_t_up, h_t_state, h_RW⟩ := h
  unfold sm_row
  refine sat_cal (s_X9_row a1 ((μ.1 1)) ((μ.2.2.1 3)) h_t_rowed h_t_row) fun r hr => ?_
  exact sat_some ⟨⟨h_t_knots, h_t_rowed, h_t_bags, h_t_q, h_t_beside, h_t_row, h_t_bag, h_t_up, h_t_state, h_RW⟩, rfl, rfl, rfl, rfl, rfl, rfl, rfl, rfl, rfl⟩
set_option maxRecDepth 10000 in
theorem xs_below  (σ : XS) (h : SafeX σ) : Sat (sx_below  σ) (fun p => SafeX p.2 ∧ (p.2.1 0) = (σ.1 0) ∧ (p.2.2.2.1 0) = (σ.2.2.1 0) ∧ (p.2.2.2.1 1) = (σ.2.2.1 1) ∧ (p.2.2.2.1 2) = (σ.2.2.1 2) ∧ (p.2.1 5) = (σ.1 5) ∧ (p.2.2.2.1 6) = (σ.2.2.1 6) ∧ (p.2.2.2.1 7) = (σ.2.2.1 7) ∧ (p.2.2.2.1 8) = (σ.2.2.1 8) ∧ (p.2.2.2.1 9) = (σ.2.2.1 9)) := by
  obtain ⟨h_t_net_size, h_t_order_size, h_t_order_knots, h_t_bags_size, h_t_law_size, h_t_going_left, h_t_plan_size, h_t_plan_knots, h_t_plan_others, h_t_plan_otherCount, h_t_plan_feeders, h_t_plan_feederCount, h_t_plan_places, h_t_plan_going_left, h_t_tally_openStates, h_t_tally_openCount, h_t_tally_picks, h_t_tally_strides, h_t_search_rest_left, h_lf⟩ := h
  unfold sx_below
  refine sat_cal (s_X8_below ((σ.1 0)) ((σ.2.2.1 1)) ((σ.1 6)) ((σ.1 7)) ((σ.2.2.1 10)) h_t_net_size h_t_going_left) fun r hr => ?_
  obtain ⟨q1, -⟩ := hr
  exact sat_some ⟨⟨h_t_net_size, h_t_order_size, h_t_order_knots, h_t_bags_size, h_t_law_size, q1, h_t_plan_size, h_t_plan_knots, h_t_plan_others, h_t_plan_otherCount, h_t_plan_feeders, h_t_plan_feederCount, h_t_plan_places, h_t_plan_going_left, h_t_tally_openStates, h_t_tally_openCount, h_t_tally_picks, h_t_tally_strides, h_t_search_rest_left, h_lf⟩, rfl, rfl, rfl, rfl, rfl, rfl, rfl, rfl, rfl⟩
set_option maxRecDepth 10000 in
theorem ms_below  (μ : MS) (h : SafeM μ) : Sat (sm_below  μ) (fun p => SafeM p.2 ∧ (p.2.1 0) = (μ.1 0) ∧ (p.2.2.2.1 0) = (μ.2.2.1 0) ∧ (p.2.2.2.1 1) = (μ.2.2.1 1) ∧ (p.2.2.2.1 2) = (μ.2.2.1 2) ∧ (p.2.1 3) = (μ.1 3) ∧ (p.2.2.2.1 7) = (μ.2.2.1 7) ∧ (p.2.2.2.1 8) = (μ.2.2.1 8) ∧ (p.2.2.2.1 10) = (μ.2.2.1 10) ∧ (p.2.2.2.1 9) = (μ.2.2.1 9)) := by
  obtain ⟨h_t_knots, h_t_rowed, h_t_bags, h_t_q, h_t_beside, h_t_row, h_t_bag, h_t_up, h_t_state, h_RW⟩ := h
  unfold sm_below
  refine sat_cal (s_X9_below ((μ.1 0)) ((μ.2.2.1 1)) h_t_knots h_t_beside) fun r hr => ?_
  exact sat_some ⟨⟨h_t_knots, h_t_rowed, h_t_bags, h_t_q, h_t_beside, h_t_row, h_t_bag, h_t_up, h_t_state, h_RW⟩, rfl, rfl, rfl, rfl, rfl, rfl, rfl, rfl, rfl⟩
set_option maxRecDepth 10000 in
theorem xs_clear  (σ : XS) (h : SafeX σ) : Sat (sx_clear  σ) (fun p => SafeX p.2 ∧ (p.2.1 0) = (σ.1 0) ∧ (p.2.2.2.1 0) = (σ.2.2.1 0) ∧ (p.2.2.2.1 1) = (σ.2.2.1 1) ∧ (p.2.2.2.1 2) = (σ.2.2.1 2) ∧ (p.2.1 5) = (σ.1 5) ∧ (p.2.2.2.1 6) = (σ.2.2.1 6) ∧ (p.2.2.2.1 7) = (σ.2.2.1 7) ∧ (p.2.2.2.1 8) = (σ.2.2.1 8) ∧ (p.2.2.2.1 9) = (σ.2.2.1 9)) := by
  obtain ⟨h_t_net_size, h_t_order_size, h_t_order_knots, h_t_bags_size, h_t_law_size, h_t_going_left, h_t_plan_size, h_t_plan_knots, h_t_plan_others, h_t_plan_otherCount, h_t_plan_feeders, h_t_plan_feederCount, h_t_plan_places, h_t_plan_going_left, h_t_tally_openStates, h_t_tally_openCount, h_t_tally_picks, h_t_tally_strides, h_t_search_rest_left, h_lf⟩ := h
  unfold sx_clear
  refine sat_cal (s_X8_clear ((σ.1 4)) h_t_bags_size) fun r hr => ?_
  obtain ⟨q1, -⟩ := hr
  exact sat_some ⟨⟨h_t_net_size, h_t_order_size, h_t_order_knots, q1, h_t_law_size, h_t_going_left, h_t_plan_size, h_t_plan_knots, h_t_plan_others, h_t_plan_otherCount, h_t_plan_feeders, h_t_plan_feederCount, h_t_plan_places, h_t_plan_going_left, h_t_tally_openStates, h_t_tally_openCount, h_t_tally_picks, h_t_tally_strides, h_t_search_rest_left, h_lf⟩, rfl, rfl, rfl, rfl, rfl, rfl, rfl, rfl, rfl⟩
set_option maxRecDepth 10000 in
theorem ms_clear  (μ : MS) (h : SafeM μ) : Sat (sm_clear  μ) (fun p => SafeM p.2 ∧ (p.2.1 0) = (μ.1 0) ∧ (p.2.2.2.1 0) = (μ.2.2.1 0) ∧ (p.2.2.2.1 1) = (μ.2.2.1 1) ∧ (p.2.2.2.1 2) = (μ.2.2.1 2) ∧ (p.2.1 3) = (μ.1 3) ∧ (p.2.2.2.1 7) = (μ.2.2.1 7) ∧ (p.2.2.2.1 8) = (μ.2.2.1 8) ∧ (p.2.2.2.1 10) = (μ.2.2.1 10) ∧ (p.2.2.2.1 9) = (μ.2.2.1 9)) := by
  obtain ⟨h_t_knots, h_t_rowed, h_t_bags, h_t_q, h_t_beside, h_t_row, h_t_bag, h_t_up, h_t_state, h_RW⟩ := h
  unfold sm_clear
  refine sat_cal (s_X9_clear ((μ.1 2)) h_t_bags) fun r hr => ?_
  obtain ⟨q1, -⟩ := hr
  exact sat_some ⟨⟨h_t_knots, h_t_rowed, q1, h_t_q, h_t_beside, h_t_row, h_t_bag, h_t_up, h_t_state, h_RW⟩, rfl, rfl, rfl, rfl, rfl, rfl, rfl, rfl, rfl⟩
set_option maxRecDepth 10000 in
theorem xs_bag (a1 : Int32) (σ : XS) (h : SafeX σ) : Sat (sx_bag a1 σ) (fun p => SafeX p.2 ∧ (p.2.1 0) = (σ.1 0) ∧ (p.2.2.2.1 0) = (σ.2.2.1 0) ∧ (p.2.2.2.1 1) = (σ.2.2.1 1) ∧ (p.2.2.2.1 2) = (σ.2.2.1 2) ∧ (p.2.1 5) = (σ.1 5) ∧ (p.2.2.2.1 6) = (σ.2.2.1 6) ∧ (p.2.2.2.1 7) = (σ.2.2.1 7) ∧ (p.2.2.2.1 8) = (σ.2.2.1 8) ∧ (p.2.2.2.1 9) = (σ.2.2.1 9)) := by
  obtain ⟨h_t_net_size, h_t_order_size, h_t_order_knots, h_t_bags_size, h_t_law_size, h_t_going_left, h_t_plan_size, h_t_plan_knots, h_t_plan_others, h_t_plan_otherCount, h_t_plan_feeders, h_t_plan_feederCount, h_t_plan_places, h_t_plan_going_left, h_t_tally_openStates, h_t_tally_openCount, h_t_tally_picks, h_t_tally_strides, h_t_search_rest_left, h_lf⟩ := h
  unfold sx_bag
  refine sat_cal (s_X8_bag a1 ((σ.1 0)) ((σ.1 4)) ((σ.2.2.1 4)) ((σ.2.2.1 5)) h_t_net_size h_t_bags_size) fun r hr => ?_
  obtain ⟨q1, -⟩ := hr
  exact sat_some ⟨⟨h_t_net_size, h_t_order_size, h_t_order_knots, q1, h_t_law_size, h_t_going_left, h_t_plan_size, h_t_plan_knots, h_t_plan_others, h_t_plan_otherCount, h_t_plan_feeders, h_t_plan_feederCount, h_t_plan_places, h_t_plan_going_left, h_t_tally_openStates, h_t_tally_openCount, h_t_tally_picks, h_t_tally_strides, h_t_search_rest_left, h_lf⟩, rfl, rfl, rfl, rfl, rfl, rfl, rfl, rfl, rfl⟩
set_option maxRecDepth 10000 in
theorem ms_bag (a1 : Int32) (μ : MS) (h : SafeM μ) : Sat (sm_bag a1 μ) (fun p => SafeM p.2 ∧ (p.2.1 0) = (μ.1 0) ∧ (p.2.2.2.1 0) = (μ.2.2.1 0) ∧ (p.2.2.2.1 1) = (μ.2.2.1 1) ∧ (p.2.2.2.1 2) = (μ.2.2.1 2) ∧ (p.2.1 3) = (μ.1 3) ∧ (p.2.2.2.1 7) = (μ.2.2.1 7) ∧ (p.2.2.2.1 8) = (μ.2.2.1 8) ∧ (p.2.2.2.1 10) = (μ.2.2.1 10) ∧ (p.2.2.2.1 9) = (μ.2.2.1 9)) := by
  obtain ⟨h_t_knots, h_t_rowed, h_t_bags, h_t_q, h_t_beside, h_t_row, h_t_bag, h_t_up, h_t_state, h_RW⟩ := h
  unfold sm_bag
  refine sat_cal (s_X9_bag a1 ((μ.1 0)) ((μ.1 2)) ((μ.2.2.1 4)) ((μ.2.2.1 5)) h_t_knots h_t_bags h_t_bag h_t_up) fun r hr => ?_
  obtain ⟨q1, q2, q3, -⟩ := hr
  exact sat_some ⟨⟨h_t_knots, h_t_rowed, q1, h_t_q, h_t_beside, h_t_row, q2, q3, h_t_state, h_RW⟩, rfl, rfl, rfl, rfl, rfl, rfl, rfl, rfl, rfl⟩
set_option maxRecDepth 10000 in
theorem xs_hang (a1 : Int32) (a2 : Int32) (σ : XS) (h : SafeX σ) : Sat (sx_hang a1 a2 σ) (fun p => SafeX p.2 ∧ (p.2.1 0) = (σ.1 0) ∧ (p.2.2.2.1 0) = (σ.2.2.1 0) ∧ (p.2.2.2.1 1) = (σ.2.2.1 1) ∧ (p.2.2.2.1 2) = (σ.2.2.1 2) ∧ (p.2.1 5) = (σ.1 5) ∧ (p.2.2.2.1 6) = (σ.2.2.1 6) ∧ (p.2.2.2.1 7) = (σ.2.2.1 7) ∧ (p.2.2.2.1 8) = (σ.2.2.1 8) ∧ (p.2.2.2.1 9) = (σ.2.2.1 9)) := by
  obtain ⟨h_t_net_size, h_t_order_size, h_t_order_knots, h_t_bags_size, h_t_law_size, h_t_going_left, h_t_plan_size, h_t_plan_knots, h_t_plan_others, h_t_plan_otherCount, h_t_plan_feeders, h_t_plan_feederCount, h_t_plan_places, h_t_plan_going_left, h_t_tally_openStates, h_t_tally_openCount, h_t_tally_picks, h_t_tally_strides, h_t_search_rest_left, h_lf⟩ := h
  unfold sx_hang
  refine sat_cal (s_X8_hang a1 a2 ((σ.1 4)) ((σ.2.2.1 5)) h_t_bags_size) fun r hr => ?_
  exact sat_some ⟨⟨h_t_net_size, h_t_order_size, h_t_order_knots, h_t_bags_size, h_t_law_size, h_t_going_left, h_t_plan_size, h_t_plan_knots, h_t_plan_others, h_t_plan_otherCount, h_t_plan_feeders, h_t_plan_feederCount, h_t_plan_places, h_t_plan_going_left, h_t_tally_openStates, h_t_tally_openCount, h_t_tally_picks, h_t_tally_strides, h_t_search_rest_left, h_lf⟩, rfl, rfl, rfl, rfl, rfl, rfl, rfl, rfl, rfl⟩
set_option maxRecDepth 10000 in
theorem ms_hang (a1 : Int32) (a2 : Int32) (μ : MS) (h : SafeM μ) : Sat (sm_hang a1 a2 μ) (fun p => SafeM p.2 ∧ (p.2.1 0) = (μ.1 0) ∧ (p.2.2.2.1 0) = (μ.2.2.1 0) ∧ (p.2.2.2.1 1) = (μ.2.2.1 1) ∧ (p.2.2.2.1 2) = (μ.2.2.1 2) ∧ (p.2.1 3) = (μ.1 3) ∧ (p.2.2.2.1 7) = (μ.2.2.1 7) ∧ (p.2.2.2.1 8) = (μ.2.2.1 8) ∧ (p.2.2.2.1 10) = (μ.2.2.1 10) ∧ (p.2.2.2.1 9) = (μ.2.2.1 9)) := by
  obtain ⟨h_t_knots, h_t_rowed, h_t_bags, h_t_q, h_t_beside, h_t_row, h_t_bag, h_t_up, h_t_state, h_RW⟩ := h
  unfold sm_hang
  refine sat_cal (s_X9_hang a1 a2 ((μ.1 2)) ((μ.2.2.1 5)) h_t_bags h_t_up) fun r hr => ?_
  obtain ⟨q1, -⟩ := hr
  exact sat_some ⟨⟨h_t_knots, h_t_rowed, h_t_bags, h_t_q, h_t_beside, h_t_row, h_t_bag, q1, h_t_state, h_RW⟩, rfl, rfl, rfl, rfl, rfl, rfl, rfl, rfl, rfl⟩
set_option maxRecDepth 10000 in
theorem xs_bagged (a1 : Int32) (a2 : Int32) (σ : XS) (h : SafeX σ) : Sat (sx_bagged a1 a2 σ) (fun p => SafeX p.2 ∧ (p.2.1 0) = (σ.1 0) ∧ (p.2.2.2.1 0) = (σ.2.2.1 0) ∧ (p.2.2.2.1 1) = (σ.2.2.1 1) ∧ (p.2.2.2.1 2) = (σ.2.2.1 2) ∧ (p.2.1 5) = (σ.1 5) ∧ (p.2.2.2.1 6) = (σ.2.2.1 6) ∧ (p.2.2.2.1 7) = (σ.2.2.1 7) ∧ (p.2.2.2.1 8) = (σ.2.2.1 8) ∧ (p.2.2.2.1 9) = (σ.2.2.1 9)) := by
  obtain ⟨h_t_net_size, h_t_order_size, h_t_order_knots, h_t_bags_size, h_t_law_size, h_t_going_left, h_t_plan_size, h_t_plan_knots, h_t_plan_others, h_t_plan_otherCount, h_t_plan_feeders, h_t_plan_feederCount, h_t_plan_places, h_t_plan_going_left, h_t_tally_openStates, h_t_tally_openCount, h_t_tally_picks, h_t_tally_strides, h_t_search_rest_left, h_lf⟩ := h
  unfold sx_bagged
  refine sat_cal (s_X8_bagged a1 a2 ((σ.1 4)) ((σ.2.2.1 4)) ((σ.2.2.1 5)) h_t_bags_size) fun r hr => ?_
  exact sat_some ⟨⟨h_t_net_size, h_t_order_size, h_t_order_knots, h_t_bags_size, h_t_law_size, h_t_going_left, h_t_plan_size, h_t_plan_knots, h_t_plan_others, h_t_plan_otherCount, h_t_plan_feeders, h_t_plan_feederCount, h_t_plan_places, h_t_plan_going_left, h_t_tally_openStates, h_t_tally_openCount, h_t_tally_picks, h_t_tally_strides, h_t_search_rest_left, h_lf⟩, rfl, rfl, rfl, rfl, rfl, rfl, rfl, rfl, rfl⟩
set_option maxRecDepth 10000 in
theorem ms_bagged (a1 : Int32) (a2 : Int32) (μ : MS) (h : SafeM μ) : Sat (sm_bagged a1 a2 μ) (fun p => SafeM p.2 ∧ (p.2.1 0) = (μ.1 0) ∧ (p.2.2.2.1 0) = (μ.2.2.1 0) ∧ (p.2.2.2.1 1) = (μ.2.2.1 1) ∧ (p.2.2.2.1 2) = (μ.2.2.1 2) ∧ (p.2.1 3) = (μ.1 3) ∧ (p.2.2.2.1 7) = (μ.2.2.1 7) ∧ (p.2.2.2.1 8) = (μ.2.2.1 8) ∧ (p.2.2.2.1 10) = (μ.2.2.1 10) ∧ (p.2.2.2.1 9) = (μ.2.2.1 9)) := by
  obtain ⟨h_t_knots, h_t_rowed, h_t_bags, h_t_q, h_t_beside, h_t_row, h_t_bag, h_t_up, h_t_state, h_RW⟩ := h
  unfold sm_bagged
  refine sat_cal (s_X9_bagged a1 a2 ((μ.1 2)) ((μ.2.2.1 4)) ((μ.2.2.1 5)) h_t_bags h_t_bag h_t_up) fun r hr => ?_
  exact sat_some ⟨⟨h_t_knots, h_t_rowed, h_t_bags, h_t_q, h_t_beside, h_t_row, h_t_bag, h_t_up, h_t_state, h_RW⟩, rfl, rfl, rfl, rfl, rfl, rfl, rfl, rfl, rfl⟩
set_option maxRecDepth 10000 in
theorem xs_sound  (σ : XS) (h : SafeX σ) : Sat (sx_sound  σ) (fun p => SafeX p.2 ∧ (p.2.1 0) = (σ.1 0) ∧ (p.2.2.2.1 0) = (σ.2.2.1 0) ∧ (p.2.2.2.1 1) = (σ.2.2.1 1) ∧ (p.2.2.2.1 2) = (σ.2.2.1 2) ∧ (p.2.1 5) = (σ.1 5) ∧ (p.2.2.2.1 6) = (σ.2.2.1 6) ∧ (p.2.2.2.1 7) = (σ.2.2.1 7) ∧ (p.2.2.2.1 8) = (σ.2.2.1 8) ∧ (p.2.2.2.1 9) = (σ.2.2.1 9)) := by
  obtain ⟨h_t_net_size, h_t_order_size, h_t_order_knots, h_t_bags_size, h_t_law_size, h_t_going_left, h_t_plan_size, h_t_plan_knots, h_t_plan_others, h_t_plan_otherCount, h_t_plan_feeders, h_t_plan_feederCount, h_t_plan_places, h_t_plan_going_left, h_t_tally_openStates, h_t_tally_openCount, h_t_tally_picks, h_t_tally_strides, h_t_search_rest_left, h_lf⟩ := h
  unfold sx_sound
  refine sat_cal (s_X8_sound ((σ.1 0)) ((σ.2.2.1 1)) ((σ.1 4)) ((σ.2.2.1 4)) ((σ.2.2.1 5)) h_t_net_size h_t_bags_size) fun r hr => ?_
  exact sat_some ⟨⟨h_t_net_size, h_t_order_size, h_t_order_knots, h_t_bags_size, h_t_law_size, h_t_going_left, h_t_plan_size, h_t_plan_knots, h_t_plan_others, h_t_plan_otherCount, h_t_plan_feeders, h_t_plan_feederCount, h_t_plan_places, h_t_plan_going_left, h_t_tally_openStates, h_t_tally_openCount, h_t_tally_picks, h_t_tally_strides, h_t_search_rest_left, h_lf⟩, rfl, rfl, rfl, rfl, rfl, rfl, rfl, rfl, rfl⟩
set_option maxRecDepth 10000 in
theorem ms_sound  (μ : MS) (h : SafeM μ) : Sat (sm_sound  μ) (fun p => SafeM p.2 ∧ (p.2.1 0) = (μ.1 0) ∧ (p.2.2.2.1 0) = (μ.2.2.1 0) ∧ (p.2.2.2.1 1) = (μ.2.2.1 1) ∧ (p.2.2.2.1 2) = (μ.2.2.1 2) ∧ (p.2.1 3) = (μ.1 3) ∧ (p.2.2.2.1 7) = (μ.2.2.1 7) ∧ (p.2.2.2.1 8) = (μ.2.2.1 8) ∧ (p.2.2.2.1 10) = (μ.2.2.1 10) ∧ (p.2.2.2.1 9) = (μ.2.2.1 9)) := by
  obtain ⟨h_t_knots, h_t_rowed, h_t_bags, h_t_q, h_t_beside, h_t_row, h_t_bag, h_t_up, h_t_state, h_RW⟩ := h
  unfold sm_sound
  refine sat_cal (s_X9_sound ((μ.1 0)) ((μ.1 2)) ((μ.2.2.1 1)) ((μ.2.2.1 4)) ((μ.2.2.1 5)) h_t_knots h_t_bags h_t_beside h_t_bag h_t_up) fun r hr => ?_
  exact sat_some ⟨⟨h_t_knots, h_t_rowed, h_t_bags, h_t_q, h_t_beside, h_t_row, h_t_bag, h_t_up, h_t_state, h_RW⟩, rfl, rfl, rfl, rfl, rfl, rfl, rfl, rfl, rfl⟩
set_option maxRecDepth 10000 in
theorem xs_width  (σ : XS) (h : SafeX σ) : Sat (sx_width  σ) (fun p => SafeX p.2 ∧ (p.2.1 0) = (σ.1 0) ∧ (p.2.2.2.1 0) = (σ.2.2.1 0) ∧ (p.2.2.2.1 1) = (σ.2.2.1 1) ∧ (p.2.2.2.1 2) = (σ.2.2.1 2) ∧ (p.2.1 5) = (σ.1 5) ∧ (p.2.2.2.1 6) = (σ.2.2.1 6) ∧ (p.2.2.2.1 7) = (σ.2.2.1 7) ∧ (p.2.2.2.1 8) = (σ.2.2.1 8) ∧ (p.2.2.2.1 9) = (σ.2.2.1 9)) := by
  obtain ⟨h_t_net_size, h_t_order_size, h_t_order_knots, h_t_bags_size, h_t_law_size, h_t_going_left, h_t_plan_size, h_t_plan_knots, h_t_plan_others, h_t_plan_otherCount, h_t_plan_feeders, h_t_plan_feederCount, h_t_plan_places, h_t_plan_going_left, h_t_tally_openStates, h_t_tally_openCount, h_t_tally_picks, h_t_tally_strides, h_t_search_rest_left, h_lf⟩ := h
  unfold sx_width
  refine sat_cal (s_X8_width ((σ.1 4)) ((σ.2.2.1 4)) h_t_bags_size) fun r hr => ?_
  exact sat_some ⟨⟨h_t_net_size, h_t_order_size, h_t_order_knots, h_t_bags_size, h_t_law_size, h_t_going_left, h_t_plan_size, h_t_plan_knots, h_t_plan_others, h_t_plan_otherCount, h_t_plan_feeders, h_t_plan_feederCount, h_t_plan_places, h_t_plan_going_left, h_t_tally_openStates, h_t_tally_openCount, h_t_tally_picks, h_t_tally_strides, h_t_search_rest_left, h_lf⟩, rfl, rfl, rfl, rfl, rfl, rfl, rfl, rfl, rfl⟩
set_option maxRecDepth 10000 in
theorem ms_width  (μ : MS) (h : SafeM μ) : Sat (sm_width  μ) (fun p => SafeM p.2 ∧ (p.2.1 0) = (μ.1 0) ∧ (p.2.2.2.1 0) = (μ.2.2.1 0) ∧ (p.2.2.2.1 1) = (μ.2.2.1 1) ∧ (p.2.2.2.1 2) = (μ.2.2.1 2) ∧ (p.2.1 3) = (μ.1 3) ∧ (p.2.2.2.1 7) = (μ.2.2.1 7) ∧ (p.2.2.2.1 8) = (μ.2.2.1 8) ∧ (p.2.2.2.1 10) = (μ.2.2.1 10) ∧ (p.2.2.2.1 9) = (μ.2.2.1 9)) := by
  obtain ⟨h_t_knots, h_t_rowed, h_t_bags, h_t_q, h_t_beside, h_t_row, h_t_bag, h_t_up, h_t_state, h_RW⟩ := h
  unfold sm_width
  refine sat_cal (s_X9_width ((μ.1 2)) ((μ.2.2.1 4)) h_t_bags h_t_bag) fun r hr => ?_
  obtain ⟨q0, -⟩ := hr
  exact sat_some ⟨⟨h_t_knots, h_t_rowed, h_t_bags, h_t_q, h_t_beside, h_t_row, h_t_bag, h_t_up, h_t_state, h_RW⟩, rfl, rfl, rfl, rfl, rfl, rfl, rfl, rfl, rfl⟩
set_option maxRecDepth 10000 in
theorem xs_separator  (σ : XS) (h : SafeX σ) : Sat (sx_separator  σ) (fun p => SafeX p.2 ∧ (p.2.1 0) = (σ.1 0) ∧ (p.2.2.2.1 0) = (σ.2.2.1 0) ∧ (p.2.2.2.1 1) = (σ.2.2.1 1) ∧ (p.2.2.2.1 2) = (σ.2.2.1 2) ∧ (p.2.1 5) = (σ.1 5) ∧ (p.2.2.2.1 6) = (σ.2.2.1 6) ∧ (p.2.2.2.1 7) = (σ.2.2.1 7) ∧ (p.2.2.2.1 8) = (σ.2.2.1 8) ∧ (p.2.2.2.1 9) = (σ.2.2.1 9)) := by
  obtain ⟨h_t_net_size, h_t_order_size, h_t_order_knots, h_t_bags_size, h_t_law_size, h_t_going_left, h_t_plan_size, h_t_plan_knots, h_t_plan_others, h_t_plan_otherCount, h_t_plan_feeders, h_t_plan_feederCount, h_t_plan_places, h_t_plan_going_left, h_t_tally_openStates, h_t_tally_openCount, h_t_tally_picks, h_t_tally_strides, h_t_search_rest_left, h_lf⟩ := h
  unfold sx_separator
  refine sat_cal (s_X8_separator ((σ.1 0)) ((σ.2.2.1 1)) ((σ.1 4)) ((σ.2.2.1 4)) ((σ.2.2.1 5)) h_t_net_size h_t_bags_size) fun r hr => ?_
  exact sat_some ⟨⟨h_t_net_size, h_t_order_size, h_t_order_knots, h_t_bags_size, h_t_law_size, h_t_going_left, h_t_plan_size, h_t_plan_knots, h_t_plan_others, h_t_plan_otherCount, h_t_plan_feeders, h_t_plan_feederCount, h_t_plan_places, h_t_plan_going_left, h_t_tally_openStates, h_t_tally_openCount, h_t_tally_picks, h_t_tally_strides, h_t_search_rest_left, h_lf⟩, rfl, rfl, rfl, rfl, rfl, rfl, rfl, rfl, rfl⟩
set_option maxRecDepth 10000 in
theorem ms_separator  (μ : MS) (h : SafeM μ) : Sat (sm_separator  μ) (fun p => SafeM p.2 ∧ (p.2.1 0) = (μ.1 0) ∧ (p.2.2.2.1 0) = (μ.2.2.1 0) ∧ (p.2.2.2.1 1) = (μ.2.2.1 1) ∧ (p.2.2.2.1 2) = (μ.2.2.1 2) ∧ (p.2.1 3) = (μ.1 3) ∧ (p.2.2.2.1 7) = (μ.2.2.1 7) ∧ (p.2.2.2.1 8) = (μ.2.2.1 8) ∧ (p.2.2.2.1 10) = (μ.2.2.1 10) ∧ (p.2.2.2.1 9) = (μ.2.2.1 9)) := by
  obtain ⟨h_t_knots, h_t_rowed, h_t_bags, h_t_q, h_t_beside, h_t_row, h_t_bag, h_t_up, h_t_state, h_RW⟩ := h
  unfold sm_separator
  refine sat_cal (s_X9_separator ((μ.1 0)) ((μ.1 2)) ((μ.2.2.1 1)) ((μ.2.2.1 4)) ((μ.2.2.1 5)) h_t_knots h_t_bags h_t_beside h_t_bag h_t_up) fun r hr => ?_
  exact sat_some ⟨⟨h_t_knots, h_t_rowed, h_t_bags, h_t_q, h_t_beside, h_t_row, h_t_bag, h_t_up, h_t_state, h_RW⟩, rfl, rfl, rfl, rfl, rfl, rfl, rfl, rfl, rfl⟩
set_option maxRecDepth 10000 in
theorem xs_states (a1 : Int32) (σ : XS) (h : SafeX σ) : Sat (sx_states a1 σ) (fun p => SafeX p.2 ∧ (p.2.1 0) = (σ.1 0) ∧ (p.2.2.2.1 0) = (σ.2.2.1 0) ∧ (p.2.2.2.1 1) = (σ.2.2.1 1) ∧ (p.2.2.2.1 2) = (σ.2.2.1 2)) := by
  obtain ⟨h_t_net_size, h_t_order_size, h_t_order_knots, h_t_bags_size, h_t_law_size, h_t_going_left, h_t_plan_size, h_t_plan_knots, h_t_plan_others, h_t_plan_otherCount, h_t_plan_feeders, h_t_plan_feederCount, h_t_plan_places, h_t_plan_going_left, h_t_tally_openStates, h_t_tally_openCount, h_t_tally_picks, h_t_tally_strides, h_t_search_rest_left, h_lf⟩ := h
  unfold sx_states
  refine sat_cal (s_X8_states a1 ((σ.1 5)) ((σ.2.2.1 6)) ((σ.2.2.1 7)) ((σ.2.2.1 8)) ((σ.2.2.1 9)) h_t_law_size) fun r hr => ?_
  obtain ⟨q1, -⟩ := hr
  exact sat_some ⟨⟨h_t_net_size, h_t_order_size, h_t_order_knots, h_t_bags_size, q1, h_t_going_left, h_t_plan_size, h_t_plan_knots, h_t_plan_others, h_t_plan_otherCount, h_t_plan_feeders, h_t_plan_feederCount, h_t_plan_places, h_t_plan_going_left, h_t_tally_openStates, h_t_tally_openCount, h_t_tally_picks, h_t_tally_strides, h_t_search_rest_left, h_lf⟩, rfl, rfl, rfl, rfl⟩
set_option maxRecDepth 10000 in
theorem ms_states (a1 : Int32) (μ : MS) (h : SafeM μ) : Sat (sm_states a1 μ) (fun p => SafeM p.2 ∧ (p.2.1 0) = (μ.1 0) ∧ (p.2.2.2.1 0) = (μ.2.2.1 0) ∧ (p.2.2.2.1 1) = (μ.2.2.1 1) ∧ (p.2.2.2.1 2) = (μ.2.2.1 2)) := by
  obtain ⟨h_t_knots, h_t_rowed, h_t_bags, h_t_q, h_t_beside, h_t_row, h_t_bag, h_t_up, h_t_state, h_RW⟩ := h
  unfold sm_states
  refine sat_cal (s_X9_states a1 ((μ.1 3)) ((μ.2.2.1 7)) ((μ.2.2.1 8)) ((μ.2.2.1 9)) ((μ.2.2.1 10)) h_t_q) fun r hr => ?_
  obtain ⟨q1, -⟩ := hr
  exact sat_some ⟨⟨h_t_knots, h_t_rowed, h_t_bags, q1, h_t_beside, h_t_row, h_t_bag, h_t_up, h_t_state, h_RW⟩, rfl, rfl, rfl, rfl⟩
set_option maxRecDepth 10000 in
theorem xs_factor (a1 : Int32) (a2 : Int32) (σ : XS) (h : SafeX σ) : Sat (sx_factor a1 a2 σ) (fun p => SafeX p.2 ∧ (p.2.1 0) = (σ.1 0) ∧ (p.2.2.2.1 0) = (σ.2.2.1 0) ∧ (p.2.2.2.1 1) = (σ.2.2.1 1) ∧ (p.2.2.2.1 2) = (σ.2.2.1 2) ∧ (p.2.1 5) = (σ.1 5) ∧ (p.2.2.2.1 7) = (σ.2.2.1 7) ∧ (p.2.2.2.1 8) = (σ.2.2.1 8) ∧ (p.2.2.2.1 9) = (σ.2.2.1 9)) := by
  obtain ⟨h_t_net_size, h_t_order_size, h_t_order_knots, h_t_bags_size, h_t_law_size, h_t_going_left, h_t_plan_size, h_t_plan_knots, h_t_plan_others, h_t_plan_otherCount, h_t_plan_feeders, h_t_plan_feederCount, h_t_plan_places, h_t_plan_going_left, h_t_tally_openStates, h_t_tally_openCount, h_t_tally_picks, h_t_tally_strides, h_t_search_rest_left, h_lf⟩ := h
  unfold sx_factor
  refine sat_cal (s_X8_factor a1 a2 ((σ.1 5)) ((σ.2.2.1 6)) h_t_law_size) fun r hr => ?_
  exact sat_some ⟨⟨h_t_net_size, h_t_order_size, h_t_order_knots, h_t_bags_size, h_t_law_size, h_t_going_left, h_t_plan_size, h_t_plan_knots, h_t_plan_others, h_t_plan_otherCount, h_t_plan_feeders, h_t_plan_feederCount, h_t_plan_places, h_t_plan_going_left, h_t_tally_openStates, h_t_tally_openCount, h_t_tally_picks, h_t_tally_strides, h_t_search_rest_left, h_lf⟩, rfl, rfl, rfl, rfl, rfl, rfl, rfl, rfl⟩
set_option maxRecDepth 10000 in
theorem ms_factor (a1 : Int32) (a2 : Int32) (μ : MS) (h : SafeM μ) : Sat (sm_factor a1 a2 μ) (fun p => SafeM p.2 ∧ (p.2.1 0) = (μ.1 0) ∧ (p.2.2.2.1 0) = (μ.2.2.1 0) ∧ (p.2.2.2.1 1) = (μ.2.2.1 1) ∧ (p.2.2.2.1 2) = (μ.2.2.1 2) ∧ (p.2.1 3) = (μ.1 3) ∧ (p.2.2.2.1 8) = (μ.2.2.1 8) ∧ (p.2.2.2.1 10) = (μ.2.2.1 10) ∧ (p.2.2.2.1 9) = (μ.2.2.1 9)) := by
  obtain ⟨h_t_knots, h_t_rowed, h_t_bags, h_t_q, h_t_beside, h_t_row, h_t_bag, h_t_up, h_t_state, h_RW⟩ := h
  unfold sm_factor
  refine sat_cal (s_X9_factor a1 a2 ((μ.1 3)) ((μ.2.2.1 7)) h_t_q) fun r hr => ?_
  exact sat_some ⟨⟨h_t_knots, h_t_rowed, h_t_bags, h_t_q, h_t_beside, h_t_row, h_t_bag, h_t_up, h_t_state, h_RW⟩, rfl, rfl, rfl, rfl, rfl, rfl, rfl, rfl⟩
set_option maxRecDepth 10000 in
theorem xs_pair (a1 : Int32) (a2 : Int32) (a3 : Int32) (a4 : Int32) (σ : XS) (h : SafeX σ) : Sat (sx_pair a1 a2 a3 a4 σ) (fun p => SafeX p.2 ∧ (p.2.1 0) = (σ.1 0) ∧ (p.2.2.2.1 0) = (σ.2.2.1 0) ∧ (p.2.2.2.1 1) = (σ.2.2.1 1) ∧ (p.2.2.2.1 2) = (σ.2.2.1 2) ∧ (p.2.1 5) = (σ.1 5) ∧ (p.2.2.2.1 6) = (σ.2.2.1 6) ∧ (p.2.2.2.1 9) = (σ.2.2.1 9)) := by
  obtain ⟨h_t_net_size, h_t_order_size, h_t_order_knots, h_t_bags_size, h_t_law_size, h_t_going_left, h_t_plan_size, h_t_plan_knots, h_t_plan_others, h_t_plan_otherCount, h_t_plan_feeders, h_t_plan_feederCount, h_t_plan_places, h_t_plan_going_left, h_t_tally_openStates, h_t_tally_openCount, h_t_tally_picks, h_t_tally_strides, h_t_search_rest_left, h_lf⟩ := h
  unfold sx_pair
  refine sat_cal (s_X8_pair a1 a2 a3 a4 ((σ.1 5)) ((σ.2.2.1 7)) ((σ.2.2.1 8)) h_t_law_size) fun r hr => ?_
  exact sat_some ⟨⟨h_t_net_size, h_t_order_size, h_t_order_knots, h_t_bags_size, h_t_law_size, h_t_going_left, h_t_plan_size, h_t_plan_knots, h_t_plan_others, h_t_plan_otherCount, h_t_plan_feeders, h_t_plan_feederCount, h_t_plan_places, h_t_plan_going_left, h_t_tally_openStates, h_t_tally_openCount, h_t_tally_picks, h_t_tally_strides, h_t_search_rest_left, h_lf⟩, rfl, rfl, rfl, rfl, rfl, rfl, rfl⟩
set_option maxRecDepth 10000 in
theorem ms_pair (a1 : Int32) (a2 : Int32) (a3 : Int32) (a4 : Int32) (μ : MS) (h : SafeM μ) : Sat (sm_pair a1 a2 a3 a4 μ) (fun p => SafeM p.2 ∧ (p.2.1 0) = (μ.1 0) ∧ (p.2.2.2.1 0) = (μ.2.2.1 0) ∧ (p.2.2.2.1 1) = (μ.2.2.1 1) ∧ (p.2.2.2.1 2) = (μ.2.2.1 2) ∧ (p.2.1 3) = (μ.1 3) ∧ (p.2.2.2.1 7) = (μ.2.2.1 7) ∧ (p.2.2.2.1 9) = (μ.2.2.1 9)) := by
  obtain ⟨h_t_knots, h_t_rowed, h_t_bags, h_t_q, h_t_beside, h_t_row, h_t_bag, h_t_up, h_t_state, h_RW⟩ := h
  unfold sm_pair
  refine sat_cal (s_X9_pair a1 a2 a3 a4 ((μ.1 3)) ((μ.2.2.1 8)) ((μ.2.2.1 10)) h_t_q) fun r hr => ?_
  exact sat_some ⟨⟨h_t_knots, h_t_rowed, h_t_bags, h_t_q, h_t_beside, h_t_row, h_t_bag, h_t_up, h_t_state, h_RW⟩, rfl, rfl, rfl, rfl, rfl, rfl, rfl⟩
set_option maxRecDepth 10000 in
theorem xs_forbid (a1 : Int32) (a2 : Int32) (σ : XS) (h : SafeX σ) : Sat (sx_forbid a1 a2 σ) (fun p => SafeX p.2 ∧ (p.2.1 0) = (σ.1 0) ∧ (p.2.2.2.1 0) = (σ.2.2.1 0) ∧ (p.2.2.2.1 1) = (σ.2.2.1 1) ∧ (p.2.2.2.1 2) = (σ.2.2.1 2) ∧ (p.2.1 5) = (σ.1 5) ∧ (p.2.2.2.1 6) = (σ.2.2.1 6) ∧ (p.2.2.2.1 7) = (σ.2.2.1 7) ∧ (p.2.2.2.1 8) = (σ.2.2.1 8)) := by
  obtain ⟨h_t_net_size, h_t_order_size, h_t_order_knots, h_t_bags_size, h_t_law_size, h_t_going_left, h_t_plan_size, h_t_plan_knots, h_t_plan_others, h_t_plan_otherCount, h_t_plan_feeders, h_t_plan_feederCount, h_t_plan_places, h_t_plan_going_left, h_t_tally_openStates, h_t_tally_openCount, h_t_tally_picks, h_t_tally_strides, h_t_search_rest_left, h_lf⟩ := h
  unfold sx_forbid
  refine sat_cal (s_X8_forbid a1 a2 ((σ.1 0)) ((σ.2.2.1 9)) h_t_net_size) fun r hr => ?_
  exact sat_some ⟨⟨h_t_net_size, h_t_order_size, h_t_order_knots, h_t_bags_size, h_t_law_size, h_t_going_left, h_t_plan_size, h_t_plan_knots, h_t_plan_others, h_t_plan_otherCount, h_t_plan_feeders, h_t_plan_feederCount, h_t_plan_places, h_t_plan_going_left, h_t_tally_openStates, h_t_tally_openCount, h_t_tally_picks, h_t_tally_strides, h_t_search_rest_left, h_lf⟩, rfl, rfl, rfl, rfl, rfl, rfl, rfl, rfl⟩
set_option maxRecDepth 10000 in
theorem ms_forbid (a1 : Int32) (a2 : Int32) (μ : MS) (h : SafeM μ) : Sat (sm_forbid a1 a2 μ) (fun p => SafeM p.2 ∧ (p.2.1 0) = (μ.1 0) ∧ (p.2.2.2.1 0) = (μ.2.2.1 0) ∧ (p.2.2.2.1 1) = (μ.2.2.1 1) ∧ (p.2.2.2.1 2) = (μ.2.2.1 2) ∧ (p.2.1 3) = (μ.1 3) ∧ (p.2.2.2.1 7) = (μ.2.2.1 7) ∧ (p.2.2.2.1 8) = (μ.2.2.1 8) ∧ (p.2.2.2.1 10) = (μ.2.2.1 10)) := by
  obtain ⟨h_t_knots, h_t_rowed, h_t_bags, h_t_q, h_t_beside, h_t_row, h_t_bag, h_t_up, h_t_state, h_RW⟩ := h
  unfold sm_forbid
  refine sat_cal (s_X9_forbid a1 a2 ((μ.1 0)) ((μ.2.2.1 9)) h_t_knots) fun r hr => ?_
  exact sat_some ⟨⟨h_t_knots, h_t_rowed, h_t_bags, h_t_q, h_t_beside, h_t_row, h_t_bag, h_t_up, h_t_state, h_RW⟩, rfl, rfl, rfl, rfl, rfl, rfl, rfl, rfl⟩
set_option maxRecDepth 10000 in
theorem xs_ways  (σ : XS) (h : SafeX σ) : Sat (sx_ways  σ) (fun p => SafeX p.2 ∧ (p.2.1 0) = (σ.1 0) ∧ (p.2.2.2.1 0) = (σ.2.2.1 0) ∧ (p.2.2.2.1 1) = (σ.2.2.1 1) ∧ (p.2.2.2.1 2) = (σ.2.2.1 2) ∧ (p.2.1 5) = (σ.1 5) ∧ (p.2.2.2.1 6) = (σ.2.2.1 6) ∧ (p.2.2.2.1 7) = (σ.2.2.1 7) ∧ (p.2.2.2.1 8) = (σ.2.2.1 8) ∧ (p.2.2.2.1 9) = (σ.2.2.1 9)) := by
  obtain ⟨h_t_net_size, h_t_order_size, h_t_order_knots, h_t_bags_size, h_t_law_size, h_t_going_left, h_t_plan_size, h_t_plan_knots, h_t_plan_others, h_t_plan_otherCount, h_t_plan_feeders, h_t_plan_feederCount, h_t_plan_places, h_t_plan_going_left, h_t_tally_openStates, h_t_tally_openCount, h_t_tally_picks, h_t_tally_strides, h_t_search_rest_left, h_lf⟩ := h
  unfold sx_ways
  refine sat_cal (s_X8_ways ((σ.1 0)) ((σ.2.2.1 0)) ((σ.2.2.1 1)) ((σ.2.2.1 2)) ((σ.1 4)) ((σ.2.2.1 4)) ((σ.2.2.1 5)) ((σ.1 5)) ((σ.2.2.1 6)) ((σ.2.2.1 7)) ((σ.2.2.1 8)) ((σ.2.2.1 9)) ((σ.1 8)) ((σ.2.2.1 11)) ((σ.2.2.1 12)) ((σ.2.2.1 13)) ((σ.2.2.1 14)) ((σ.2.2.1 15)) ((σ.2.2.1 16)) ((σ.2.2.1 17)) ((σ.2.2.1 18)) ((σ.2.2.1 19)) ((σ.1 9)) ((σ.1 10)) ((σ.2.2.1 20)) ((σ.1 11)) ((σ.1 12)) ((σ.1 13)) ((σ.1 14)) ((σ.1 15)) ((σ.2.2.1 21)) ((σ.2.2.1 22)) ((σ.2.2.1 23)) ((σ.2.2.1 24)) ((σ.2.2.1 25)) ((σ.2.2.1 26)) ((σ.2.2.1 27)) h_t_net_size h_t_bags_size h_t_law_size h_t_plan_size h_t_plan_knots h_t_plan_others h_t_plan_otherCount h_t_plan_feeders h_t_plan_feederCount h_t_plan_places h_t_plan_going_left h_t_tally_openStates h_t_tally_openCount h_t_tally_picks h_t_tally_strides) fun r hr => ?_
  obtain ⟨q1, q2, q3, q4, q7, q8, q9, q11, q20, q21, q22, q23, -⟩ := hr
  exact sat_some ⟨⟨h_t_net_size, h_t_order_size, h_t_order_knots, h_t_bags_size, h_t_law_size, h_t_going_left, q1, q2, q3, q4, q7, q8, q9, q11, q20, q21, q22, q23, h_t_search_rest_left, h_lf⟩, rfl, rfl, rfl, rfl, rfl, rfl, rfl, rfl, rfl⟩
set_option maxRecDepth 10000 in
theorem ms_ways  (μ : MS) (h : SafeM μ) : Sat (sm_ways  μ) (fun p => SafeM p.2 ∧ (p.2.1 0) = (μ.1 0) ∧ (p.2.2.2.1 0) = (μ.2.2.1 0) ∧ (p.2.2.2.1 1) = (μ.2.2.1 1) ∧ (p.2.2.2.1 2) = (μ.2.2.1 2) ∧ (p.2.1 3) = (μ.1 3) ∧ (p.2.2.2.1 7) = (μ.2.2.1 7) ∧ (p.2.2.2.1 8) = (μ.2.2.1 8) ∧ (p.2.2.2.1 10) = (μ.2.2.1 10) ∧ (p.2.2.2.1 9) = (μ.2.2.1 9)) := by
  obtain ⟨h_t_knots, h_t_rowed, h_t_bags, h_t_q, h_t_beside, h_t_row, h_t_bag, h_t_up, h_t_state, h_RW⟩ := h
  unfold sm_ways
  refine sat_cal (s_X9_ways ((μ.1 0)) ((μ.1 2)) ((μ.1 3)) ((μ.2.1 0)) ((μ.2.1 1)) ((μ.2.1 2)) ((μ.2.2.1 0)) ((μ.2.2.1 1)) ((μ.2.2.1 2)) ((μ.2.2.1 4)) ((μ.2.2.1 5)) ((μ.2.2.1 7)) ((μ.2.2.1 8)) ((μ.2.2.1 9)) ((μ.2.2.1 10)) ((μ.2.2.1 11)) ((μ.2.2.1 12)) ((μ.2.2.2 0)) ((μ.2.2.2 1)) ((μ.2.2.2 2)) h_t_knots h_t_bags h_t_q h_t_beside h_t_bag h_t_up h_t_state) fun r hr => ?_
  obtain ⟨q5, -⟩ := hr
  exact sat_some ⟨⟨h_t_knots, h_t_rowed, h_t_bags, h_t_q, h_t_beside, h_t_row, h_t_bag, h_t_up, q5, h_RW⟩, rfl, rfl, rfl, rfl, rfl, rfl, rfl, rfl, rfl⟩
set_option maxRecDepth 10000 in
theorem xs_best (a1 : Int32) (σ : XS) (h : SafeX σ) : Sat (sx_best a1 σ) (fun p => SafeX p.2 ∧ (p.2.1 0) = (σ.1 0) ∧ (p.2.2.2.1 0) = (σ.2.2.1 0) ∧ (p.2.2.2.1 1) = (σ.2.2.1 1) ∧ (p.2.2.2.1 2) = (σ.2.2.1 2) ∧ (p.2.1 5) = (σ.1 5) ∧ (p.2.2.2.1 6) = (σ.2.2.1 6) ∧ (p.2.2.2.1 7) = (σ.2.2.1 7) ∧ (p.2.2.2.1 8) = (σ.2.2.1 8) ∧ (p.2.2.2.1 9) = (σ.2.2.1 9)) := by
  obtain ⟨h_t_net_size, h_t_order_size, h_t_order_knots, h_t_bags_size, h_t_law_size, h_t_going_left, h_t_plan_size, h_t_plan_knots, h_t_plan_others, h_t_plan_otherCount, h_t_plan_feeders, h_t_plan_feederCount, h_t_plan_places, h_t_plan_going_left, h_t_tally_openStates, h_t_tally_openCount, h_t_tally_picks, h_t_tally_strides, h_t_search_rest_left, h_lf⟩ := h
  unfold sx_best
  refine sat_cal (s_X8_best a1 ((σ.1 0)) ((σ.2.2.1 0)) ((σ.2.2.1 1)) ((σ.2.2.1 2)) ((σ.1 4)) ((σ.2.2.1 4)) ((σ.2.2.1 5)) ((σ.1 5)) ((σ.2.2.1 6)) ((σ.2.2.1 7)) ((σ.2.2.1 8)) ((σ.2.2.1 9)) ((σ.1 8)) ((σ.2.2.1 11)) ((σ.2.2.1 12)) ((σ.2.2.1 13)) ((σ.2.2.1 14)) ((σ.2.2.1 15)) ((σ.2.2.1 16)) ((σ.2.2.1 17)) ((σ.2.2.1 18)) ((σ.2.2.1 19)) ((σ.1 9)) ((σ.1 10)) ((σ.2.2.1 20)) ((σ.1 11)) ((σ.1 12)) ((σ.1 13)) ((σ.1 14)) ((σ.1 15)) ((σ.2.2.1 21)) ((σ.2.2.1 22)) ((σ.2.2.1 23)) ((σ.2.2.1 24)) ((σ.2.2.1 25)) ((σ.2.2.1 26)) ((σ.2.2.1 27)) h_t_net_size h_t_bags_size h_t_law_size h_t_plan_size h_t_plan_knots h_t_plan_others h_t_plan_otherCount h_t_plan_feeders h_t_plan_feederCount h_t_plan_places h_t_plan_going_left h_t_tally_openStates h_t_tally_openCount h_t_tally_picks h_t_tally_strides) fun r hr => ?_
  obtain ⟨q1, q2, q3, q4, q7, q8, q9, q11, q20, q21, q22, q23, -⟩ := hr
  exact sat_some ⟨⟨h_t_net_size, h_t_order_size, h_t_order_knots, h_t_bags_size, h_t_law_size, h_t_going_left, q1, q2, q3, q4, q7, q8, q9, q11, q20, q21, q22, q23, h_t_search_rest_left, h_lf⟩, rfl, rfl, rfl, rfl, rfl, rfl, rfl, rfl, rfl⟩
set_option maxRecDepth 10000 in
theorem ms_best (a1 : Int32) (μ : MS) (h : SafeM μ) : Sat (sm_best a1 μ) (fun p => SafeM p.2 ∧ (p.2.1 0) = (μ.1 0) ∧ (p.2.2.2.1 0) = (μ.2.2.1 0) ∧ (p.2.2.2.1 1) = (μ.2.2.1 1) ∧ (p.2.2.2.1 2) = (μ.2.2.1 2) ∧ (p.2.1 3) = (μ.1 3) ∧ (p.2.2.2.1 7) = (μ.2.2.1 7) ∧ (p.2.2.2.1 8) = (μ.2.2.1 8) ∧ (p.2.2.2.1 10) = (μ.2.2.1 10) ∧ (p.2.2.2.1 9) = (μ.2.2.1 9)) := by
  obtain ⟨h_t_knots, h_t_rowed, h_t_bags, h_t_q, h_t_beside, h_t_row, h_t_bag, h_t_up, h_t_state, h_RW⟩ := h
  unfold sm_best
  refine sat_cal (s_X9_best a1 ((μ.1 0)) ((μ.1 2)) ((μ.1 3)) ((μ.2.1 0)) ((μ.2.1 1)) ((μ.2.1 2)) ((μ.2.2.1 0)) ((μ.2.2.1 1)) ((μ.2.2.1 2)) ((μ.2.2.1 4)) ((μ.2.2.1 5)) ((μ.2.2.1 7)) ((μ.2.2.1 8)) ((μ.2.2.1 9)) ((μ.2.2.1 10)) ((μ.2.2.1 11)) ((μ.2.2.1 12)) ((μ.2.2.2 0)) ((μ.2.2.2 1)) ((μ.2.2.2 2)) h_t_knots h_t_bags h_t_q h_t_beside h_t_bag h_t_up h_t_state) fun r hr => ?_
  obtain ⟨q5, -⟩ := hr
  exact sat_some ⟨⟨h_t_knots, h_t_rowed, h_t_bags, h_t_q, h_t_beside, h_t_row, h_t_bag, h_t_up, q5, h_RW⟩, rfl, rfl, rfl, rfl, rfl, rfl, rfl, rfl, rfl⟩
set_option maxRecDepth 10000 in
theorem xs_bests (a1 : Int32) (σ : XS) (h : SafeX σ) : Sat (sx_bests a1 σ) (fun p => SafeX p.2 ∧ (p.2.1 0) = (σ.1 0) ∧ (p.2.2.2.1 0) = (σ.2.2.1 0) ∧ (p.2.2.2.1 1) = (σ.2.2.1 1) ∧ (p.2.2.2.1 2) = (σ.2.2.1 2) ∧ (p.2.1 5) = (σ.1 5) ∧ (p.2.2.2.1 6) = (σ.2.2.1 6) ∧ (p.2.2.2.1 7) = (σ.2.2.1 7) ∧ (p.2.2.2.1 8) = (σ.2.2.1 8) ∧ (p.2.2.2.1 9) = (σ.2.2.1 9)) := by
  obtain ⟨h_t_net_size, h_t_order_size, h_t_order_knots, h_t_bags_size, h_t_law_size, h_t_going_left, h_t_plan_size, h_t_plan_knots, h_t_plan_others, h_t_plan_otherCount, h_t_plan_feeders, h_t_plan_feederCount, h_t_plan_places, h_t_plan_going_left, h_t_tally_openStates, h_t_tally_openCount, h_t_tally_picks, h_t_tally_strides, h_t_search_rest_left, h_lf⟩ := h
  unfold sx_bests
  refine sat_cal (s_X8_bests a1 ((σ.1 0)) ((σ.2.2.1 0)) ((σ.2.2.1 1)) ((σ.2.2.1 2)) ((σ.1 4)) ((σ.2.2.1 4)) ((σ.2.2.1 5)) ((σ.1 5)) ((σ.2.2.1 6)) ((σ.2.2.1 7)) ((σ.2.2.1 8)) ((σ.2.2.1 9)) ((σ.1 8)) ((σ.2.2.1 11)) ((σ.2.2.1 12)) ((σ.2.2.1 13)) ((σ.2.2.1 14)) ((σ.2.2.1 15)) ((σ.2.2.1 16)) ((σ.2.2.1 17)) ((σ.2.2.1 18)) ((σ.2.2.1 19)) ((σ.1 9)) ((σ.1 10)) ((σ.2.2.1 20)) ((σ.1 11)) ((σ.1 12)) ((σ.1 13)) ((σ.1 14)) ((σ.1 15)) ((σ.2.2.1 21)) ((σ.2.2.1 22)) ((σ.2.2.1 23)) ((σ.2.2.1 24)) ((σ.2.2.1 25)) ((σ.2.2.1 26)) ((σ.2.2.1 27)) h_t_net_size h_t_bags_size h_t_law_size h_t_plan_size h_t_plan_knots h_t_plan_others h_t_plan_otherCount h_t_plan_feeders h_t_plan_feederCount h_t_plan_places h_t_plan_going_left h_t_tally_openStates h_t_tally_openCount h_t_tally_picks h_t_tally_strides) fun r hr => ?_
  obtain ⟨q1, q2, q3, q4, q7, q8, q9, q11, q20, q21, q22, q23, -⟩ := hr
  exact sat_some ⟨⟨h_t_net_size, h_t_order_size, h_t_order_knots, h_t_bags_size, h_t_law_size, h_t_going_left, q1, q2, q3, q4, q7, q8, q9, q11, q20, q21, q22, q23, h_t_search_rest_left, h_lf⟩, rfl, rfl, rfl, rfl, rfl, rfl, rfl, rfl, rfl⟩
set_option maxRecDepth 10000 in
theorem ms_bests (a1 : Int32) (μ : MS) (h : SafeM μ) : Sat (sm_bests a1 μ) (fun p => SafeM p.2 ∧ (p.2.1 0) = (μ.1 0) ∧ (p.2.2.2.1 0) = (μ.2.2.1 0) ∧ (p.2.2.2.1 1) = (μ.2.2.1 1) ∧ (p.2.2.2.1 2) = (μ.2.2.1 2) ∧ (p.2.1 3) = (μ.1 3) ∧ (p.2.2.2.1 7) = (μ.2.2.1 7) ∧ (p.2.2.2.1 8) = (μ.2.2.1 8) ∧ (p.2.2.2.1 10) = (μ.2.2.1 10) ∧ (p.2.2.2.1 9) = (μ.2.2.1 9)) := by
  obtain ⟨h_t_knots, h_t_rowed, h_t_bags, h_t_q, h_t_beside, h_t_row, h_t_bag, h_t_up, h_t_state, h_RW⟩ := h
  unfold sm_bests
  refine sat_cal (s_X9_bests a1 ((μ.1 0)) ((μ.1 2)) ((μ.1 3)) ((μ.2.1 0)) ((μ.2.1 1)) ((μ.2.1 2)) ((μ.2.2.1 0)) ((μ.2.2.1 1)) ((μ.2.2.1 2)) ((μ.2.2.1 4)) ((μ.2.2.1 5)) ((μ.2.2.1 7)) ((μ.2.2.1 8)) ((μ.2.2.1 9)) ((μ.2.2.1 10)) ((μ.2.2.1 11)) ((μ.2.2.1 12)) ((μ.2.2.2 0)) ((μ.2.2.2 1)) ((μ.2.2.2 2)) h_t_knots h_t_bags h_t_q h_t_beside h_t_bag h_t_up h_t_state) fun r hr => ?_
  obtain ⟨q5, -⟩ := hr
  exact sat_some ⟨⟨h_t_knots, h_t_rowed, h_t_bags, h_t_q, h_t_beside, h_t_row, h_t_bag, h_t_up, q5, h_RW⟩, rfl, rfl, rfl, rfl, rfl, rfl, rfl, rfl, rfl⟩
set_option maxRecDepth 10000 in
theorem xs_choice (a1 : Int32) (a2 : Int32) (σ : XS) (h : SafeX σ) : Sat (sx_choice a1 a2 σ) (fun p => SafeX p.2 ∧ (p.2.1 0) = (σ.1 0) ∧ (p.2.2.2.1 0) = (σ.2.2.1 0) ∧ (p.2.2.2.1 1) = (σ.2.2.1 1) ∧ (p.2.2.2.1 2) = (σ.2.2.1 2) ∧ (p.2.1 5) = (σ.1 5) ∧ (p.2.2.2.1 6) = (σ.2.2.1 6) ∧ (p.2.2.2.1 7) = (σ.2.2.1 7) ∧ (p.2.2.2.1 8) = (σ.2.2.1 8) ∧ (p.2.2.2.1 9) = (σ.2.2.1 9)) := by
  obtain ⟨h_t_net_size, h_t_order_size, h_t_order_knots, h_t_bags_size, h_t_law_size, h_t_going_left, h_t_plan_size, h_t_plan_knots, h_t_plan_others, h_t_plan_otherCount, h_t_plan_feeders, h_t_plan_feederCount, h_t_plan_places, h_t_plan_going_left, h_t_tally_openStates, h_t_tally_openCount, h_t_tally_picks, h_t_tally_strides, h_t_search_rest_left, h_lf⟩ := h
  unfold sx_choice
  refine sat_cal (s_X8_choice a1 a2 ((σ.1 0)) ((σ.2.2.1 0)) ((σ.2.2.1 1)) ((σ.2.2.1 2)) ((σ.1 4)) ((σ.2.2.1 4)) ((σ.2.2.1 5)) ((σ.1 5)) ((σ.2.2.1 6)) ((σ.2.2.1 7)) ((σ.2.2.1 8)) ((σ.2.2.1 9)) ((σ.1 8)) ((σ.2.2.1 11)) ((σ.2.2.1 12)) ((σ.2.2.1 13)) ((σ.2.2.1 14)) ((σ.2.2.1 15)) ((σ.2.2.1 16)) ((σ.2.2.1 17)) ((σ.2.2.1 18)) ((σ.2.2.1 19)) ((σ.1 9)) ((σ.1 10)) ((σ.2.2.1 20)) ((σ.1 11)) ((σ.1 12)) ((σ.1 13)) ((σ.1 14)) ((σ.1 15)) ((σ.1 16)) ((σ.2.1 0)) ((σ.2.2.1 21)) ((σ.2.2.1 22)) ((σ.2.2.1 23)) ((σ.2.2.1 24)) ((σ.2.2.1 25)) ((σ.2.2.1 26)) ((σ.2.2.1 27)) h_t_net_size h_t_bags_size h_t_law_size h_t_plan_size h_t_plan_knots h_t_plan_others h_t_plan_otherCount h_t_plan_feeders h_t_plan_feederCount h_t_plan_places h_t_plan_going_left h_t_tally_openStates h_t_tally_openCount h_t_tally_picks h_t_tally_strides) fun r hr => ?_
  obtain ⟨q1, q2, q3, q4, q7, q8, q9, q11, q22, q23, q24, q25, -⟩ := hr
  exact sat_some ⟨⟨h_t_net_size, h_t_order_size, h_t_order_knots, h_t_bags_size, h_t_law_size, h_t_going_left, q1, q2, q3, q4, q7, q8, q9, q11, q22, q23, q24, q25, h_t_search_rest_left, h_lf⟩, rfl, rfl, rfl, rfl, rfl, rfl, rfl, rfl, rfl⟩
set_option maxRecDepth 10000 in
theorem ms_choice (a1 : Int32) (a2 : Int32) (μ : MS) (h : SafeM μ) : Sat (sm_choice a1 a2 μ) (fun p => SafeM p.2 ∧ (p.2.1 0) = (μ.1 0) ∧ (p.2.2.2.1 0) = (μ.2.2.1 0) ∧ (p.2.2.2.1 1) = (μ.2.2.1 1) ∧ (p.2.2.2.1 2) = (μ.2.2.1 2) ∧ (p.2.1 3) = (μ.1 3) ∧ (p.2.2.2.1 7) = (μ.2.2.1 7) ∧ (p.2.2.2.1 8) = (μ.2.2.1 8) ∧ (p.2.2.2.1 10) = (μ.2.2.1 10) ∧ (p.2.2.2.1 9) = (μ.2.2.1 9)) := by
  obtain ⟨h_t_knots, h_t_rowed, h_t_bags, h_t_q, h_t_beside, h_t_row, h_t_bag, h_t_up, h_t_state, h_RW⟩ := h
  unfold sm_choice
  refine sat_cal (s_X9_choice a1 a2 ((μ.1 0)) ((μ.1 2)) ((μ.1 3)) ((μ.2.1 0)) ((μ.2.1 1)) ((μ.2.1 2)) ((μ.2.2.1 0)) ((μ.2.2.1 1)) ((μ.2.2.1 2)) ((μ.2.2.1 4)) ((μ.2.2.1 5)) ((μ.2.2.1 7)) ((μ.2.2.1 8)) ((μ.2.2.1 9)) ((μ.2.2.1 10)) ((μ.2.2.1 11)) ((μ.2.2.1 12)) ((μ.2.2.2 0)) ((μ.2.2.2 1)) ((μ.2.2.2 2)) h_t_knots h_t_bags h_t_q h_t_beside h_t_bag h_t_up h_t_state) fun r hr => ?_
  obtain ⟨q5, -⟩ := hr
  exact sat_some ⟨⟨h_t_knots, h_t_rowed, h_t_bags, h_t_q, h_t_beside, h_t_row, h_t_bag, h_t_up, q5, h_RW⟩, rfl, rfl, rfl, rfl, rfl, rfl, rfl, rfl, rfl⟩
set_option maxRecDepth 10000 in
theorem xs_drawn (a1 : Int64) (a3 : Int32) (σ : XS) (h : SafeX σ) : Sat (sx_drawn a1 a3 σ) (fun p => SafeX p.2 ∧ (p.2.1 0) = (σ.1 0) ∧ (p.2.2.2.1 0) = (σ.2.2.1 0) ∧ (p.2.2.2.1 1) = (σ.2.2.1 1) ∧ (p.2.2.2.1 2) = (σ.2.2.1 2) ∧ (p.2.1 5) = (σ.1 5) ∧ (p.2.2.2.1 6) = (σ.2.2.1 6) ∧ (p.2.2.2.1 7) = (σ.2.2.1 7) ∧ (p.2.2.2.1 8) = (σ.2.2.1 8) ∧ (p.2.2.2.1 9) = (σ.2.2.1 9)) := by
  obtain ⟨h_t_net_size, h_t_order_size, h_t_order_knots, h_t_bags_size, h_t_law_size, h_t_going_left, h_t_plan_size, h_t_plan_knots, h_t_plan_others, h_t_plan_otherCount, h_t_plan_feeders, h_t_plan_feederCount, h_t_plan_places, h_t_plan_going_left, h_t_tally_openStates, h_t_tally_openCount, h_t_tally_picks, h_t_tally_strides, h_t_search_rest_left, h_lf⟩ := h
  unfold sx_drawn
  refine sat_cal (s_X8_drawn a1 a3 ((σ.1 0)) ((σ.2.2.1 0)) ((σ.2.2.1 1)) ((σ.2.2.1 2)) ((σ.1 4)) ((σ.2.2.1 4)) ((σ.2.2.1 5)) ((σ.1 5)) ((σ.2.2.1 6)) ((σ.2.2.1 7)) ((σ.2.2.1 8)) ((σ.2.2.1 9)) ((σ.1 8)) ((σ.2.2.1 11)) ((σ.2.2.1 12)) ((σ.2.2.1 13)) ((σ.2.2.1 14)) ((σ.2.2.1 15)) ((σ.2.2.1 16)) ((σ.2.2.1 17)) ((σ.2.2.1 18)) ((σ.2.2.1 19)) ((σ.1 9)) ((σ.1 10)) ((σ.2.2.1 20)) ((σ.1 11)) ((σ.1 12)) ((σ.1 13)) ((σ.1 14)) ((σ.1 15)) ((σ.1 16)) ((σ.2.1 0)) ((σ.2.2.1 21)) ((σ.2.2.1 22)) ((σ.2.2.1 23)) ((σ.2.2.1 24)) ((σ.2.2.1 25)) ((σ.2.2.1 26)) ((σ.2.2.1 27)) h_t_net_size h_t_bags_size h_t_law_size h_t_plan_size h_t_plan_knots h_t_plan_others h_t_plan_otherCount h_t_plan_feeders h_t_plan_feederCount h_t_plan_places h_t_plan_going_left h_t_tally_openStates h_t_tally_openCount h_t_tally_picks h_t_tally_strides) fun r hr => ?_
  obtain ⟨q1, q2, q3, q4, q7, q8, q9, q11, q22, q23, q24, q25, -⟩ := hr
  exact sat_some ⟨⟨h_t_net_size, h_t_order_size, h_t_order_knots, h_t_bags_size, h_t_law_size, h_t_going_left, q1, q2, q3, q4, q7, q8, q9, q11, q22, q23, q24, q25, h_t_search_rest_left, h_lf⟩, rfl, rfl, rfl, rfl, rfl, rfl, rfl, rfl, rfl⟩
set_option maxRecDepth 10000 in
theorem ms_drawn (a1 : Int64) (a3 : Int32) (μ : MS) (h : SafeM μ) : Sat (sm_drawn a1 a3 μ) (fun p => SafeM p.2 ∧ (p.2.1 0) = (μ.1 0) ∧ (p.2.2.2.1 0) = (μ.2.2.1 0) ∧ (p.2.2.2.1 1) = (μ.2.2.1 1) ∧ (p.2.2.2.1 2) = (μ.2.2.1 2) ∧ (p.2.1 3) = (μ.1 3) ∧ (p.2.2.2.1 7) = (μ.2.2.1 7) ∧ (p.2.2.2.1 8) = (μ.2.2.1 8) ∧ (p.2.2.2.1 10) = (μ.2.2.1 10) ∧ (p.2.2.2.1 9) = (μ.2.2.1 9)) := by
  obtain ⟨h_t_knots, h_t_rowed, h_t_bags, h_t_q, h_t_beside, h_t_row, h_t_bag, h_t_up, h_t_state, h_RW⟩ := h
  unfold sm_drawn
  refine sat_cal (s_X9_drawn a1 a3 ((μ.1 0)) ((μ.1 2)) ((μ.1 3)) ((μ.2.1 0)) ((μ.2.1 1)) ((μ.2.1 2)) ((μ.2.2.1 0)) ((μ.2.2.1 1)) ((μ.2.2.1 2)) ((μ.2.2.1 4)) ((μ.2.2.1 5)) ((μ.2.2.1 7)) ((μ.2.2.1 8)) ((μ.2.2.1 9)) ((μ.2.2.1 10)) ((μ.2.2.1 11)) ((μ.2.2.1 12)) ((μ.2.2.2 0)) ((μ.2.2.2 1)) ((μ.2.2.2 2)) h_t_knots h_t_bags h_t_q h_t_beside h_t_bag h_t_up h_t_state) fun r hr => ?_
  obtain ⟨q5, -⟩ := hr
  exact sat_some ⟨⟨h_t_knots, h_t_rowed, h_t_bags, h_t_q, h_t_beside, h_t_row, h_t_bag, h_t_up, q5, h_RW⟩, rfl, rfl, rfl, rfl, rfl, rfl, rfl, rfl, rfl⟩
set_option maxRecDepth 10000 in
theorem xs_share (a1 : Int32) (a2 : Int32) (σ : XS) (h : SafeX σ) : Sat (sx_share a1 a2 σ) (fun p => SafeX p.2 ∧ (p.2.1 0) = (σ.1 0) ∧ (p.2.2.2.1 0) = (σ.2.2.1 0) ∧ (p.2.2.2.1 1) = (σ.2.2.1 1) ∧ (p.2.2.2.1 2) = (σ.2.2.1 2) ∧ (p.2.1 5) = (σ.1 5) ∧ (p.2.2.2.1 6) = (σ.2.2.1 6) ∧ (p.2.2.2.1 7) = (σ.2.2.1 7) ∧ (p.2.2.2.1 8) = (σ.2.2.1 8) ∧ (p.2.2.2.1 9) = (σ.2.2.1 9)) := by
  obtain ⟨h_t_net_size, h_t_order_size, h_t_order_knots, h_t_bags_size, h_t_law_size, h_t_going_left, h_t_plan_size, h_t_plan_knots, h_t_plan_others, h_t_plan_otherCount, h_t_plan_feeders, h_t_plan_feederCount, h_t_plan_places, h_t_plan_going_left, h_t_tally_openStates, h_t_tally_openCount, h_t_tally_picks, h_t_tally_strides, h_t_search_rest_left, h_lf⟩ := h
  unfold sx_share
  refine sat_cal (s_X8_share a1 a2 ((σ.1 0)) ((σ.2.2.1 0)) ((σ.2.2.1 1)) ((σ.2.2.1 2)) ((σ.1 4)) ((σ.2.2.1 4)) ((σ.2.2.1 5)) ((σ.1 5)) ((σ.2.2.1 6)) ((σ.2.2.1 7)) ((σ.2.2.1 8)) ((σ.2.2.1 9)) ((σ.1 8)) ((σ.2.2.1 11)) ((σ.2.2.1 12)) ((σ.2.2.1 13)) ((σ.2.2.1 14)) ((σ.2.2.1 15)) ((σ.2.2.1 16)) ((σ.2.2.1 17)) ((σ.2.2.1 18)) ((σ.2.2.1 19)) ((σ.1 9)) ((σ.1 10)) ((σ.2.2.1 20)) ((σ.1 11)) ((σ.1 12)) ((σ.1 13)) ((σ.1 14)) ((σ.1 15)) ((σ.2.2.1 21)) ((σ.2.2.1 22)) ((σ.2.2.1 23)) ((σ.2.2.1 24)) ((σ.2.2.1 25)) ((σ.2.2.1 26)) ((σ.2.2.1 27)) h_t_net_size h_t_bags_size h_t_law_size h_t_plan_size h_t_plan_knots h_t_plan_others h_t_plan_otherCount h_t_plan_feeders h_t_plan_feederCount h_t_plan_places h_t_plan_going_left h_t_tally_openStates h_t_tally_openCount h_t_tally_picks h_t_tally_strides) fun r hr => ?_
  obtain ⟨q1, q2, q3, q4, q7, q8, q9, q11, q20, q21, q22, q23, -⟩ := hr
  exact sat_some ⟨⟨h_t_net_size, h_t_order_size, h_t_order_knots, h_t_bags_size, h_t_law_size, h_t_going_left, q1, q2, q3, q4, q7, q8, q9, q11, q20, q21, q22, q23, h_t_search_rest_left, h_lf⟩, rfl, rfl, rfl, rfl, rfl, rfl, rfl, rfl, rfl⟩
set_option maxRecDepth 10000 in
theorem ms_share (a1 : Int32) (a2 : Int32) (μ : MS) (h : SafeM μ) : Sat (sm_share a1 a2 μ) (fun p => SafeM p.2 ∧ (p.2.1 0) = (μ.1 0) ∧ (p.2.2.2.1 0) = (μ.2.2.1 0) ∧ (p.2.2.2.1 1) = (μ.2.2.1 1) ∧ (p.2.2.2.1 2) = (μ.2.2.1 2) ∧ (p.2.1 3) = (μ.1 3) ∧ (p.2.2.2.1 7) = (μ.2.2.1 7) ∧ (p.2.2.2.1 8) = (μ.2.2.1 8) ∧ (p.2.2.2.1 10) = (μ.2.2.1 10) ∧ (p.2.2.2.1 9) = (μ.2.2.1 9)) := by
  obtain ⟨h_t_knots, h_t_rowed, h_t_bags, h_t_q, h_t_beside, h_t_row, h_t_bag, h_t_up, h_t_state, h_RW⟩ := h
  unfold sm_share
  refine sat_cal (s_X9_share a1 a2 ((μ.1 0)) ((μ.1 2)) ((μ.1 3)) ((μ.2.1 0)) ((μ.2.1 1)) ((μ.2.1 2)) ((μ.2.2.1 0)) ((μ.2.2.1 1)) ((μ.2.2.1 2)) ((μ.2.2.1 4)) ((μ.2.2.1 5)) ((μ.2.2.1 7)) ((μ.2.2.1 8)) ((μ.2.2.1 9)) ((μ.2.2.1 10)) ((μ.2.2.1 11)) ((μ.2.2.1 12)) ((μ.2.2.2 0)) ((μ.2.2.2 1)) ((μ.2.2.2 2)) h_t_knots h_t_bags h_t_q h_t_beside h_t_bag h_t_up h_t_state) fun r hr => ?_
  obtain ⟨q5, -⟩ := hr
  exact sat_some ⟨⟨h_t_knots, h_t_rowed, h_t_bags, h_t_q, h_t_beside, h_t_row, h_t_bag, h_t_up, q5, h_RW⟩, rfl, rfl, rfl, rfl, rfl, rfl, rfl, rfl, rfl⟩
set_option maxRecDepth 10000 in
theorem xs_count (a1 : Int32) (σ : XS) (h : SafeX σ) : Sat (sx_count a1 σ) (fun p => SafeX p.2 ∧ (p.2.1 0) = (σ.1 0) ∧ (p.2.2.2.1 0) = (σ.2.2.1 0) ∧ (p.2.2.2.1 1) = (σ.2.2.1 1) ∧ (p.2.2.2.1 2) = (σ.2.2.1 2) ∧ (p.2.1 5) = (σ.1 5) ∧ (p.2.2.2.1 6) = (σ.2.2.1 6) ∧ (p.2.2.2.1 7) = (σ.2.2.1 7) ∧ (p.2.2.2.1 8) = (σ.2.2.1 8) ∧ (p.2.2.2.1 9) = (σ.2.2.1 9)) := by
  obtain ⟨h_t_net_size, h_t_order_size, h_t_order_knots, h_t_bags_size, h_t_law_size, h_t_going_left, h_t_plan_size, h_t_plan_knots, h_t_plan_others, h_t_plan_otherCount, h_t_plan_feeders, h_t_plan_feederCount, h_t_plan_places, h_t_plan_going_left, h_t_tally_openStates, h_t_tally_openCount, h_t_tally_picks, h_t_tally_strides, h_t_search_rest_left, h_lf⟩ := h
  unfold sx_count
  refine sat_cal (s_X8_count a1 ((σ.1 0)) ((σ.1 1)) ((σ.2.2.1 1)) ((σ.1 2)) ((σ.1 4)) ((σ.2.2.1 4)) ((σ.2.2.1 5)) ((σ.1 5)) h_t_net_size h_t_order_size h_t_bags_size h_t_law_size) fun r hr => ?_
  exact sat_some ⟨⟨h_t_net_size, h_t_order_size, h_t_order_knots, h_t_bags_size, h_t_law_size, h_t_going_left, h_t_plan_size, h_t_plan_knots, h_t_plan_others, h_t_plan_otherCount, h_t_plan_feeders, h_t_plan_feederCount, h_t_plan_places, h_t_plan_going_left, h_t_tally_openStates, h_t_tally_openCount, h_t_tally_picks, h_t_tally_strides, h_t_search_rest_left, h_lf⟩, rfl, rfl, rfl, rfl, rfl, rfl, rfl, rfl, rfl⟩
set_option maxRecDepth 10000 in
theorem ms_count (a1 : Int32) (μ : MS) (h : SafeM μ) : Sat (sm_count a1 μ) (fun p => SafeM p.2 ∧ (p.2.1 0) = (μ.1 0) ∧ (p.2.2.2.1 0) = (μ.2.2.1 0) ∧ (p.2.2.2.1 1) = (μ.2.2.1 1) ∧ (p.2.2.2.1 2) = (μ.2.2.1 2) ∧ (p.2.1 3) = (μ.1 3) ∧ (p.2.2.2.1 7) = (μ.2.2.1 7) ∧ (p.2.2.2.1 8) = (μ.2.2.1 8) ∧ (p.2.2.2.1 10) = (μ.2.2.1 10) ∧ (p.2.2.2.1 9) = (μ.2.2.1 9)) := by
  obtain ⟨h_t_knots, h_t_rowed, h_t_bags, h_t_q, h_t_beside, h_t_row, h_t_bag, h_t_up, h_t_state, h_RW⟩ := h
  unfold sm_count
  refine sat_cal (s_X9_count a1 ((μ.1 0)) ((μ.1 1)) ((μ.1 2)) ((μ.1 3)) ((μ.2.2.1 1)) ((μ.2.2.1 4)) ((μ.2.2.1 5)) h_t_knots h_t_rowed h_t_bags h_t_q h_t_beside h_t_bag h_t_up) fun r hr => ?_
  exact sat_some ⟨⟨h_t_knots, h_t_rowed, h_t_bags, h_t_q, h_t_beside, h_t_row, h_t_bag, h_t_up, h_t_state, h_RW⟩, rfl, rfl, rfl, rfl, rfl, rfl, rfl, rfl, rfl⟩
