def Tie (σ : XS) (μ : MS) : Prop := (σ.1 0) = (μ.1 0) ∧ (σ.2.2.1 0) = (μ.2.2.1 0) ∧ (σ.2.2.1 1) = (μ.2.2.1 1) ∧ (σ.2.2.1 2) = (μ.2.2.1 2) ∧ (σ.1 5) = (μ.1 3) ∧ (σ.2.2.1 6) = (μ.2.2.1 7) ∧ (σ.2.2.1 7) = (μ.2.2.1 8) ∧ (σ.2.2.1 8) = (μ.2.2.1 10) ∧ (σ.2.2.1 9) = (μ.2.2.1 9) ∧ ∀ i : Nat, ((σ.1 0)).toInt ≤ (i : Int) → (σ.2.2.1 1) i = 0
def I2 (_ : Nat) (σ : XS) (μ : MS) : Prop := SafeX σ ∧ SafeM μ ∧ Tie σ μ
set_option maxRecDepth 10000 in
theorem ok2_0 (j : Nat) : Ok_0 I2 j := by
  intro a1 σ μ hI
  obtain ⟨hX, hM, t0, t1, t2, t3, t4, t5, t6, t7, t8, tz⟩ := hI
  have hX2 := hX
  unfold SafeX at hX2
  obtain ⟨h_t_net_size, h_t_order_size, h_t_order_knots, h_t_bags_size, h_t_law_size, h_t_going_left, h_t_plan_size, h_t_plan_knots, h_t_plan_others, h_t_plan_otherCount, h_t_plan_feeders, h_t_plan_feederCount, h_t_plan_places, h_t_plan_going_left, h_t_tally_openStates, h_t_tally_openCount, h_t_tally_picks, h_t_tally_strides, h_t_search_rest_left, h_lf⟩ := hX2
  obtain ⟨r, ⟨m1, m2, m3, m4, m5, m6⟩, hr, hm, hle, e1, e2, e3, e4⟩ := knot_rel a1 ((σ.1 0)) ((σ.1 2)) ((σ.1 3)) ((σ.1 4)) ((μ.1 1)) ((μ.1 2)) ((σ.2.2.1 0)) ((σ.2.2.1 1)) h_t_net_size tz
  dsimp only at e1 e2 e3 e4
  subst e1 e2 e3 e4
  rw [t0, t1, t2] at hm
  obtain ⟨⟨v, σ2⟩, hx, hX3, -⟩ := xs_knot a1 σ hX
  obtain ⟨⟨w, μ2⟩, hy, hM3, -⟩ := ms_knot a1 μ hM
  have hx0 := hx
  have hy0 := hy
  unfold sx_knot at hx
  rw [cal_e hr] at hx
  cases hx
  unfold sm_knot at hy
  rw [cal_e hm] at hy
  cases hy
  exact ⟨_, _, _, _, hx0, hy0, (by first | exact True.intro | exact rfl), hX3, hM3, rfl, rfl, t2, t3, t4, t5, t6, t7, t8, fun i hi => tz i (Int.le_trans hle hi)⟩
set_option maxRecDepth 10000 in
theorem ok2_1 (j : Nat) : Ok_1 I2 j := by
  intro a1 a2 a3 σ μ hI
  obtain ⟨hX, hM, t0, t1, t2, t3, t4, t5, t6, t7, t8, tz⟩ := hI
  have hX2 := hX
  unfold SafeX at hX2
  obtain ⟨h_t_net_size, h_t_order_size, h_t_order_knots, h_t_bags_size, h_t_law_size, h_t_going_left, h_t_plan_size, h_t_plan_knots, h_t_plan_others, h_t_plan_otherCount, h_t_plan_feeders, h_t_plan_feederCount, h_t_plan_places, h_t_plan_going_left, h_t_tally_openStates, h_t_tally_openCount, h_t_tally_picks, h_t_tally_strides, h_t_search_rest_left, h_lf⟩ := hX2
  obtain ⟨r, m, hr, hm, e, hz⟩ := edge_rel a1 a2 a3 ((σ.1 0)) ((σ.1 1)) ((σ.2.2.1 1)) ((σ.2.2.1 2)) h_t_net_size
  subst e
  rw [t0, t2, t3] at hm
  obtain ⟨⟨v, σ2⟩, hx, hX3, -⟩ := xs_edge a1 a2 a3 σ hX
  obtain ⟨⟨w, μ2⟩, hy, hM3, -⟩ := ms_edge a1 a2 a3 μ hM
  have hx0 := hx
  have hy0 := hy
  unfold sx_edge at hx
  rw [cal_e hr] at hx
  cases hx
  unfold sm_edge at hy
  rw [cal_e hm] at hy
  cases hy
  exact ⟨_, _, _, _, hx0, hy0, (by first | exact True.intro | exact rfl), hX3, hM3, t0, t1, rfl, rfl, t4, t5, t6, t7, t8, fun i hi => (hz i hi).trans (tz i hi)⟩
set_option maxRecDepth 10000 in
theorem ok2_2 (j : Nat) : Ok_2 I2 j := by
  intro a1 a2 σ μ hI
  obtain ⟨hX, hM, t0, t1, t2, t3, t4, t5, t6, t7, t8, tz⟩ := hI
  have hX2 := hX
  unfold SafeX at hX2
  obtain ⟨h_t_net_size, h_t_order_size, h_t_order_knots, h_t_bags_size, h_t_law_size, h_t_going_left, h_t_plan_size, h_t_plan_knots, h_t_plan_others, h_t_plan_otherCount, h_t_plan_feeders, h_t_plan_feederCount, h_t_plan_places, h_t_plan_going_left, h_t_tally_openStates, h_t_tally_openCount, h_t_tally_picks, h_t_tally_strides, h_t_search_rest_left, h_lf⟩ := hX2
  obtain ⟨r, m, hr, hm, e, hz⟩ := cut_rel a1 a2 ((σ.1 0)) ((σ.1 1)) ((σ.2.2.1 1)) ((σ.2.2.1 2)) h_t_net_size
  subst e
  rw [t0, t2, t3] at hm
  obtain ⟨⟨v, σ2⟩, hx, hX3, -⟩ := xs_cut a1 a2 σ hX
  obtain ⟨⟨w, μ2⟩, hy, hM3, -⟩ := ms_cut a1 a2 μ hM
  have hx0 := hx
  have hy0 := hy
  unfold sx_cut at hx
  rw [cal_e hr] at hx
  cases hx
  unfold sm_cut at hy
  rw [cal_e hm] at hy
  cases hy
  exact ⟨_, _, _, _, hx0, hy0, (by first | exact True.intro | exact rfl), hX3, hM3, t0, t1, rfl, t3, t4, t5, t6, t7, t8, fun i hi => (hz i hi).trans (tz i hi)⟩
set_option maxRecDepth 10000 in
theorem ok2_3 (j : Nat) : Ok_3 I2 j := by
  intro a1 a2 σ μ hI
  obtain ⟨hX, hM, t0, t1, t2, t3, t4, t5, t6, t7, t8, tz⟩ := hI
  have hX2 := hX
  unfold SafeX at hX2
  obtain ⟨h_t_net_size, h_t_order_size, h_t_order_knots, h_t_bags_size, h_t_law_size, h_t_going_left, h_t_plan_size, h_t_plan_knots, h_t_plan_others, h_t_plan_otherCount, h_t_plan_feeders, h_t_plan_feederCount, h_t_plan_places, h_t_plan_going_left, h_t_tally_openStates, h_t_tally_openCount, h_t_tally_picks, h_t_tally_strides, h_t_search_rest_left, h_lf⟩ := hX2
  obtain ⟨r, hr, -⟩ := s_X8_weigh a1 a2 ((σ.1 0)) ((σ.2.2.1 0)) h_t_net_size
  have hm := hr
  rw [t0, t1] at hm
  rw [← weigh_eq] at hm
  obtain ⟨⟨v, σ2⟩, hx, hX3, -⟩ := xs_weigh a1 a2 σ hX
  obtain ⟨⟨w, μ2⟩, hy, hM3, -⟩ := ms_weigh a1 a2 μ hM
  have hx0 := hx
  have hy0 := hy
  unfold sx_weigh at hx
  rw [cal_e hr] at hx
  cases hx
  unfold sm_weigh at hy
  rw [cal_e hm] at hy
  cases hy
  exact ⟨_, _, _, _, hx0, hy0, (by first | exact True.intro | exact rfl), hX3, hM3, t0, rfl, t2, t3, t4, t5, t6, t7, t8, tz⟩
set_option maxRecDepth 10000 in
theorem ok2_4 (j : Nat) : Ok_4 I2 j := by
  intro a1 a2 σ μ hI
  obtain ⟨hX, hM, t0, t1, t2, t3, t4, t5, t6, t7, t8, tz⟩ := hI
  have hX2 := hX
  unfold SafeX at hX2
  obtain ⟨h_t_net_size, h_t_order_size, h_t_order_knots, h_t_bags_size, h_t_law_size, h_t_going_left, h_t_plan_size, h_t_plan_knots, h_t_plan_others, h_t_plan_otherCount, h_t_plan_feeders, h_t_plan_feederCount, h_t_plan_places, h_t_plan_going_left, h_t_tally_openStates, h_t_tally_openCount, h_t_tally_picks, h_t_tally_strides, h_t_search_rest_left, h_lf⟩ := hX2
  obtain ⟨r, hr, -⟩ := s_X8_weight a1 a2 ((σ.1 0)) ((σ.2.2.1 0)) ((σ.2.2.1 1)) ((σ.2.2.1 2)) h_t_net_size
  have hm := hr
  rw [t0, t1, t2, t3] at hm
  rw [← weight_eq] at hm
  obtain ⟨⟨v, σ2⟩, hx, hX3, -⟩ := xs_weight a1 a2 σ hX
  obtain ⟨⟨w, μ2⟩, hy, hM3, -⟩ := ms_weight a1 a2 μ hM
  have hx0 := hx
  have hy0 := hy
  unfold sx_weight at hx
  rw [cal_e hr] at hx
  cases hx
  unfold sm_weight at hy
  rw [cal_e hm] at hy
  cases hy
  exact ⟨_, _, _, _, hx0, hy0, (by first | exact True.intro | exact rfl), hX3, hM3, t0, t1, t2, t3, t4, t5, t6, t7, t8, tz⟩
set_option maxRecDepth 10000 in
theorem ok2_5 (j : Nat) : Ok_5 I2 j := by
  intro a1 σ μ hI
  obtain ⟨hX, hM, t0, t1, t2, t3, t4, t5, t6, t7, t8, tz⟩ := hI
  have hX2 := hX
  unfold SafeX at hX2
  obtain ⟨h_t_net_size, h_t_order_size, h_t_order_knots, h_t_bags_size, h_t_law_size, h_t_going_left, h_t_plan_size, h_t_plan_knots, h_t_plan_others, h_t_plan_otherCount, h_t_plan_feeders, h_t_plan_feederCount, h_t_plan_places, h_t_plan_going_left, h_t_tally_openStates, h_t_tally_openCount, h_t_tally_picks, h_t_tally_strides, h_t_search_rest_left, h_lf⟩ := hX2
  obtain ⟨r, hr, -⟩ := s_X8_beside a1 ((σ.1 0)) ((σ.2.2.1 1)) h_t_net_size
  have hm := hr
  rw [t0, t2] at hm
  rw [← beside_eq] at hm
  obtain ⟨⟨v, σ2⟩, hx, hX3, -⟩ := xs_beside a1 σ hX
  obtain ⟨⟨w, μ2⟩, hy, hM3, -⟩ := ms_beside a1 μ hM
  have hx0 := hx
  have hy0 := hy
  unfold sx_beside at hx
  rw [cal_e hr] at hx
  cases hx
  unfold sm_beside at hy
  rw [cal_e hm] at hy
  cases hy
  exact ⟨_, _, _, _, hx0, hy0, (by first | exact True.intro | exact rfl), hX3, hM3, t0, t1, t2, t3, t4, t5, t6, t7, t8, tz⟩
set_option maxRecDepth 10000 in
theorem ok2_6 (j : Nat) : Ok_6 I2 j := by
  intro a1 σ μ hI
  obtain ⟨hX, hM, t0, t1, t2, t3, t4, t5, t6, t7, t8, tz⟩ := hI
  obtain ⟨⟨v, σ2⟩, hx, hX2, k0, k1, k2, k3, k4, k5, k6, k7, k8⟩ := xs_put a1 σ hX
  obtain ⟨⟨w, μ2⟩, hm, hM2, l0, l1, l2, l3, l4, l5, l6, l7, l8⟩ := ms_put a1 μ hM
  exact ⟨v, σ2, w, μ2, hx, hm, trivial, hX2, hM2, k0.trans (t0.trans l0.symm), k1.trans (t1.trans l1.symm), k2.trans (t2.trans l2.symm), k3.trans (t3.trans l3.symm), k4.trans (t4.trans l4.symm), k5.trans (t5.trans l5.symm), k6.trans (t6.trans l6.symm), k7.trans (t7.trans l7.symm), k8.trans (t8.trans l8.symm), fun i hi => (congrFun k2 i).trans (tz i (by rw [← k0]; exact hi))⟩
set_option maxRecDepth 10000 in
theorem ok2_7 (j : Nat) : Ok_7 I2 j := by
  intro  σ μ hI
  obtain ⟨hX, hM, t0, t1, t2, t3, t4, t5, t6, t7, t8, tz⟩ := hI
  obtain ⟨⟨v, σ2⟩, hx, hX2, k0, k1, k2, k3, k4, k5, k6, k7, k8⟩ := xs_wipe  σ hX
  obtain ⟨⟨w, μ2⟩, hm, hM2, l0, l1, l2, l3, l4, l5, l6, l7, l8⟩ := ms_wipe  μ hM
  exact ⟨v, σ2, w, μ2, hx, hm, trivial, hX2, hM2, k0.trans (t0.trans l0.symm), k1.trans (t1.trans l1.symm), k2.trans (t2.trans l2.symm), k3.trans (t3.trans l3.symm), k4.trans (t4.trans l4.symm), k5.trans (t5.trans l5.symm), k6.trans (t6.trans l6.symm), k7.trans (t7.trans l7.symm), k8.trans (t8.trans l8.symm), fun i hi => (congrFun k2 i).trans (tz i (by rw [← k0]; exact hi))⟩
set_option maxRecDepth 10000 in
theorem ok2_8 (j : Nat) : Ok_8 I2 j := by
  intro  σ μ hI
  obtain ⟨hX, hM, t0, t1, t2, t3, t4, t5, t6, t7, t8, tz⟩ := hI
  obtain ⟨⟨v, σ2⟩, hx, hX2, k0, k1, k2, k3, k4, k5, k6, k7, k8⟩ := xs_make  σ hX
  obtain ⟨⟨w, μ2⟩, hm, hM2, l0, l1, l2, l3, l4, l5, l6, l7, l8⟩ := ms_make  μ hM
  exact ⟨v, σ2, w, μ2, hx, hm, trivial, hX2, hM2, k0.trans (t0.trans l0.symm), k1.trans (t1.trans l1.symm), k2.trans (t2.trans l2.symm), k3.trans (t3.trans l3.symm), k4.trans (t4.trans l4.symm), k5.trans (t5.trans l5.symm), k6.trans (t6.trans l6.symm), k7.trans (t7.trans l7.symm), k8.trans (t8.trans l8.symm), fun i hi => (congrFun k2 i).trans (tz i (by rw [← k0]; exact hi))⟩
set_option maxRecDepth 10000 in
theorem ok2_9 (j : Nat) : Ok_9 I2 j := by
  intro  σ μ hI
  obtain ⟨hX, hM, t0, t1, t2, t3, t4, t5, t6, t7, t8, tz⟩ := hI
  obtain ⟨⟨v, σ2⟩, hx, hX2, k0, k1, k2, k3, k4, k5, k6, k7, k8⟩ := xs_fills  σ hX
  obtain ⟨⟨w, μ2⟩, hm, hM2, l0, l1, l2, l3, l4, l5, l6, l7, l8⟩ := ms_fills  μ hM
  exact ⟨v, σ2, w, μ2, hx, hm, trivial, hX2, hM2, k0.trans (t0.trans l0.symm), k1.trans (t1.trans l1.symm), k2.trans (t2.trans l2.symm), k3.trans (t3.trans l3.symm), k4.trans (t4.trans l4.symm), k5.trans (t5.trans l5.symm), k6.trans (t6.trans l6.symm), k7.trans (t7.trans l7.symm), k8.trans (t8.trans l8.symm), fun i hi => (congrFun k2 i).trans (tz i (by rw [← k0]; exact hi))⟩
set_option maxRecDepth 10000 in
theorem ok2_10 (j : Nat) : Ok_10 I2 j := by
  intro  σ μ hI
  obtain ⟨hX, hM, t0, t1, t2, t3, t4, t5, t6, t7, t8, tz⟩ := hI
  obtain ⟨⟨v, σ2⟩, hx, hX2, k0, k1, k2, k3, k4, k5, k6, k7, k8⟩ := xs_fewest  σ hX
  obtain ⟨⟨w, μ2⟩, hm, hM2, l0, l1, l2, l3, l4, l5, l6, l7, l8⟩ := ms_fewest  μ hM
  exact ⟨v, σ2, w, μ2, hx, hm, trivial, hX2, hM2, k0.trans (t0.trans l0.symm), k1.trans (t1.trans l1.symm), k2.trans (t2.trans l2.symm), k3.trans (t3.trans l3.symm), k4.trans (t4.trans l4.symm), k5.trans (t5.trans l5.symm), k6.trans (t6.trans l6.symm), k7.trans (t7.trans l7.symm), k8.trans (t8.trans l8.symm), fun i hi => (congrFun k2 i).trans (tz i (by rw [← k0]; exact hi))⟩
set_option maxRecDepth 10000 in
theorem ok2_11 (j : Nat) : Ok_11 I2 j := by
  intro  σ μ hI
  obtain ⟨hX, hM, t0, t1, t2, t3, t4, t5, t6, t7, t8, tz⟩ := hI
  obtain ⟨⟨v, σ2⟩, hx, hX2, k0, k1, k2, k3, k4, k5, k6, k7, k8⟩ := xs_least  σ hX
  obtain ⟨⟨w, μ2⟩, hm, hM2, l0, l1, l2, l3, l4, l5, l6, l7, l8⟩ := ms_least  μ hM
  exact ⟨v, σ2, w, μ2, hx, hm, trivial, hX2, hM2, k0.trans (t0.trans l0.symm), k1.trans (t1.trans l1.symm), k2.trans (t2.trans l2.symm), k3.trans (t3.trans l3.symm), k4.trans (t4.trans l4.symm), k5.trans (t5.trans l5.symm), k6.trans (t6.trans l6.symm), k7.trans (t7.trans l7.symm), k8.trans (t8.trans l8.symm), fun i hi => (congrFun k2 i).trans (tz i (by rw [← k0]; exact hi))⟩
set_option maxRecDepth 10000 in
theorem ok2_12 (j : Nat) : Ok_12 I2 j := by
  intro a1 σ μ hI
  obtain ⟨hX, hM, t0, t1, t2, t3, t4, t5, t6, t7, t8, tz⟩ := hI
  obtain ⟨⟨v, σ2⟩, hx, hX2, k0, k1, k2, k3, k4, k5, k6, k7, k8⟩ := xs_row a1 σ hX
  obtain ⟨⟨w, μ2⟩, hm, hM2, l0, l1, l2, l3, l4, l5, l6, l7, l8⟩ := ms_row a1 μ hM
  exact ⟨v, σ2, w, μ2, hx, hm, trivial, hX2, hM2, k0.trans (t0.trans l0.symm), k1.trans (t1.trans l1.symm), k2.trans (t2.trans l2.symm), k3.trans (t3.trans l3.symm), k4.trans (t4.trans l4.symm), k5.trans (t5.trans l5.symm), k6.trans (t6.trans l6.symm), k7.trans (t7.trans l7.symm), k8.trans (t8.trans l8.symm), fun i hi => (congrFun k2 i).trans (tz i (by rw [← k0]; exact hi))⟩
set_option maxRecDepth 10000 in
theorem ok2_13 (j : Nat) : Ok_13 I2 j := by
  intro  σ μ hI
  obtain ⟨hX, hM, t0, t1, t2, t3, t4, t5, t6, t7, t8, tz⟩ := hI
  obtain ⟨⟨v, σ2⟩, hx, hX2, k0, k1, k2, k3, k4, k5, k6, k7, k8⟩ := xs_below  σ hX
  obtain ⟨⟨w, μ2⟩, hm, hM2, l0, l1, l2, l3, l4, l5, l6, l7, l8⟩ := ms_below  μ hM
  exact ⟨v, σ2, w, μ2, hx, hm, trivial, hX2, hM2, k0.trans (t0.trans l0.symm), k1.trans (t1.trans l1.symm), k2.trans (t2.trans l2.symm), k3.trans (t3.trans l3.symm), k4.trans (t4.trans l4.symm), k5.trans (t5.trans l5.symm), k6.trans (t6.trans l6.symm), k7.trans (t7.trans l7.symm), k8.trans (t8.trans l8.symm), fun i hi => (congrFun k2 i).trans (tz i (by rw [← k0]; exact hi))⟩
set_option maxRecDepth 10000 in
theorem ok2_14 (j : Nat) : Ok_14 I2 j := by
  intro  σ μ hI
  obtain ⟨hX, hM, t0, t1, t2, t3, t4, t5, t6, t7, t8, tz⟩ := hI
  obtain ⟨⟨v, σ2⟩, hx, hX2, k0, k1, k2, k3, k4, k5, k6, k7, k8⟩ := xs_clear  σ hX
  obtain ⟨⟨w, μ2⟩, hm, hM2, l0, l1, l2, l3, l4, l5, l6, l7, l8⟩ := ms_clear  μ hM
  exact ⟨v, σ2, w, μ2, hx, hm, trivial, hX2, hM2, k0.trans (t0.trans l0.symm), k1.trans (t1.trans l1.symm), k2.trans (t2.trans l2.symm), k3.trans (t3.trans l3.symm), k4.trans (t4.trans l4.symm), k5.trans (t5.trans l5.symm), k6.trans (t6.trans l6.symm), k7.trans (t7.trans l7.symm), k8.trans (t8.trans l8.symm), fun i hi => (congrFun k2 i).trans (tz i (by rw [← k0]; exact hi))⟩
set_option maxRecDepth 10000 in
theorem ok2_15 (j : Nat) : Ok_15 I2 j := by
  intro a1 σ μ hI
  obtain ⟨hX, hM, t0, t1, t2, t3, t4, t5, t6, t7, t8, tz⟩ := hI
  obtain ⟨⟨v, σ2⟩, hx, hX2, k0, k1, k2, k3, k4, k5, k6, k7, k8⟩ := xs_bag a1 σ hX
  obtain ⟨⟨w, μ2⟩, hm, hM2, l0, l1, l2, l3, l4, l5, l6, l7, l8⟩ := ms_bag a1 μ hM
  exact ⟨v, σ2, w, μ2, hx, hm, trivial, hX2, hM2, k0.trans (t0.trans l0.symm), k1.trans (t1.trans l1.symm), k2.trans (t2.trans l2.symm), k3.trans (t3.trans l3.symm), k4.trans (t4.trans l4.symm), k5.trans (t5.trans l5.symm), k6.trans (t6.trans l6.symm), k7.trans (t7.trans l7.symm), k8.trans (t8.trans l8.symm), fun i hi => (congrFun k2 i).trans (tz i (by rw [← k0]; exact hi))⟩
set_option maxRecDepth 10000 in
theorem ok2_16 (j : Nat) : Ok_16 I2 j := by
  intro a1 a2 σ μ hI
  obtain ⟨hX, hM, t0, t1, t2, t3, t4, t5, t6, t7, t8, tz⟩ := hI
  obtain ⟨⟨v, σ2⟩, hx, hX2, k0, k1, k2, k3, k4, k5, k6, k7, k8⟩ := xs_hang a1 a2 σ hX
  obtain ⟨⟨w, μ2⟩, hm, hM2, l0, l1, l2, l3, l4, l5, l6, l7, l8⟩ := ms_hang a1 a2 μ hM
  exact ⟨v, σ2, w, μ2, hx, hm, trivial, hX2, hM2, k0.trans (t0.trans l0.symm), k1.trans (t1.trans l1.symm), k2.trans (t2.trans l2.symm), k3.trans (t3.trans l3.symm), k4.trans (t4.trans l4.symm), k5.trans (t5.trans l5.symm), k6.trans (t6.trans l6.symm), k7.trans (t7.trans l7.symm), k8.trans (t8.trans l8.symm), fun i hi => (congrFun k2 i).trans (tz i (by rw [← k0]; exact hi))⟩
set_option maxRecDepth 10000 in
theorem ok2_17 (j : Nat) : Ok_17 I2 j := by
  intro a1 a2 σ μ hI
  obtain ⟨hX, hM, t0, t1, t2, t3, t4, t5, t6, t7, t8, tz⟩ := hI
  obtain ⟨⟨v, σ2⟩, hx, hX2, k0, k1, k2, k3, k4, k5, k6, k7, k8⟩ := xs_bagged a1 a2 σ hX
  obtain ⟨⟨w, μ2⟩, hm, hM2, l0, l1, l2, l3, l4, l5, l6, l7, l8⟩ := ms_bagged a1 a2 μ hM
  exact ⟨v, σ2, w, μ2, hx, hm, trivial, hX2, hM2, k0.trans (t0.trans l0.symm), k1.trans (t1.trans l1.symm), k2.trans (t2.trans l2.symm), k3.trans (t3.trans l3.symm), k4.trans (t4.trans l4.symm), k5.trans (t5.trans l5.symm), k6.trans (t6.trans l6.symm), k7.trans (t7.trans l7.symm), k8.trans (t8.trans l8.symm), fun i hi => (congrFun k2 i).trans (tz i (by rw [← k0]; exact hi))⟩
set_option maxRecDepth 10000 in
theorem ok2_18 (j : Nat) : Ok_18 I2 j := by
  intro  σ μ hI
  obtain ⟨hX, hM, t0, t1, t2, t3, t4, t5, t6, t7, t8, tz⟩ := hI
  obtain ⟨⟨v, σ2⟩, hx, hX2, k0, k1, k2, k3, k4, k5, k6, k7, k8⟩ := xs_sound  σ hX
  obtain ⟨⟨w, μ2⟩, hm, hM2, l0, l1, l2, l3, l4, l5, l6, l7, l8⟩ := ms_sound  μ hM
  exact ⟨v, σ2, w, μ2, hx, hm, trivial, hX2, hM2, k0.trans (t0.trans l0.symm), k1.trans (t1.trans l1.symm), k2.trans (t2.trans l2.symm), k3.trans (t3.trans l3.symm), k4.trans (t4.trans l4.symm), k5.trans (t5.trans l5.symm), k6.trans (t6.trans l6.symm), k7.trans (t7.trans l7.symm), k8.trans (t8.trans l8.symm), fun i hi => (congrFun k2 i).trans (tz i (by rw [← k0]; exact hi))⟩
set_option maxRecDepth 10000 in
theorem ok2_19 (j : Nat) : Ok_19 I2 j := by
  intro  σ μ hI
  obtain ⟨hX, hM, t0, t1, t2, t3, t4, t5, t6, t7, t8, tz⟩ := hI
  obtain ⟨⟨v, σ2⟩, hx, hX2, k0, k1, k2, k3, k4, k5, k6, k7, k8⟩ := xs_width  σ hX
  obtain ⟨⟨w, μ2⟩, hm, hM2, l0, l1, l2, l3, l4, l5, l6, l7, l8⟩ := ms_width  μ hM
  exact ⟨v, σ2, w, μ2, hx, hm, trivial, hX2, hM2, k0.trans (t0.trans l0.symm), k1.trans (t1.trans l1.symm), k2.trans (t2.trans l2.symm), k3.trans (t3.trans l3.symm), k4.trans (t4.trans l4.symm), k5.trans (t5.trans l5.symm), k6.trans (t6.trans l6.symm), k7.trans (t7.trans l7.symm), k8.trans (t8.trans l8.symm), fun i hi => (congrFun k2 i).trans (tz i (by rw [← k0]; exact hi))⟩
set_option maxRecDepth 10000 in
theorem ok2_20 (j : Nat) : Ok_20 I2 j := by
  intro  σ μ hI
  obtain ⟨hX, hM, t0, t1, t2, t3, t4, t5, t6, t7, t8, tz⟩ := hI
  obtain ⟨⟨v, σ2⟩, hx, hX2, k0, k1, k2, k3, k4, k5, k6, k7, k8⟩ := xs_separator  σ hX
  obtain ⟨⟨w, μ2⟩, hm, hM2, l0, l1, l2, l3, l4, l5, l6, l7, l8⟩ := ms_separator  μ hM
  exact ⟨v, σ2, w, μ2, hx, hm, trivial, hX2, hM2, k0.trans (t0.trans l0.symm), k1.trans (t1.trans l1.symm), k2.trans (t2.trans l2.symm), k3.trans (t3.trans l3.symm), k4.trans (t4.trans l4.symm), k5.trans (t5.trans l5.symm), k6.trans (t6.trans l6.symm), k7.trans (t7.trans l7.symm), k8.trans (t8.trans l8.symm), fun i hi => (congrFun k2 i).trans (tz i (by rw [← k0]; exact hi))⟩
set_option maxRecDepth 10000 in
theorem ok2_21 (j : Nat) : Ok_21 I2 j := by
  intro a1 σ μ hI
  obtain ⟨hX, hM, t0, t1, t2, t3, t4, t5, t6, t7, t8, tz⟩ := hI
  have hX2 := hX
  unfold SafeX at hX2
  obtain ⟨h_t_net_size, h_t_order_size, h_t_order_knots, h_t_bags_size, h_t_law_size, h_t_going_left, h_t_plan_size, h_t_plan_knots, h_t_plan_others, h_t_plan_otherCount, h_t_plan_feeders, h_t_plan_feederCount, h_t_plan_places, h_t_plan_going_left, h_t_tally_openStates, h_t_tally_openCount, h_t_tally_picks, h_t_tally_strides, h_t_search_rest_left, h_lf⟩ := hX2
  obtain ⟨r, hr, -⟩ := s_X8_states a1 ((σ.1 5)) ((σ.2.2.1 6)) ((σ.2.2.1 7)) ((σ.2.2.1 8)) ((σ.2.2.1 9)) h_t_law_size
  have hm := states_rel a1 ((σ.1 5)) ((σ.2.2.1 6)) ((σ.2.2.1 7)) ((σ.2.2.1 8)) ((σ.2.2.1 9))
  rw [hr, t4, t5, t6, t7, t8] at hm
  obtain ⟨⟨v, σ2⟩, hx, hX3, -⟩ := xs_states a1 σ hX
  obtain ⟨⟨w, μ2⟩, hy, hM3, -⟩ := ms_states a1 μ hM
  have hx0 := hx
  have hy0 := hy
  unfold sx_states at hx
  rw [cal_e hr] at hx
  cases hx
  unfold sm_states at hy
  rw [cal_e hm] at hy
  cases hy
  exact ⟨_, _, _, _, hx0, hy0, (by first | exact True.intro | exact rfl), hX3, hM3, t0, t1, t2, t3, rfl, rfl, rfl, rfl, rfl, tz⟩
set_option maxRecDepth 10000 in
theorem ok2_22 (j : Nat) : Ok_22 I2 j := by
  intro a1 a2 σ μ hI
  obtain ⟨hX, hM, t0, t1, t2, t3, t4, t5, t6, t7, t8, tz⟩ := hI
  have hX2 := hX
  unfold SafeX at hX2
  obtain ⟨h_t_net_size, h_t_order_size, h_t_order_knots, h_t_bags_size, h_t_law_size, h_t_going_left, h_t_plan_size, h_t_plan_knots, h_t_plan_others, h_t_plan_otherCount, h_t_plan_feeders, h_t_plan_feederCount, h_t_plan_places, h_t_plan_going_left, h_t_tally_openStates, h_t_tally_openCount, h_t_tally_picks, h_t_tally_strides, h_t_search_rest_left, h_lf⟩ := hX2
  obtain ⟨r, hr, -⟩ := s_X8_factor a1 a2 ((σ.1 5)) ((σ.2.2.1 6)) h_t_law_size
  have hm := hr
  rw [t4, t5] at hm
  rw [← factor_eq] at hm
  obtain ⟨⟨v, σ2⟩, hx, hX3, -⟩ := xs_factor a1 a2 σ hX
  obtain ⟨⟨w, μ2⟩, hy, hM3, -⟩ := ms_factor a1 a2 μ hM
  have hx0 := hx
  have hy0 := hy
  unfold sx_factor at hx
  rw [cal_e hr] at hx
  cases hx
  unfold sm_factor at hy
  rw [cal_e hm] at hy
  cases hy
  exact ⟨_, _, _, _, hx0, hy0, (by first | exact True.intro | exact rfl), hX3, hM3, t0, t1, t2, t3, t4, rfl, t6, t7, t8, tz⟩
set_option maxRecDepth 10000 in
theorem ok2_23 (j : Nat) : Ok_23 I2 j := by
  intro a1 a2 a3 a4 σ μ hI
  obtain ⟨hX, hM, t0, t1, t2, t3, t4, t5, t6, t7, t8, tz⟩ := hI
  have hX2 := hX
  unfold SafeX at hX2
  obtain ⟨h_t_net_size, h_t_order_size, h_t_order_knots, h_t_bags_size, h_t_law_size, h_t_going_left, h_t_plan_size, h_t_plan_knots, h_t_plan_others, h_t_plan_otherCount, h_t_plan_feeders, h_t_plan_feederCount, h_t_plan_places, h_t_plan_going_left, h_t_tally_openStates, h_t_tally_openCount, h_t_tally_picks, h_t_tally_strides, h_t_search_rest_left, h_lf⟩ := hX2
  obtain ⟨r, m, hr, hm, e⟩ := pair_rel a1 a2 a3 a4 ((σ.1 5)) ((σ.2.2.1 7)) ((σ.2.2.1 8)) h_t_law_size
  subst e
  rw [t4, t6, t7] at hm
  obtain ⟨⟨v, σ2⟩, hx, hX3, -⟩ := xs_pair a1 a2 a3 a4 σ hX
  obtain ⟨⟨w, μ2⟩, hy, hM3, -⟩ := ms_pair a1 a2 a3 a4 μ hM
  have hx0 := hx
  have hy0 := hy
  unfold sx_pair at hx
  rw [cal_e hr] at hx
  cases hx
  unfold sm_pair at hy
  rw [cal_e hm] at hy
  cases hy
  exact ⟨_, _, _, _, hx0, hy0, (by first | exact True.intro | exact rfl), hX3, hM3, t0, t1, t2, t3, t4, t5, rfl, rfl, t8, tz⟩
set_option maxRecDepth 10000 in
theorem ok2_24 (j : Nat) : Ok_24 I2 j := by
  intro a1 a2 σ μ hI
  obtain ⟨hX, hM, t0, t1, t2, t3, t4, t5, t6, t7, t8, tz⟩ := hI
  have hX2 := hX
  unfold SafeX at hX2
  obtain ⟨h_t_net_size, h_t_order_size, h_t_order_knots, h_t_bags_size, h_t_law_size, h_t_going_left, h_t_plan_size, h_t_plan_knots, h_t_plan_others, h_t_plan_otherCount, h_t_plan_feeders, h_t_plan_feederCount, h_t_plan_places, h_t_plan_going_left, h_t_tally_openStates, h_t_tally_openCount, h_t_tally_picks, h_t_tally_strides, h_t_search_rest_left, h_lf⟩ := hX2
  obtain ⟨r, hr, -⟩ := s_X8_forbid a1 a2 ((σ.1 0)) ((σ.2.2.1 9)) h_t_net_size
  have hm := hr
  rw [t0, t8] at hm
  rw [← forbid_eq] at hm
  obtain ⟨⟨v, σ2⟩, hx, hX3, -⟩ := xs_forbid a1 a2 σ hX
  obtain ⟨⟨w, μ2⟩, hy, hM3, -⟩ := ms_forbid a1 a2 μ hM
  have hx0 := hx
  have hy0 := hy
  unfold sx_forbid at hx
  rw [cal_e hr] at hx
  cases hx
  unfold sm_forbid at hy
  rw [cal_e hm] at hy
  cases hy
  exact ⟨_, _, _, _, hx0, hy0, (by first | exact True.intro | exact rfl), hX3, hM3, t0, t1, t2, t3, t4, t5, t6, t7, rfl, tz⟩
set_option maxRecDepth 10000 in
theorem ok2_25 (j : Nat) : Ok_25 I2 j := by
  intro  σ μ hI
  obtain ⟨hX, hM, t0, t1, t2, t3, t4, t5, t6, t7, t8, tz⟩ := hI
  obtain ⟨⟨v, σ2⟩, hx, hX2, k0, k1, k2, k3, k4, k5, k6, k7, k8⟩ := xs_ways  σ hX
  obtain ⟨⟨w, μ2⟩, hm, hM2, l0, l1, l2, l3, l4, l5, l6, l7, l8⟩ := ms_ways  μ hM
  exact ⟨v, σ2, w, μ2, hx, hm, trivial, hX2, hM2, k0.trans (t0.trans l0.symm), k1.trans (t1.trans l1.symm), k2.trans (t2.trans l2.symm), k3.trans (t3.trans l3.symm), k4.trans (t4.trans l4.symm), k5.trans (t5.trans l5.symm), k6.trans (t6.trans l6.symm), k7.trans (t7.trans l7.symm), k8.trans (t8.trans l8.symm), fun i hi => (congrFun k2 i).trans (tz i (by rw [← k0]; exact hi))⟩
set_option maxRecDepth 10000 in
theorem ok2_26 (j : Nat) : Ok_26 I2 j := by
  intro a1 σ μ _ hI
  obtain ⟨hX, hM, t0, t1, t2, t3, t4, t5, t6, t7, t8, tz⟩ := hI
  obtain ⟨⟨v, σ2⟩, hx, hX2, k0, k1, k2, k3, k4, k5, k6, k7, k8⟩ := xs_best a1 σ hX
  obtain ⟨⟨w, μ2⟩, hm, hM2, l0, l1, l2, l3, l4, l5, l6, l7, l8⟩ := ms_best a1 μ hM
  exact ⟨v, σ2, w, μ2, hx, hm, trivial, hX2, hM2, k0.trans (t0.trans l0.symm), k1.trans (t1.trans l1.symm), k2.trans (t2.trans l2.symm), k3.trans (t3.trans l3.symm), k4.trans (t4.trans l4.symm), k5.trans (t5.trans l5.symm), k6.trans (t6.trans l6.symm), k7.trans (t7.trans l7.symm), k8.trans (t8.trans l8.symm), fun i hi => (congrFun k2 i).trans (tz i (by rw [← k0]; exact hi))⟩
set_option maxRecDepth 10000 in
theorem ok2_27 (j : Nat) : Ok_27 I2 j := by
  intro a1 σ μ _ hI
  obtain ⟨hX, hM, t0, t1, t2, t3, t4, t5, t6, t7, t8, tz⟩ := hI
  obtain ⟨⟨v, σ2⟩, hx, hX2, k0, k1, k2, k3, k4, k5, k6, k7, k8⟩ := xs_bests a1 σ hX
  obtain ⟨⟨w, μ2⟩, hm, hM2, l0, l1, l2, l3, l4, l5, l6, l7, l8⟩ := ms_bests a1 μ hM
  exact ⟨v, σ2, w, μ2, hx, hm, trivial, hX2, hM2, k0.trans (t0.trans l0.symm), k1.trans (t1.trans l1.symm), k2.trans (t2.trans l2.symm), k3.trans (t3.trans l3.symm), k4.trans (t4.trans l4.symm), k5.trans (t5.trans l5.symm), k6.trans (t6.trans l6.symm), k7.trans (t7.trans l7.symm), k8.trans (t8.trans l8.symm), fun i hi => (congrFun k2 i).trans (tz i (by rw [← k0]; exact hi))⟩
set_option maxRecDepth 10000 in
theorem ok2_28 (j : Nat) : Ok_28 I2 j := by
  intro a1 a2 σ μ _ hI
  obtain ⟨hX, hM, t0, t1, t2, t3, t4, t5, t6, t7, t8, tz⟩ := hI
  obtain ⟨⟨v, σ2⟩, hx, hX2, k0, k1, k2, k3, k4, k5, k6, k7, k8⟩ := xs_choice a1 a2 σ hX
  obtain ⟨⟨w, μ2⟩, hm, hM2, l0, l1, l2, l3, l4, l5, l6, l7, l8⟩ := ms_choice a1 a2 μ hM
  exact ⟨v, σ2, w, μ2, hx, hm, trivial, hX2, hM2, k0.trans (t0.trans l0.symm), k1.trans (t1.trans l1.symm), k2.trans (t2.trans l2.symm), k3.trans (t3.trans l3.symm), k4.trans (t4.trans l4.symm), k5.trans (t5.trans l5.symm), k6.trans (t6.trans l6.symm), k7.trans (t7.trans l7.symm), k8.trans (t8.trans l8.symm), fun i hi => (congrFun k2 i).trans (tz i (by rw [← k0]; exact hi))⟩
set_option maxRecDepth 10000 in
theorem ok2_29 (j : Nat) : Ok_29 I2 j := by
  intro a1 a3 σ μ hI
  obtain ⟨hX, hM, t0, t1, t2, t3, t4, t5, t6, t7, t8, tz⟩ := hI
  obtain ⟨⟨v, σ2⟩, hx, hX2, k0, k1, k2, k3, k4, k5, k6, k7, k8⟩ := xs_drawn a1 a3 σ hX
  obtain ⟨⟨w, μ2⟩, hm, hM2, l0, l1, l2, l3, l4, l5, l6, l7, l8⟩ := ms_drawn a1 a3 μ hM
  exact ⟨v, σ2, w, μ2, hx, hm, trivial, hX2, hM2, k0.trans (t0.trans l0.symm), k1.trans (t1.trans l1.symm), k2.trans (t2.trans l2.symm), k3.trans (t3.trans l3.symm), k4.trans (t4.trans l4.symm), k5.trans (t5.trans l5.symm), k6.trans (t6.trans l6.symm), k7.trans (t7.trans l7.symm), k8.trans (t8.trans l8.symm), fun i hi => (congrFun k2 i).trans (tz i (by rw [← k0]; exact hi))⟩
set_option maxRecDepth 10000 in
theorem ok2_30 (j : Nat) : Ok_30 I2 j := by
  intro a1 a2 σ μ hI
  obtain ⟨hX, hM, t0, t1, t2, t3, t4, t5, t6, t7, t8, tz⟩ := hI
  obtain ⟨⟨v, σ2⟩, hx, hX2, k0, k1, k2, k3, k4, k5, k6, k7, k8⟩ := xs_share a1 a2 σ hX
  obtain ⟨⟨w, μ2⟩, hm, hM2, l0, l1, l2, l3, l4, l5, l6, l7, l8⟩ := ms_share a1 a2 μ hM
  exact ⟨v, σ2, w, μ2, hx, hm, trivial, hX2, hM2, k0.trans (t0.trans l0.symm), k1.trans (t1.trans l1.symm), k2.trans (t2.trans l2.symm), k3.trans (t3.trans l3.symm), k4.trans (t4.trans l4.symm), k5.trans (t5.trans l5.symm), k6.trans (t6.trans l6.symm), k7.trans (t7.trans l7.symm), k8.trans (t8.trans l8.symm), fun i hi => (congrFun k2 i).trans (tz i (by rw [← k0]; exact hi))⟩
set_option maxRecDepth 10000 in
theorem ok2_31 (j : Nat) : Ok_31 I2 j := by
  intro a1 σ μ hI
  obtain ⟨hX, hM, t0, t1, t2, t3, t4, t5, t6, t7, t8, tz⟩ := hI
  obtain ⟨⟨v, σ2⟩, hx, hX2, k0, k1, k2, k3, k4, k5, k6, k7, k8⟩ := xs_count a1 σ hX
  obtain ⟨⟨w, μ2⟩, hm, hM2, l0, l1, l2, l3, l4, l5, l6, l7, l8⟩ := ms_count a1 μ hM
  exact ⟨v, σ2, w, μ2, hx, hm, trivial, hX2, hM2, k0.trans (t0.trans l0.symm), k1.trans (t1.trans l1.symm), k2.trans (t2.trans l2.symm), k3.trans (t3.trans l3.symm), k4.trans (t4.trans l4.symm), k5.trans (t5.trans l5.symm), k6.trans (t6.trans l6.symm), k7.trans (t7.trans l7.symm), k8.trans (t8.trans l8.symm), fun i hi => (congrFun k2 i).trans (tz i (by rw [← k0]; exact hi))⟩
theorem all2 (j : Nat) : OkAll I2 j := ⟨ok2_0 j, ok2_1 j, ok2_2 j, ok2_3 j, ok2_4 j, ok2_5 j, ok2_6 j, ok2_7 j, ok2_8 j, ok2_9 j, ok2_10 j, ok2_11 j, ok2_12 j, ok2_13 j, ok2_14 j, ok2_15 j, ok2_16 j, ok2_17 j, ok2_18 j, ok2_19 j, ok2_20 j, ok2_21 j, ok2_22 j, ok2_23 j, ok2_24 j, ok2_25 j, ok2_26 j, ok2_27 j, ok2_28 j, ok2_29 j, ok2_30 j, ok2_31 j⟩
theorem z_rg {lo hi : Int} (h1 : lo ≤ 0) (h2 : 0 ≤ hi) : lo ≤ (0 : Int32).toInt ∧ (0 : Int32).toInt ≤ hi := ⟨h1, h2⟩
theorem z_pl {n : Int} : 0 ≤ (0 : Int32).toInt ∧ ((0 : Int32).toInt = 0 ∨ (0 : Int32).toInt < n) := ⟨by decide, Or.inl rfl⟩
theorem I2_0 : I2 0 σ0 μ0 := ⟨⟨by decide, by decide, fun _ => z_rg (by decide) (by decide), by decide, by decide, by decide, by decide, fun _ => z_rg (by decide) (by decide), fun _ => z_rg (by decide) (by decide), fun _ => z_rg (by decide) (by decide), fun _ => z_rg (by decide) (by decide), fun _ => z_rg (by decide) (by decide), fun _ => z_pl, by decide, fun _ => z_rg (by decide) (by decide), fun _ => z_rg (by decide) (by decide), fun _ => z_rg (by decide) (by decide), fun _ => ⟨z_rg (by decide) (by decide), z_rg (by decide) (by decide), z_rg (by decide) (by decide), z_rg (by decide) (by decide)⟩, by decide, fun _ => z_rg (by decide) (by decide)⟩, ⟨by decide, by decide, by decide, by decide, fun _ => z_rg (by decide) (by decide), fun _ => z_rg (by decide) (by decide), fun _ => z_rg (by decide) (by decide), fun _ => z_rg (by decide) (by decide), fun _ => z_rg (by decide) (by decide), RW_0 _⟩, rfl, rfl, rfl, rfl, rfl, rfl, rfl, rfl, rfl, fun _ _ => rfl⟩
